abbrev Y_Lw_law : Ym := (⟨"RiceHallLaw", "law", "([I)Z"⟩, code, 4, (some FieldType.boolean))
theorem bc_Lw_law_0 : bts code 0 [187, 0, 7, 89, 183, 0, 9, 76, 187, 0, 10, 89, 183, 0, 12, 77, 3, 62, 29, 42, 190, 16, 6, 100, 163, 6, 34, 42, 29, 46, 16, 63] := bts_of (by decide +kernel)
theorem bc_Lw_law_1 : bts code 32 [126, 170, 0, 0, 0, 0, 6, 19, 0, 0, 0, 0, 0, 0, 0, 39, 0, 0, 0, 175, 0, 0, 0, 188, 0, 0, 0, 231, 0, 0, 1, 28] := bts_of (by decide +kernel)
theorem bc_Lw_law_2 : bts code 64 [0, 0, 1, 71, 0, 0, 1, 94, 0, 0, 1, 137, 0, 0, 1, 150, 0, 0, 1, 203, 0, 0, 2, 0, 0, 0, 2, 43, 0, 0, 2, 76] := bts_of (by decide +kernel)
theorem bc_Lw_law_3 : bts code 96 [0, 0, 2, 109, 0, 0, 2, 142, 0, 0, 2, 175, 0, 0, 2, 208, 0, 0, 2, 232, 0, 0, 3, 9, 0, 0, 3, 42, 0, 0, 3, 105] := bts_of (by decide +kernel)
theorem bc_Lw_law_4 : bts code 128 [0, 0, 3, 138, 0, 0, 3, 151, 0, 0, 3, 174, 0, 0, 3, 197, 0, 0, 3, 220, 0, 0, 3, 233, 0, 0, 4, 46, 0, 0, 4, 69] := bts_of (by decide +kernel)
theorem bc_Lw_law_5 : bts code 160 [0, 0, 4, 138, 0, 0, 4, 187, 0, 0, 4, 210, 0, 0, 4, 243, 0, 0, 5, 30, 0, 0, 5, 53, 0, 0, 5, 96, 0, 0, 5, 129] := bts_of (by decide +kernel)
theorem bc_Lw_law_6 : bts code 192 [0, 0, 5, 172, 0, 0, 5, 195, 0, 0, 5, 228, 0, 0, 5, 251, 43, 182, 0, 13, 44, 182, 0, 17, 159, 5, 92, 3, 172, 43, 42, 29] := bts_of (by decide +kernel)
theorem bc_Lw_law_7 : bts code 224 [4, 96, 46, 42, 29, 5, 96, 46, 42, 29, 6, 96, 46, 182, 0, 18, 44, 42, 29, 4, 96, 46, 42, 29, 5, 96, 46, 42, 29, 6, 96, 46] := bts_of (by decide +kernel)
theorem bc_Lw_law_8 : bts code 256 [182, 0, 22, 159, 5, 49, 3, 172, 43, 42, 29, 4, 96, 46, 42, 29, 5, 96, 46, 42, 29, 6, 96, 46, 42, 29, 7, 96, 46, 182, 0, 23] := bts_of (by decide +kernel)
theorem bc_Lw_law_9 : bts code 288 [44, 42, 29, 4, 96, 46, 42, 29, 5, 96, 46, 42, 29, 6, 96, 46, 42, 29, 7, 96, 46, 182, 0, 27, 159, 4, 252, 3, 172, 43, 42, 29] := bts_of (by decide +kernel)
theorem bc_Lw_law_10 : bts code 320 [4, 96, 46, 42, 29, 5, 96, 46, 42, 29, 6, 96, 46, 182, 0, 28, 44, 42, 29, 4, 96, 46, 42, 29, 5, 96, 46, 42, 29, 6, 96, 46] := bts_of (by decide +kernel)
theorem bc_Lw_law_11 : bts code 352 [182, 0, 32, 159, 4, 209, 3, 172, 43, 42, 29, 4, 96, 46, 182, 0, 33, 44, 42, 29, 4, 96, 46, 182, 0, 37, 159, 4, 186, 3, 172, 43] := bts_of (by decide +kernel)
theorem bc_Lw_law_12 : bts code 384 [42, 29, 4, 96, 46, 42, 29, 5, 96, 46, 42, 29, 6, 96, 46, 182, 0, 38, 44, 42, 29, 4, 96, 46, 42, 29, 5, 96, 46, 42, 29, 6] := bts_of (by decide +kernel)
theorem bc_Lw_law_13 : bts code 416 [96, 46, 182, 0, 41, 159, 4, 143, 3, 172, 43, 182, 0, 42, 44, 182, 0, 45, 159, 4, 130, 3, 172, 43, 42, 29, 4, 96, 46, 42, 29, 5] := bts_of (by decide +kernel)
theorem bc_Lw_law_14 : bts code 448 [96, 46, 42, 29, 6, 96, 46, 42, 29, 7, 96, 46, 182, 0, 46, 44, 42, 29, 4, 96, 46, 42, 29, 5, 96, 46, 42, 29, 6, 96, 46, 42] := bts_of (by decide +kernel)
theorem bc_Lw_law_15 : bts code 480 [29, 7, 96, 46, 182, 0, 50, 159, 4, 77, 3, 172, 43, 42, 29, 4, 96, 46, 42, 29, 5, 96, 46, 42, 29, 6, 96, 46, 42, 29, 7, 96] := bts_of (by decide +kernel)
theorem bc_Lw_law_16 : bts code 512 [46, 182, 0, 51, 44, 42, 29, 4, 96, 46, 42, 29, 5, 96, 46, 42, 29, 6, 96, 46, 42, 29, 7, 96, 46, 182, 0, 54, 159, 4, 24, 3] := bts_of (by decide +kernel)
theorem bc_Lw_law_17 : bts code 544 [172, 43, 42, 29, 4, 96, 46, 42, 29, 5, 96, 46, 42, 29, 6, 96, 46, 182, 0, 55, 44, 42, 29, 4, 96, 46, 42, 29, 5, 96, 46, 42] := bts_of (by decide +kernel)
theorem bc_Lw_law_18 : bts code 576 [29, 6, 96, 46, 182, 0, 58, 159, 3, 237, 3, 172, 43, 42, 29, 4, 96, 46, 42, 29, 5, 96, 46, 182, 0, 59, 44, 42, 29, 4, 96, 46] := bts_of (by decide +kernel)
theorem bc_Lw_law_19 : bts code 608 [42, 29, 5, 96, 46, 182, 0, 63, 159, 3, 204, 3, 172, 43, 42, 29, 4, 96, 46, 42, 29, 5, 96, 46, 182, 0, 64, 44, 42, 29, 4, 96] := bts_of (by decide +kernel)
theorem bc_Lw_law_20 : bts code 640 [46, 42, 29, 5, 96, 46, 182, 0, 67, 159, 3, 171, 3, 172, 43, 42, 29, 4, 96, 46, 42, 29, 5, 96, 46, 182, 0, 68, 44, 42, 29, 4] := bts_of (by decide +kernel)
theorem bc_Lw_law_21 : bts code 672 [96, 46, 42, 29, 5, 96, 46, 182, 0, 71, 159, 3, 138, 3, 172, 43, 42, 29, 4, 96, 46, 42, 29, 5, 96, 46, 182, 0, 72, 44, 42, 29] := bts_of (by decide +kernel)
theorem bc_Lw_law_22 : bts code 704 [4, 96, 46, 42, 29, 5, 96, 46, 182, 0, 75, 159, 3, 105, 3, 172, 43, 42, 29, 4, 96, 46, 42, 29, 5, 96, 46, 182, 0, 76, 44, 42] := bts_of (by decide +kernel)
theorem bc_Lw_law_23 : bts code 736 [29, 4, 96, 46, 42, 29, 5, 96, 46, 182, 0, 79, 159, 3, 72, 3, 172, 43, 42, 29, 4, 96, 46, 182, 0, 80, 44, 42, 29, 4, 96, 46] := bts_of (by decide +kernel)
theorem bc_Lw_law_24 : bts code 768 [182, 0, 84, 148, 153, 3, 48, 3, 172, 43, 42, 29, 4, 96, 46, 42, 29, 5, 96, 46, 182, 0, 85, 44, 42, 29, 4, 96, 46, 42, 29, 5] := bts_of (by decide +kernel)
theorem bc_Lw_law_25 : bts code 800 [96, 46, 182, 0, 89, 159, 3, 15, 3, 172, 43, 42, 29, 4, 96, 46, 42, 29, 5, 96, 46, 182, 0, 90, 44, 42, 29, 4, 96, 46, 42, 29] := bts_of (by decide +kernel)
theorem bc_Lw_law_26 : bts code 832 [5, 96, 46, 182, 0, 93, 159, 2, 238, 3, 172, 43, 42, 29, 4, 96, 46, 42, 29, 5, 96, 46, 42, 29, 6, 96, 46, 42, 29, 7, 96, 46] := bts_of (by decide +kernel)
theorem bc_Lw_law_27 : bts code 864 [42, 29, 8, 96, 46, 182, 0, 94, 44, 42, 29, 4, 96, 46, 42, 29, 5, 96, 46, 42, 29, 6, 96, 46, 42, 29, 7, 96, 46, 42, 29, 8] := bts_of (by decide +kernel)
theorem bc_Lw_law_28 : bts code 896 [96, 46, 182, 0, 98, 159, 2, 175, 3, 172, 43, 42, 29, 4, 96, 46, 42, 29, 5, 96, 46, 182, 0, 99, 44, 42, 29, 4, 96, 46, 42, 29] := bts_of (by decide +kernel)
theorem bc_Lw_law_29 : bts code 928 [5, 96, 46, 182, 0, 102, 159, 2, 142, 3, 172, 43, 182, 0, 103, 44, 182, 0, 106, 159, 2, 129, 3, 172, 43, 42, 29, 4, 96, 46, 182, 0] := bts_of (by decide +kernel)
theorem bc_Lw_law_30 : bts code 960 [107, 44, 42, 29, 4, 96, 46, 182, 0, 110, 159, 2, 106, 3, 172, 43, 42, 29, 4, 96, 46, 182, 0, 111, 44, 42, 29, 4, 96, 46, 182, 0] := bts_of (by decide +kernel)
theorem bc_Lw_law_31 : bts code 992 [114, 159, 2, 83, 3, 172, 43, 42, 29, 4, 96, 46, 182, 0, 115, 44, 42, 29, 4, 96, 46, 182, 0, 119, 159, 2, 60, 3, 172, 43, 182, 0] := bts_of (by decide +kernel)
theorem bc_Lw_law_32 : bts code 1024 [120, 44, 182, 0, 123, 159, 2, 47, 3, 172, 43, 42, 29, 4, 96, 46, 42, 29, 5, 96, 46, 153, 0, 7, 4, 167, 0, 4, 3, 42, 29, 6] := bts_of (by decide +kernel)
theorem bc_Lw_law_33 : bts code 1056 [96, 46, 42, 29, 7, 96, 46, 182, 0, 124, 44, 42, 29, 4, 96, 46, 42, 29, 5, 96, 46, 153, 0, 7, 4, 167, 0, 4, 3, 42, 29, 6] := bts_of (by decide +kernel)
theorem bc_Lw_law_34 : bts code 1088 [96, 46, 42, 29, 7, 96, 46, 182, 0, 128, 159, 1, 234, 3, 172, 43, 42, 29, 4, 96, 46, 182, 0, 129, 44, 42, 29, 4, 96, 46, 182, 0] := bts_of (by decide +kernel)
theorem bc_Lw_law_35 : bts code 1120 [132, 159, 1, 211, 3, 172, 43, 42, 29, 4, 96, 46, 42, 29, 5, 96, 46, 153, 0, 7, 4, 167, 0, 4, 3, 42, 29, 6, 96, 46, 42, 29] := bts_of (by decide +kernel)
theorem bc_Lw_law_36 : bts code 1152 [7, 96, 46, 182, 0, 133, 44, 42, 29, 4, 96, 46, 42, 29, 5, 96, 46, 153, 0, 7, 4, 167, 0, 4, 3, 42, 29, 6, 96, 46, 42, 29] := bts_of (by decide +kernel)
theorem bc_Lw_law_37 : bts code 1184 [7, 96, 46, 182, 0, 137, 159, 1, 142, 3, 172, 43, 42, 29, 4, 96, 46, 42, 29, 5, 96, 46, 153, 0, 7, 4, 167, 0, 4, 3, 182, 0] := bts_of (by decide +kernel)
theorem bc_Lw_law_38 : bts code 1216 [138, 44, 42, 29, 4, 96, 46, 42, 29, 5, 96, 46, 153, 0, 7, 4, 167, 0, 4, 3, 182, 0, 142, 159, 1, 93, 3, 172, 43, 42, 29, 4] := bts_of (by decide +kernel)
theorem bc_Lw_law_39 : bts code 1248 [96, 46, 182, 0, 143, 44, 42, 29, 4, 96, 46, 182, 0, 146, 159, 1, 70, 3, 172, 43, 42, 29, 4, 96, 46, 42, 29, 5, 96, 46, 182, 0] := bts_of (by decide +kernel)
theorem bc_Lw_law_40 : bts code 1280 [147, 44, 42, 29, 4, 96, 46, 42, 29, 5, 96, 46, 182, 0, 150, 159, 1, 37, 3, 172, 43, 42, 29, 4, 96, 46, 42, 29, 5, 96, 46, 42] := bts_of (by decide +kernel)
theorem bc_Lw_law_41 : bts code 1312 [29, 6, 96, 46, 182, 0, 151, 44, 42, 29, 4, 96, 46, 42, 29, 5, 96, 46, 42, 29, 6, 96, 46, 182, 0, 154, 159, 0, 250, 3, 172, 43] := bts_of (by decide +kernel)
theorem bc_Lw_law_42 : bts code 1344 [42, 29, 4, 96, 46, 182, 0, 155, 44, 42, 29, 4, 96, 46, 182, 0, 158, 159, 0, 227, 3, 172, 43, 42, 29, 4, 96, 46, 42, 29, 5, 96] := bts_of (by decide +kernel)
theorem bc_Lw_law_43 : bts code 1376 [46, 42, 29, 6, 96, 46, 182, 0, 159, 44, 42, 29, 4, 96, 46, 42, 29, 5, 96, 46, 42, 29, 6, 96, 46, 182, 0, 162, 159, 0, 184, 3] := bts_of (by decide +kernel)
theorem bc_Lw_law_44 : bts code 1408 [172, 43, 42, 29, 4, 96, 46, 42, 29, 5, 96, 46, 182, 0, 163, 44, 42, 29, 4, 96, 46, 42, 29, 5, 96, 46, 182, 0, 166, 159, 0, 151] := bts_of (by decide +kernel)
theorem bc_Lw_law_45 : bts code 1440 [3, 172, 43, 42, 29, 4, 96, 46, 42, 29, 5, 96, 46, 42, 29, 6, 96, 46, 182, 0, 167, 44, 42, 29, 4, 96, 46, 42, 29, 5, 96, 46] := bts_of (by decide +kernel)
theorem bc_Lw_law_46 : bts code 1472 [42, 29, 6, 96, 46, 182, 0, 170, 159, 0, 108, 3, 172, 43, 42, 29, 4, 96, 46, 182, 0, 171, 44, 42, 29, 4, 96, 46, 182, 0, 174, 159] := bts_of (by decide +kernel)
theorem bc_Lw_law_47 : bts code 1504 [0, 85, 3, 172, 43, 42, 29, 4, 96, 46, 42, 29, 5, 96, 46, 182, 0, 175, 44, 42, 29, 4, 96, 46, 42, 29, 5, 96, 46, 182, 0, 178] := bts_of (by decide +kernel)
theorem bc_Lw_law_48 : bts code 1536 [159, 0, 52, 3, 172, 43, 42, 29, 4, 96, 46, 182, 0, 179, 44, 42, 29, 4, 96, 46, 182, 0, 182, 159, 0, 29, 3, 172, 43, 42, 29, 4] := bts_of (by decide +kernel)
theorem bc_Lw_law_49 : bts code 1568 [96, 46, 182, 0, 183, 44, 42, 29, 4, 96, 46, 182, 0, 186, 148, 153, 0, 5, 3, 172, 132, 3, 6, 167, 249, 219, 4, 172] := bts_of (by decide +kernel)
set_option maxRecDepth 100000 in
theorem ds_Lw_law_33 : decode code 33 = .ok (.tableswitch (1555) (0) (39) #[175, 188, 231, 284, 327, 350, 393, 406, 459, 512, 555, 588, 621, 654, 687, 720, 744, 777, 810, 873, 906, 919, 942, 965, 988, 1001, 1070, 1093, 1162, 1211, 1234, 1267, 1310, 1333, 1376, 1409, 1452, 1475, 1508, 1531], 175) := by decide +kernel
def Lw_law_J1588 (xs : Nat → Int32) (nx : Nat) (k18 : Nat → Nat → Int32 → Mm → Option (Int32 × Mm)) (x1 : Nat) (x2 : Nat) (x3 : Int32) (M : Mm) : Option (Int32 × Mm) :=
  let v14 : Int32 := x3 + 6
  k18 x1 x2 v14 M
set_option maxRecDepth 100000 in
set_option maxHeartbeats 4000000 in
theorem e_Lw_law_J1588 {G : Gx} {xs : Nat → Int32} {nx : Nat} (hxs : gS G = xs) (hnx : gN G = nx) (k18 : Nat → Nat → Int32 → Mm → Option (Int32 × Mm)) (hk18 : ∀ (x1 : Nat) (x2 : Nat) (x3 : Int32) (M : Mm), EJ G Y_Lw_law cvI 50 18 [(0, .ref 3), (1, .ref x1), (2, .ref x2), (3, .int x3)] [] M (k18 x1 x2 x3 M)) (x1 : Nat) (x2 : Nat) (x3 : Int32) (M : Mm) : EJ G Y_Lw_law cvI 50 1588 [(0, .ref 3), (1, .ref x1), (2, .ref x2), (3, .int x3)] [] M (Lw_law_J1588 xs nx k18 x1 x2 x3 M) := by
  unfold Lw_law_J1588
  refine EJ_iinc 1591 3 (lv2 := [(3, .int _), (0, .ref _), (1, .ref _), (2, .ref _)]) (dk_132 (bt bc_Lw_law_49 20 rfl) (bt bc_Lw_law_49 21 rfl) (bt bc_Lw_law_49 22 rfl) (n := 6) rfl) rfl (by decide) rfl (v := 6) kI_6 rfl ?_
  refine EJ_goto 18 (dk_167 (bt bc_Lw_law_49 23 rfl) (bt bc_Lw_law_49 24 rfl) (bt bc_Lw_law_49 25 rfl) (n := -1573) rfl) (by decide) ?_
  exact EJ_pick (lv2 := [(0, .ref 3), (1, .ref _), (2, .ref _), (3, .int _)]) [1, 2, 3, 0] rfl (hk18 _ _ _ _)
def Lw_law_J1085 (xs : Nat → Int32) (nx : Nat) (k18 : Nat → Nat → Int32 → Mm → Option (Int32 × Mm)) (x1 : Nat) (x2 : Nat) (x3 : Int32) (s0 : Int32) (s1 : Int32) (s2 : Nat) (s3 : Int32) (M : Mm) : Option (Int32 × Mm) :=
  ck (kS nx (x3 + 3)) (
  ck (kS nx (x3 + 4)) (
  ck (kO M s2 12 107) (
  bd (Mod_cry M s2 s1 s0 (xs (ix (x3 + 3))) (xs (ix (x3 + 4)))) (fun r271 M272 =>
  if s3 = r271 then (
    Lw_law_J1588 xs nx k18 x1 x2 x3 M272)
  else (
    some (0, M272))))))
set_option maxRecDepth 100000 in
set_option maxHeartbeats 4000000 in
theorem e_Lw_law_J1085 {G : Gx} {xs : Nat → Int32} {nx : Nat} (hxs : gS G = xs) (hnx : gN G = nx) (k18 : Nat → Nat → Int32 → Mm → Option (Int32 × Mm)) (hk18 : ∀ (x1 : Nat) (x2 : Nat) (x3 : Int32) (M : Mm), EJ G Y_Lw_law cvI 50 18 [(0, .ref 3), (1, .ref x1), (2, .ref x2), (3, .int x3)] [] M (k18 x1 x2 x3 M)) (x1 : Nat) (x2 : Nat) (x3 : Int32) (s0 : Int32) (s1 : Int32) (s2 : Nat) (s3 : Int32) (M : Mm) : EJ G Y_Lw_law cvI 50 1085 [(0, .ref 3), (1, .ref x1), (2, .ref x2), (3, .int x3)] [.int s0, .int s1, .ref s2, .int s3] M (Lw_law_J1085 xs nx k18 x1 x2 x3 s0 s1 s2 s3 M) := by
  unfold Lw_law_J1085
  refine EJ_aload_n 1086 0 (dk_42 (bt bc_Lw_law_33 29 rfl)) rfl rfl ?_
  refine EJ_iload_n 1087 3 (dk_29 (bt bc_Lw_law_33 30 rfl)) rfl rfl ?_
  refine EJ_iconst 1088 (dk_6 (bt bc_Lw_law_33 31 rfl)) rfl (v := 3) kI_3 ?_
  refine EJ_iadd 1089 (dk_96 (bt bc_Lw_law_34 0 rfl)) rfl ?_
  refine EJ_ck (fun h268 => ?_)
  refine EJ_sld (Y := Y_Lw_law) hxs hnx 1090 h268 (dk_46 (bt bc_Lw_law_34 1 rfl)) rfl ?_
  refine EJ_aload_n 1091 0 (dk_42 (bt bc_Lw_law_34 2 rfl)) rfl rfl ?_
  refine EJ_iload_n 1092 3 (dk_29 (bt bc_Lw_law_34 3 rfl)) rfl rfl ?_
  refine EJ_iconst 1093 (dk_7 (bt bc_Lw_law_34 4 rfl)) rfl (v := 4) kI_4 ?_
  refine EJ_iadd 1094 (dk_96 (bt bc_Lw_law_34 5 rfl)) rfl ?_
  refine EJ_ck (fun h269 => ?_)
  refine EJ_sld (Y := Y_Lw_law) hxs hnx 1095 h269 (dk_46 (bt bc_Lw_law_34 6 rfl)) rfl ?_
  refine EJ_ck (fun h270 => ?_)
  refine EJ_callVi (Y2 := Y_Mod_cry) 1098 cf12 (s_Mod_cry G _ _ _ _ _ _) (of_decide_eq_true h270) rfl (dk_182 (bt bc_Lw_law_34 7 rfl) (bt bc_Lw_law_34 8 rfl) (bt bc_Lw_law_34 9 rfl) (n := 128) rfl) rfl tw_1793 tw_1794 tw_1795 tw_1796 hd_Mod_cry rfl (by decide) (Nat.le_of_ble_eq_true rfl) (fun r271 M272 => ?_)
  refine EJ_icmp_eq 1588 1101 (dk_159 (bt bc_Lw_law_34 10 rfl) (bt bc_Lw_law_34 11 rfl) (bt bc_Lw_law_34 12 rfl) (n := 490) rfl) (by decide) rfl (fun _ => ?_) (fun _ => ?_)
  · exact EJ_pick (lv2 := [(0, .ref 3), (1, .ref _), (2, .ref _), (3, .int _)]) [0, 1, 2, 3] rfl (e_Lw_law_J1588 hxs hnx k18 hk18 _ _ _ _)
  · refine EJ_iconst 1102 (dk_3 (bt bc_Lw_law_34 13 rfl)) rfl (v := 0) kI_0 ?_
    exact EJ_zret rfl (by decide) (dk_172 (bt bc_Lw_law_34 14 rfl))
def Lw_law_J1053 (xs : Nat → Int32) (nx : Nat) (k18 : Nat → Nat → Int32 → Mm → Option (Int32 × Mm)) (x1 : Nat) (x2 : Nat) (x3 : Int32) (s0 : Int32) (s1 : Int32) (s2 : Nat) (M : Mm) : Option (Int32 × Mm) :=
  ck (kS nx (x3 + 3)) (
  ck (kS nx (x3 + 4)) (
  ck (kO M s2 11 18) (
  bd (Hall_cry M s2 s1 s0 (xs (ix (x3 + 3))) (xs (ix (x3 + 4)))) (fun r264 M265 =>
  ck (kS nx (x3 + 1)) (
  ck (kS nx (x3 + 2)) (
  if (xs (ix (x3 + 2))) = 0 then (
    Lw_law_J1085 xs nx k18 x1 x2 x3 0 (xs (ix (x3 + 1))) x2 r264 M265)
  else (
    Lw_law_J1085 xs nx k18 x1 x2 x3 1 (xs (ix (x3 + 1))) x2 r264 M265)))))))
set_option maxRecDepth 100000 in
set_option maxHeartbeats 4000000 in
theorem e_Lw_law_J1053 {G : Gx} {xs : Nat → Int32} {nx : Nat} (hxs : gS G = xs) (hnx : gN G = nx) (k18 : Nat → Nat → Int32 → Mm → Option (Int32 × Mm)) (hk18 : ∀ (x1 : Nat) (x2 : Nat) (x3 : Int32) (M : Mm), EJ G Y_Lw_law cvI 50 18 [(0, .ref 3), (1, .ref x1), (2, .ref x2), (3, .int x3)] [] M (k18 x1 x2 x3 M)) (x1 : Nat) (x2 : Nat) (x3 : Int32) (s0 : Int32) (s1 : Int32) (s2 : Nat) (M : Mm) : EJ G Y_Lw_law cvI 50 1053 [(0, .ref 3), (1, .ref x1), (2, .ref x2), (3, .int x3)] [.int s0, .int s1, .ref s2] M (Lw_law_J1053 xs nx k18 x1 x2 x3 s0 s1 s2 M) := by
  unfold Lw_law_J1053
  refine EJ_aload_n 1054 0 (dk_42 (bt bc_Lw_law_32 29 rfl)) rfl rfl ?_
  refine EJ_iload_n 1055 3 (dk_29 (bt bc_Lw_law_32 30 rfl)) rfl rfl ?_
  refine EJ_iconst 1056 (dk_6 (bt bc_Lw_law_32 31 rfl)) rfl (v := 3) kI_3 ?_
  refine EJ_iadd 1057 (dk_96 (bt bc_Lw_law_33 0 rfl)) rfl ?_
  refine EJ_ck (fun h261 => ?_)
  refine EJ_sld (Y := Y_Lw_law) hxs hnx 1058 h261 (dk_46 (bt bc_Lw_law_33 1 rfl)) rfl ?_
  refine EJ_aload_n 1059 0 (dk_42 (bt bc_Lw_law_33 2 rfl)) rfl rfl ?_
  refine EJ_iload_n 1060 3 (dk_29 (bt bc_Lw_law_33 3 rfl)) rfl rfl ?_
  refine EJ_iconst 1061 (dk_7 (bt bc_Lw_law_33 4 rfl)) rfl (v := 4) kI_4 ?_
  refine EJ_iadd 1062 (dk_96 (bt bc_Lw_law_33 5 rfl)) rfl ?_
  refine EJ_ck (fun h262 => ?_)
  refine EJ_sld (Y := Y_Lw_law) hxs hnx 1063 h262 (dk_46 (bt bc_Lw_law_33 6 rfl)) rfl ?_
  refine EJ_ck (fun h263 => ?_)
  refine EJ_callVi (Y2 := Y_Hall_cry) 1066 cf11 (s_Hall_cry G _ _ _ _ _ _) (of_decide_eq_true h263) rfl (dk_182 (bt bc_Lw_law_33 7 rfl) (bt bc_Lw_law_33 8 rfl) (bt bc_Lw_law_33 9 rfl) (n := 124) rfl) rfl tw_873 tw_874 tw_875 tw_876 hd_Hall_cry rfl (by decide) (Nat.le_of_ble_eq_true rfl) (fun r264 M265 => ?_)
  refine EJ_aload_n 1067 2 (dk_44 (bt bc_Lw_law_33 10 rfl)) rfl rfl ?_
  refine EJ_aload_n 1068 0 (dk_42 (bt bc_Lw_law_33 11 rfl)) rfl rfl ?_
  refine EJ_iload_n 1069 3 (dk_29 (bt bc_Lw_law_33 12 rfl)) rfl rfl ?_
  refine EJ_iconst 1070 (dk_4 (bt bc_Lw_law_33 13 rfl)) rfl (v := 1) kI_1 ?_
  refine EJ_iadd 1071 (dk_96 (bt bc_Lw_law_33 14 rfl)) rfl ?_
  refine EJ_ck (fun h266 => ?_)
  refine EJ_sld (Y := Y_Lw_law) hxs hnx 1072 h266 (dk_46 (bt bc_Lw_law_33 15 rfl)) rfl ?_
  refine EJ_aload_n 1073 0 (dk_42 (bt bc_Lw_law_33 16 rfl)) rfl rfl ?_
  refine EJ_iload_n 1074 3 (dk_29 (bt bc_Lw_law_33 17 rfl)) rfl rfl ?_
  refine EJ_iconst 1075 (dk_5 (bt bc_Lw_law_33 18 rfl)) rfl (v := 2) kI_2 ?_
  refine EJ_iadd 1076 (dk_96 (bt bc_Lw_law_33 19 rfl)) rfl ?_
  refine EJ_ck (fun h267 => ?_)
  refine EJ_sld (Y := Y_Lw_law) hxs hnx 1077 h267 (dk_46 (bt bc_Lw_law_33 20 rfl)) rfl ?_
  refine EJ_if_eq 1084 1080 (dk_153 (bt bc_Lw_law_33 21 rfl) (bt bc_Lw_law_33 22 rfl) (bt bc_Lw_law_33 23 rfl) (n := 7) rfl) (by decide) rfl (fun _ => ?_) (fun _ => ?_)
  · refine EJ_iconst 1085 (dk_3 (bt bc_Lw_law_33 28 rfl)) rfl (v := 0) kI_0 ?_
    exact EJ_pick (lv2 := [(0, .ref 3), (1, .ref _), (2, .ref _), (3, .int _)]) [0, 1, 2, 3] rfl (e_Lw_law_J1085 hxs hnx k18 hk18 _ _ _ _ _ _ _ _)
  · refine EJ_iconst 1081 (dk_4 (bt bc_Lw_law_33 24 rfl)) rfl (v := 1) kI_1 ?_
    refine EJ_goto 1085 (dk_167 (bt bc_Lw_law_33 25 rfl) (bt bc_Lw_law_33 26 rfl) (bt bc_Lw_law_33 27 rfl) (n := 4) rfl) (by decide) ?_
    exact EJ_pick (lv2 := [(0, .ref 3), (1, .ref _), (2, .ref _), (3, .int _)]) [0, 1, 2, 3] rfl (e_Lw_law_J1085 hxs hnx k18 hk18 _ _ _ _ _ _ _ _)
def Lw_law_J1177 (xs : Nat → Int32) (nx : Nat) (k18 : Nat → Nat → Int32 → Mm → Option (Int32 × Mm)) (x1 : Nat) (x2 : Nat) (x3 : Int32) (s0 : Int32) (s1 : Int32) (s2 : Nat) (s3 : Int32) (M : Mm) : Option (Int32 × Mm) :=
  ck (kS nx (x3 + 3)) (
  ck (kS nx (x3 + 4)) (
  ck (kO M s2 12 107) (
  bd (Mod_note M s2 s1 s0 (xs (ix (x3 + 3))) (xs (ix (x3 + 4)))) (fun r293 M294 =>
  if s3 = r293 then (
    Lw_law_J1588 xs nx k18 x1 x2 x3 M294)
  else (
    some (0, M294))))))
set_option maxRecDepth 100000 in
set_option maxHeartbeats 4000000 in
theorem e_Lw_law_J1177 {G : Gx} {xs : Nat → Int32} {nx : Nat} (hxs : gS G = xs) (hnx : gN G = nx) (k18 : Nat → Nat → Int32 → Mm → Option (Int32 × Mm)) (hk18 : ∀ (x1 : Nat) (x2 : Nat) (x3 : Int32) (M : Mm), EJ G Y_Lw_law cvI 50 18 [(0, .ref 3), (1, .ref x1), (2, .ref x2), (3, .int x3)] [] M (k18 x1 x2 x3 M)) (x1 : Nat) (x2 : Nat) (x3 : Int32) (s0 : Int32) (s1 : Int32) (s2 : Nat) (s3 : Int32) (M : Mm) : EJ G Y_Lw_law cvI 50 1177 [(0, .ref 3), (1, .ref x1), (2, .ref x2), (3, .int x3)] [.int s0, .int s1, .ref s2, .int s3] M (Lw_law_J1177 xs nx k18 x1 x2 x3 s0 s1 s2 s3 M) := by
  unfold Lw_law_J1177
  refine EJ_aload_n 1178 0 (dk_42 (bt bc_Lw_law_36 25 rfl)) rfl rfl ?_
  refine EJ_iload_n 1179 3 (dk_29 (bt bc_Lw_law_36 26 rfl)) rfl rfl ?_
  refine EJ_iconst 1180 (dk_6 (bt bc_Lw_law_36 27 rfl)) rfl (v := 3) kI_3 ?_
  refine EJ_iadd 1181 (dk_96 (bt bc_Lw_law_36 28 rfl)) rfl ?_
  refine EJ_ck (fun h290 => ?_)
  refine EJ_sld (Y := Y_Lw_law) hxs hnx 1182 h290 (dk_46 (bt bc_Lw_law_36 29 rfl)) rfl ?_
  refine EJ_aload_n 1183 0 (dk_42 (bt bc_Lw_law_36 30 rfl)) rfl rfl ?_
  refine EJ_iload_n 1184 3 (dk_29 (bt bc_Lw_law_36 31 rfl)) rfl rfl ?_
  refine EJ_iconst 1185 (dk_7 (bt bc_Lw_law_37 0 rfl)) rfl (v := 4) kI_4 ?_
  refine EJ_iadd 1186 (dk_96 (bt bc_Lw_law_37 1 rfl)) rfl ?_
  refine EJ_ck (fun h291 => ?_)
  refine EJ_sld (Y := Y_Lw_law) hxs hnx 1187 h291 (dk_46 (bt bc_Lw_law_37 2 rfl)) rfl ?_
  refine EJ_ck (fun h292 => ?_)
  refine EJ_callVi (Y2 := Y_Mod_note) 1190 cf12 (s_Mod_note G _ _ _ _ _ _) (of_decide_eq_true h292) rfl (dk_182 (bt bc_Lw_law_37 3 rfl) (bt bc_Lw_law_37 4 rfl) (bt bc_Lw_law_37 5 rfl) (n := 137) rfl) rfl tw_1805 tw_1806 tw_1807 tw_1808 hd_Mod_note rfl (by decide) (Nat.le_of_ble_eq_true rfl) (fun r293 M294 => ?_)
  refine EJ_icmp_eq 1588 1193 (dk_159 (bt bc_Lw_law_37 6 rfl) (bt bc_Lw_law_37 7 rfl) (bt bc_Lw_law_37 8 rfl) (n := 398) rfl) (by decide) rfl (fun _ => ?_) (fun _ => ?_)
  · exact EJ_pick (lv2 := [(0, .ref 3), (1, .ref _), (2, .ref _), (3, .int _)]) [0, 1, 2, 3] rfl (e_Lw_law_J1588 hxs hnx k18 hk18 _ _ _ _)
  · refine EJ_iconst 1194 (dk_3 (bt bc_Lw_law_37 9 rfl)) rfl (v := 0) kI_0 ?_
    exact EJ_zret rfl (by decide) (dk_172 (bt bc_Lw_law_37 10 rfl))
def Lw_law_J1145 (xs : Nat → Int32) (nx : Nat) (k18 : Nat → Nat → Int32 → Mm → Option (Int32 × Mm)) (x1 : Nat) (x2 : Nat) (x3 : Int32) (s0 : Int32) (s1 : Int32) (s2 : Nat) (M : Mm) : Option (Int32 × Mm) :=
  ck (kS nx (x3 + 3)) (
  ck (kS nx (x3 + 4)) (
  ck (kO M s2 11 18) (
  bd (Hall_note M s2 s1 s0 (xs (ix (x3 + 3))) (xs (ix (x3 + 4)))) (fun r286 M287 =>
  ck (kS nx (x3 + 1)) (
  ck (kS nx (x3 + 2)) (
  if (xs (ix (x3 + 2))) = 0 then (
    Lw_law_J1177 xs nx k18 x1 x2 x3 0 (xs (ix (x3 + 1))) x2 r286 M287)
  else (
    Lw_law_J1177 xs nx k18 x1 x2 x3 1 (xs (ix (x3 + 1))) x2 r286 M287)))))))
set_option maxRecDepth 100000 in
set_option maxHeartbeats 4000000 in
theorem e_Lw_law_J1145 {G : Gx} {xs : Nat → Int32} {nx : Nat} (hxs : gS G = xs) (hnx : gN G = nx) (k18 : Nat → Nat → Int32 → Mm → Option (Int32 × Mm)) (hk18 : ∀ (x1 : Nat) (x2 : Nat) (x3 : Int32) (M : Mm), EJ G Y_Lw_law cvI 50 18 [(0, .ref 3), (1, .ref x1), (2, .ref x2), (3, .int x3)] [] M (k18 x1 x2 x3 M)) (x1 : Nat) (x2 : Nat) (x3 : Int32) (s0 : Int32) (s1 : Int32) (s2 : Nat) (M : Mm) : EJ G Y_Lw_law cvI 50 1145 [(0, .ref 3), (1, .ref x1), (2, .ref x2), (3, .int x3)] [.int s0, .int s1, .ref s2] M (Lw_law_J1145 xs nx k18 x1 x2 x3 s0 s1 s2 M) := by
  unfold Lw_law_J1145
  refine EJ_aload_n 1146 0 (dk_42 (bt bc_Lw_law_35 25 rfl)) rfl rfl ?_
  refine EJ_iload_n 1147 3 (dk_29 (bt bc_Lw_law_35 26 rfl)) rfl rfl ?_
  refine EJ_iconst 1148 (dk_6 (bt bc_Lw_law_35 27 rfl)) rfl (v := 3) kI_3 ?_
  refine EJ_iadd 1149 (dk_96 (bt bc_Lw_law_35 28 rfl)) rfl ?_
  refine EJ_ck (fun h283 => ?_)
  refine EJ_sld (Y := Y_Lw_law) hxs hnx 1150 h283 (dk_46 (bt bc_Lw_law_35 29 rfl)) rfl ?_
  refine EJ_aload_n 1151 0 (dk_42 (bt bc_Lw_law_35 30 rfl)) rfl rfl ?_
  refine EJ_iload_n 1152 3 (dk_29 (bt bc_Lw_law_35 31 rfl)) rfl rfl ?_
  refine EJ_iconst 1153 (dk_7 (bt bc_Lw_law_36 0 rfl)) rfl (v := 4) kI_4 ?_
  refine EJ_iadd 1154 (dk_96 (bt bc_Lw_law_36 1 rfl)) rfl ?_
  refine EJ_ck (fun h284 => ?_)
  refine EJ_sld (Y := Y_Lw_law) hxs hnx 1155 h284 (dk_46 (bt bc_Lw_law_36 2 rfl)) rfl ?_
  refine EJ_ck (fun h285 => ?_)
  refine EJ_callVi (Y2 := Y_Hall_note) 1158 cf11 (s_Hall_note G _ _ _ _ _ _) (of_decide_eq_true h285) rfl (dk_182 (bt bc_Lw_law_36 3 rfl) (bt bc_Lw_law_36 4 rfl) (bt bc_Lw_law_36 5 rfl) (n := 133) rfl) rfl tw_1005 tw_1006 tw_1007 tw_1008 hd_Hall_note rfl (by decide) (Nat.le_of_ble_eq_true rfl) (fun r286 M287 => ?_)
  refine EJ_aload_n 1159 2 (dk_44 (bt bc_Lw_law_36 6 rfl)) rfl rfl ?_
  refine EJ_aload_n 1160 0 (dk_42 (bt bc_Lw_law_36 7 rfl)) rfl rfl ?_
  refine EJ_iload_n 1161 3 (dk_29 (bt bc_Lw_law_36 8 rfl)) rfl rfl ?_
  refine EJ_iconst 1162 (dk_4 (bt bc_Lw_law_36 9 rfl)) rfl (v := 1) kI_1 ?_
  refine EJ_iadd 1163 (dk_96 (bt bc_Lw_law_36 10 rfl)) rfl ?_
  refine EJ_ck (fun h288 => ?_)
  refine EJ_sld (Y := Y_Lw_law) hxs hnx 1164 h288 (dk_46 (bt bc_Lw_law_36 11 rfl)) rfl ?_
  refine EJ_aload_n 1165 0 (dk_42 (bt bc_Lw_law_36 12 rfl)) rfl rfl ?_
  refine EJ_iload_n 1166 3 (dk_29 (bt bc_Lw_law_36 13 rfl)) rfl rfl ?_
  refine EJ_iconst 1167 (dk_5 (bt bc_Lw_law_36 14 rfl)) rfl (v := 2) kI_2 ?_
  refine EJ_iadd 1168 (dk_96 (bt bc_Lw_law_36 15 rfl)) rfl ?_
  refine EJ_ck (fun h289 => ?_)
  refine EJ_sld (Y := Y_Lw_law) hxs hnx 1169 h289 (dk_46 (bt bc_Lw_law_36 16 rfl)) rfl ?_
  refine EJ_if_eq 1176 1172 (dk_153 (bt bc_Lw_law_36 17 rfl) (bt bc_Lw_law_36 18 rfl) (bt bc_Lw_law_36 19 rfl) (n := 7) rfl) (by decide) rfl (fun _ => ?_) (fun _ => ?_)
  · refine EJ_iconst 1177 (dk_3 (bt bc_Lw_law_36 24 rfl)) rfl (v := 0) kI_0 ?_
    exact EJ_pick (lv2 := [(0, .ref 3), (1, .ref _), (2, .ref _), (3, .int _)]) [0, 1, 2, 3] rfl (e_Lw_law_J1177 hxs hnx k18 hk18 _ _ _ _ _ _ _ _)
  · refine EJ_iconst 1173 (dk_4 (bt bc_Lw_law_36 20 rfl)) rfl (v := 1) kI_1 ?_
    refine EJ_goto 1177 (dk_167 (bt bc_Lw_law_36 21 rfl) (bt bc_Lw_law_36 22 rfl) (bt bc_Lw_law_36 23 rfl) (n := 4) rfl) (by decide) ?_
    exact EJ_pick (lv2 := [(0, .ref 3), (1, .ref _), (2, .ref _), (3, .int _)]) [0, 1, 2, 3] rfl (e_Lw_law_J1177 hxs hnx k18 hk18 _ _ _ _ _ _ _ _)
def Lw_law_J1236 (xs : Nat → Int32) (nx : Nat) (k18 : Nat → Nat → Int32 → Mm → Option (Int32 × Mm)) (x1 : Nat) (x2 : Nat) (x3 : Int32) (s0 : Int32) (s1 : Int32) (s2 : Nat) (s3 : Int32) (M : Mm) : Option (Int32 × Mm) :=
  ck (kO M s2 12 107) (
  bd (Mod_deny M s2 s1 s0) (fun r303 M304 =>
  if s3 = r303 then (
    Lw_law_J1588 xs nx k18 x1 x2 x3 M304)
  else (
    some (0, M304))))
set_option maxRecDepth 100000 in
set_option maxHeartbeats 4000000 in
theorem e_Lw_law_J1236 {G : Gx} {xs : Nat → Int32} {nx : Nat} (hxs : gS G = xs) (hnx : gN G = nx) (k18 : Nat → Nat → Int32 → Mm → Option (Int32 × Mm)) (hk18 : ∀ (x1 : Nat) (x2 : Nat) (x3 : Int32) (M : Mm), EJ G Y_Lw_law cvI 50 18 [(0, .ref 3), (1, .ref x1), (2, .ref x2), (3, .int x3)] [] M (k18 x1 x2 x3 M)) (x1 : Nat) (x2 : Nat) (x3 : Int32) (s0 : Int32) (s1 : Int32) (s2 : Nat) (s3 : Int32) (M : Mm) : EJ G Y_Lw_law cvI 50 1236 [(0, .ref 3), (1, .ref x1), (2, .ref x2), (3, .int x3)] [.int s0, .int s1, .ref s2, .int s3] M (Lw_law_J1236 xs nx k18 x1 x2 x3 s0 s1 s2 s3 M) := by
  unfold Lw_law_J1236
  refine EJ_ck (fun h302 => ?_)
  refine EJ_callVi (Y2 := Y_Mod_deny) 1239 cf12 (s_Mod_deny G _ _ _ _) (of_decide_eq_true h302) rfl (dk_182 (bt bc_Lw_law_38 20 rfl) (bt bc_Lw_law_38 21 rfl) (bt bc_Lw_law_38 22 rfl) (n := 142) rfl) rfl tw_1813 tw_1814 tw_1815 tw_1816 hd_Mod_deny rfl (by decide) (Nat.le_of_ble_eq_true rfl) (fun r303 M304 => ?_)
  refine EJ_icmp_eq 1588 1242 (dk_159 (bt bc_Lw_law_38 23 rfl) (bt bc_Lw_law_38 24 rfl) (bt bc_Lw_law_38 25 rfl) (n := 349) rfl) (by decide) rfl (fun _ => ?_) (fun _ => ?_)
  · exact EJ_pick (lv2 := [(0, .ref 3), (1, .ref _), (2, .ref _), (3, .int _)]) [0, 1, 2, 3] rfl (e_Lw_law_J1588 hxs hnx k18 hk18 _ _ _ _)
  · refine EJ_iconst 1243 (dk_3 (bt bc_Lw_law_38 26 rfl)) rfl (v := 0) kI_0 ?_
    exact EJ_zret rfl (by decide) (dk_172 (bt bc_Lw_law_38 27 rfl))
def Lw_law_J1214 (xs : Nat → Int32) (nx : Nat) (k18 : Nat → Nat → Int32 → Mm → Option (Int32 × Mm)) (x1 : Nat) (x2 : Nat) (x3 : Int32) (s0 : Int32) (s1 : Int32) (s2 : Nat) (M : Mm) : Option (Int32 × Mm) :=
  ck (kO M s2 11 18) (
  bd (Hall_deny M s2 s1 s0) (fun r298 M299 =>
  ck (kS nx (x3 + 1)) (
  ck (kS nx (x3 + 2)) (
  if (xs (ix (x3 + 2))) = 0 then (
    Lw_law_J1236 xs nx k18 x1 x2 x3 0 (xs (ix (x3 + 1))) x2 r298 M299)
  else (
    Lw_law_J1236 xs nx k18 x1 x2 x3 1 (xs (ix (x3 + 1))) x2 r298 M299)))))
set_option maxRecDepth 100000 in
set_option maxHeartbeats 4000000 in
theorem e_Lw_law_J1214 {G : Gx} {xs : Nat → Int32} {nx : Nat} (hxs : gS G = xs) (hnx : gN G = nx) (k18 : Nat → Nat → Int32 → Mm → Option (Int32 × Mm)) (hk18 : ∀ (x1 : Nat) (x2 : Nat) (x3 : Int32) (M : Mm), EJ G Y_Lw_law cvI 50 18 [(0, .ref 3), (1, .ref x1), (2, .ref x2), (3, .int x3)] [] M (k18 x1 x2 x3 M)) (x1 : Nat) (x2 : Nat) (x3 : Int32) (s0 : Int32) (s1 : Int32) (s2 : Nat) (M : Mm) : EJ G Y_Lw_law cvI 50 1214 [(0, .ref 3), (1, .ref x1), (2, .ref x2), (3, .int x3)] [.int s0, .int s1, .ref s2] M (Lw_law_J1214 xs nx k18 x1 x2 x3 s0 s1 s2 M) := by
  unfold Lw_law_J1214
  refine EJ_ck (fun h297 => ?_)
  refine EJ_callVi (Y2 := Y_Hall_deny) 1217 cf11 (s_Hall_deny G _ _ _ _) (of_decide_eq_true h297) rfl (dk_182 (bt bc_Lw_law_37 30 rfl) (bt bc_Lw_law_37 31 rfl) (bt bc_Lw_law_38 0 rfl) (n := 138) rfl) rfl tw_1017 tw_1018 tw_1019 tw_1020 hd_Hall_deny rfl (by decide) (Nat.le_of_ble_eq_true rfl) (fun r298 M299 => ?_)
  refine EJ_aload_n 1218 2 (dk_44 (bt bc_Lw_law_38 1 rfl)) rfl rfl ?_
  refine EJ_aload_n 1219 0 (dk_42 (bt bc_Lw_law_38 2 rfl)) rfl rfl ?_
  refine EJ_iload_n 1220 3 (dk_29 (bt bc_Lw_law_38 3 rfl)) rfl rfl ?_
  refine EJ_iconst 1221 (dk_4 (bt bc_Lw_law_38 4 rfl)) rfl (v := 1) kI_1 ?_
  refine EJ_iadd 1222 (dk_96 (bt bc_Lw_law_38 5 rfl)) rfl ?_
  refine EJ_ck (fun h300 => ?_)
  refine EJ_sld (Y := Y_Lw_law) hxs hnx 1223 h300 (dk_46 (bt bc_Lw_law_38 6 rfl)) rfl ?_
  refine EJ_aload_n 1224 0 (dk_42 (bt bc_Lw_law_38 7 rfl)) rfl rfl ?_
  refine EJ_iload_n 1225 3 (dk_29 (bt bc_Lw_law_38 8 rfl)) rfl rfl ?_
  refine EJ_iconst 1226 (dk_5 (bt bc_Lw_law_38 9 rfl)) rfl (v := 2) kI_2 ?_
  refine EJ_iadd 1227 (dk_96 (bt bc_Lw_law_38 10 rfl)) rfl ?_
  refine EJ_ck (fun h301 => ?_)
  refine EJ_sld (Y := Y_Lw_law) hxs hnx 1228 h301 (dk_46 (bt bc_Lw_law_38 11 rfl)) rfl ?_
  refine EJ_if_eq 1235 1231 (dk_153 (bt bc_Lw_law_38 12 rfl) (bt bc_Lw_law_38 13 rfl) (bt bc_Lw_law_38 14 rfl) (n := 7) rfl) (by decide) rfl (fun _ => ?_) (fun _ => ?_)
  · refine EJ_iconst 1236 (dk_3 (bt bc_Lw_law_38 19 rfl)) rfl (v := 0) kI_0 ?_
    exact EJ_pick (lv2 := [(0, .ref 3), (1, .ref _), (2, .ref _), (3, .int _)]) [0, 1, 2, 3] rfl (e_Lw_law_J1236 hxs hnx k18 hk18 _ _ _ _ _ _ _ _)
  · refine EJ_iconst 1232 (dk_4 (bt bc_Lw_law_38 15 rfl)) rfl (v := 1) kI_1 ?_
    refine EJ_goto 1236 (dk_167 (bt bc_Lw_law_38 16 rfl) (bt bc_Lw_law_38 17 rfl) (bt bc_Lw_law_38 18 rfl) (n := 4) rfl) (by decide) ?_
    exact EJ_pick (lv2 := [(0, .ref 3), (1, .ref _), (2, .ref _), (3, .int _)]) [0, 1, 2, 3] rfl (e_Lw_law_J1236 hxs hnx k18 hk18 _ _ _ _ _ _ _ _)
def Lw_law_B18 (xs : Nat → Int32) (nx : Nat) (k18 : Nat → Nat → Int32 → Mm → Option (Int32 × Mm)) (x1 : Nat) (x2 : Nat) (x3 : Int32) (M : Mm) : Option (Int32 × Mm) :=
  if ((Int32.ofNat nx) - 6) < x3 then (
    some (1, M))
  else (
    ck (kS nx x3) (
    if (xs (ix x3)) &&& 63 = 0 then (
      ck (kO M x1 11 18) (
      bd (Hall_town M x1) (fun r9 M10 =>
      ck (kO M10 x2 12 107) (
      bd (Mod_town M10 x2) (fun r12 M13 =>
      if r9 = r12 then (
        Lw_law_J1588 xs nx k18 x1 x2 x3 M13)
      else (
        some (0, M13)))))))
    else (
    if (xs (ix x3)) &&& 63 = 1 then (
      ck (kS nx (x3 + 1)) (
      ck (kS nx (x3 + 2)) (
      ck (kS nx (x3 + 3)) (
      ck (kO M x1 11 18) (
      bd (Hall_fog M x1 (xs (ix (x3 + 1))) (xs (ix (x3 + 2))) (xs (ix (x3 + 3)))) (fun r19 M20 =>
      ck (kS nx (x3 + 1)) (
      ck (kS nx (x3 + 2)) (
      ck (kS nx (x3 + 3)) (
      ck (kO M20 x2 12 107) (
      bd (Mod_fog M20 x2 (xs (ix (x3 + 1))) (xs (ix (x3 + 2))) (xs (ix (x3 + 3)))) (fun r25 M26 =>
      if r19 = r25 then (
        Lw_law_J1588 xs nx k18 x1 x2 x3 M26)
      else (
        some (0, M26)))))))))))))
    else (
    if (xs (ix x3)) &&& 63 = 2 then (
      ck (kS nx (x3 + 1)) (
      ck (kS nx (x3 + 2)) (
      ck (kS nx (x3 + 3)) (
      ck (kS nx (x3 + 4)) (
      ck (kO M x1 11 18) (
      bd (Hall_road M x1 (xs (ix (x3 + 1))) (xs (ix (x3 + 2))) (xs (ix (x3 + 3))) (xs (ix (x3 + 4)))) (fun r32 M33 =>
      ck (kS nx (x3 + 1)) (
      ck (kS nx (x3 + 2)) (
      ck (kS nx (x3 + 3)) (
      ck (kS nx (x3 + 4)) (
      ck (kO M33 x2 12 107) (
      bd (Mod_road M33 x2 (xs (ix (x3 + 1))) (xs (ix (x3 + 2))) (xs (ix (x3 + 3))) (xs (ix (x3 + 4)))) (fun r39 M40 =>
      if r32 = r39 then (
        Lw_law_J1588 xs nx k18 x1 x2 x3 M40)
      else (
        some (0, M40)))))))))))))))
    else (
    if (xs (ix x3)) &&& 63 = 3 then (
      ck (kS nx (x3 + 1)) (
      ck (kS nx (x3 + 2)) (
      ck (kS nx (x3 + 3)) (
      ck (kO M x1 11 18) (
      bd (Hall_news M x1 (xs (ix (x3 + 1))) (xs (ix (x3 + 2))) (xs (ix (x3 + 3)))) (fun r45 M46 =>
      ck (kS nx (x3 + 1)) (
      ck (kS nx (x3 + 2)) (
      ck (kS nx (x3 + 3)) (
      ck (kO M46 x2 12 107) (
      bd (Mod_news M46 x2 (xs (ix (x3 + 1))) (xs (ix (x3 + 2))) (xs (ix (x3 + 3)))) (fun r51 M52 =>
      if r45 = r51 then (
        Lw_law_J1588 xs nx k18 x1 x2 x3 M52)
      else (
        some (0, M52)))))))))))))
    else (
    if (xs (ix x3)) &&& 63 = 4 then (
      ck (kS nx (x3 + 1)) (
      ck (kO M x1 11 18) (
      bd (Hall_person M x1 (xs (ix (x3 + 1)))) (fun r55 M56 =>
      ck (kS nx (x3 + 1)) (
      ck (kO M56 x2 12 107) (
      bd (Mod_person M56 x2 (xs (ix (x3 + 1)))) (fun r59 M60 =>
      if r55 = r59 then (
        Lw_law_J1588 xs nx k18 x1 x2 x3 M60)
      else (
        some (0, M60)))))))))
    else (
    if (xs (ix x3)) &&& 63 = 5 then (
      ck (kS nx (x3 + 1)) (
      ck (kS nx (x3 + 2)) (
      ck (kS nx (x3 + 3)) (
      ck (kO M x1 11 18) (
      bd (Hall_hears M x1 (xs (ix (x3 + 1))) (xs (ix (x3 + 2))) (xs (ix (x3 + 3)))) (fun r65 M66 =>
      ck (kS nx (x3 + 1)) (
      ck (kS nx (x3 + 2)) (
      ck (kS nx (x3 + 3)) (
      ck (kO M66 x2 12 107) (
      bd (Mod_hears M66 x2 (xs (ix (x3 + 1))) (xs (ix (x3 + 2))) (xs (ix (x3 + 3)))) (fun r71 M72 =>
      if r65 = r71 then (
        Lw_law_J1588 xs nx k18 x1 x2 x3 M72)
      else (
        some (0, M72)))))))))))))
    else (
    if (xs (ix x3)) &&& 63 = 6 then (
      ck (kO M x1 11 18) (
      bd (Hall_store M x1) (fun r74 M75 =>
      ck (kO M75 x2 12 107) (
      bd (Mod_store M75 x2) (fun r77 M78 =>
      if r74 = r77 then (
        Lw_law_J1588 xs nx k18 x1 x2 x3 M78)
      else (
        some (0, M78)))))))
    else (
    if (xs (ix x3)) &&& 63 = 7 then (
      ck (kS nx (x3 + 1)) (
      ck (kS nx (x3 + 2)) (
      ck (kS nx (x3 + 3)) (
      ck (kS nx (x3 + 4)) (
      ck (kO M x1 11 18) (
      bd (Hall_issue M x1 (xs (ix (x3 + 1))) (xs (ix (x3 + 2))) (xs (ix (x3 + 3))) (xs (ix (x3 + 4)))) (fun r84 M85 =>
      ck (kS nx (x3 + 1)) (
      ck (kS nx (x3 + 2)) (
      ck (kS nx (x3 + 3)) (
      ck (kS nx (x3 + 4)) (
      ck (kO M85 x2 12 107) (
      bd (Mod_issue M85 x2 (xs (ix (x3 + 1))) (xs (ix (x3 + 2))) (xs (ix (x3 + 3))) (xs (ix (x3 + 4)))) (fun r91 M92 =>
      if r84 = r91 then (
        Lw_law_J1588 xs nx k18 x1 x2 x3 M92)
      else (
        some (0, M92)))))))))))))))
    else (
    if (xs (ix x3)) &&& 63 = 8 then (
      ck (kS nx (x3 + 1)) (
      ck (kS nx (x3 + 2)) (
      ck (kS nx (x3 + 3)) (
      ck (kS nx (x3 + 4)) (
      ck (kO M x1 11 18) (
      bd (Hall_give M x1 (xs (ix (x3 + 1))) (xs (ix (x3 + 2))) (xs (ix (x3 + 3))) (xs (ix (x3 + 4)))) (fun r98 M99 =>
      ck (kS nx (x3 + 1)) (
      ck (kS nx (x3 + 2)) (
      ck (kS nx (x3 + 3)) (
      ck (kS nx (x3 + 4)) (
      ck (kO M99 x2 12 107) (
      bd (Mod_give M99 x2 (xs (ix (x3 + 1))) (xs (ix (x3 + 2))) (xs (ix (x3 + 3))) (xs (ix (x3 + 4)))) (fun r105 M106 =>
      if r98 = r105 then (
        Lw_law_J1588 xs nx k18 x1 x2 x3 M106)
      else (
        some (0, M106)))))))))))))))
    else (
    if (xs (ix x3)) &&& 63 = 9 then (
      ck (kS nx (x3 + 1)) (
      ck (kS nx (x3 + 2)) (
      ck (kS nx (x3 + 3)) (
      ck (kO M x1 11 18) (
      bd (Hall_call M x1 (xs (ix (x3 + 1))) (xs (ix (x3 + 2))) (xs (ix (x3 + 3)))) (fun r111 M112 =>
      ck (kS nx (x3 + 1)) (
      ck (kS nx (x3 + 2)) (
      ck (kS nx (x3 + 3)) (
      ck (kO M112 x2 12 107) (
      bd (Mod_call M112 x2 (xs (ix (x3 + 1))) (xs (ix (x3 + 2))) (xs (ix (x3 + 3)))) (fun r117 M118 =>
      if r111 = r117 then (
        Lw_law_J1588 xs nx k18 x1 x2 x3 M118)
      else (
        some (0, M118)))))))))))))
    else (
    if (xs (ix x3)) &&& 63 = 10 then (
      ck (kS nx (x3 + 1)) (
      ck (kS nx (x3 + 2)) (
      ck (kO M x1 11 18) (
      bd (Hall_come M x1 (xs (ix (x3 + 1))) (xs (ix (x3 + 2)))) (fun r122 M123 =>
      ck (kS nx (x3 + 1)) (
      ck (kS nx (x3 + 2)) (
      ck (kO M123 x2 12 107) (
      bd (Mod_come M123 x2 (xs (ix (x3 + 1))) (xs (ix (x3 + 2)))) (fun r127 M128 =>
      if r122 = r127 then (
        Lw_law_J1588 xs nx k18 x1 x2 x3 M128)
      else (
        some (0, M128)))))))))))
    else (
    if (xs (ix x3)) &&& 63 = 11 then (
      ck (kS nx (x3 + 1)) (
      ck (kS nx (x3 + 2)) (
      ck (kO M x1 11 18) (
      bd (Hall_spoil M x1 (xs (ix (x3 + 1))) (xs (ix (x3 + 2)))) (fun r132 M133 =>
      ck (kS nx (x3 + 1)) (
      ck (kS nx (x3 + 2)) (
      ck (kO M133 x2 12 107) (
      bd (Mod_spoil M133 x2 (xs (ix (x3 + 1))) (xs (ix (x3 + 2)))) (fun r137 M138 =>
      if r132 = r137 then (
        Lw_law_J1588 xs nx k18 x1 x2 x3 M138)
      else (
        some (0, M138)))))))))))
    else (
    if (xs (ix x3)) &&& 63 = 12 then (
      ck (kS nx (x3 + 1)) (
      ck (kS nx (x3 + 2)) (
      ck (kO M x1 11 18) (
      bd (Hall_over M x1 (xs (ix (x3 + 1))) (xs (ix (x3 + 2)))) (fun r142 M143 =>
      ck (kS nx (x3 + 1)) (
      ck (kS nx (x3 + 2)) (
      ck (kO M143 x2 12 107) (
      bd (Mod_over M143 x2 (xs (ix (x3 + 1))) (xs (ix (x3 + 2)))) (fun r147 M148 =>
      if r142 = r147 then (
        Lw_law_J1588 xs nx k18 x1 x2 x3 M148)
      else (
        some (0, M148)))))))))))
    else (
    if (xs (ix x3)) &&& 63 = 13 then (
      ck (kS nx (x3 + 1)) (
      ck (kS nx (x3 + 2)) (
      ck (kO M x1 11 18) (
      bd (Hall_storeOf M x1 (xs (ix (x3 + 1))) (xs (ix (x3 + 2)))) (fun r152 M153 =>
      ck (kS nx (x3 + 1)) (
      ck (kS nx (x3 + 2)) (
      ck (kO M153 x2 12 107) (
      bd (Mod_storeOf M153 x2 (xs (ix (x3 + 1))) (xs (ix (x3 + 2)))) (fun r157 M158 =>
      if r152 = r157 then (
        Lw_law_J1588 xs nx k18 x1 x2 x3 M158)
      else (
        some (0, M158)))))))))))
    else (
    if (xs (ix x3)) &&& 63 = 14 then (
      ck (kS nx (x3 + 1)) (
      ck (kS nx (x3 + 2)) (
      ck (kO M x1 11 18) (
      bd (Hall_told M x1 (xs (ix (x3 + 1))) (xs (ix (x3 + 2)))) (fun r162 M163 =>
      ck (kS nx (x3 + 1)) (
      ck (kS nx (x3 + 2)) (
      ck (kO M163 x2 12 107) (
      bd (Mod_told M163 x2 (xs (ix (x3 + 1))) (xs (ix (x3 + 2)))) (fun r167 M168 =>
      if r162 = r167 then (
        Lw_law_J1588 xs nx k18 x1 x2 x3 M168)
      else (
        some (0, M168)))))))))))
    else (
    if (xs (ix x3)) &&& 63 = 15 then (
      ck (kS nx (x3 + 1)) (
      ck (kO M x1 11 18) (
      bd (Hall_coins M x1 (xs (ix (x3 + 1)))) (fun r171 M172 =>
      ck (kS nx (x3 + 1)) (
      ck (kO M172 x2 12 107) (
      bd (Mod_coins M172 x2 (xs (ix (x3 + 1)))) (fun r175 M176 =>
      if r171 = r175 then (
        Lw_law_J1588 xs nx k18 x1 x2 x3 M176)
      else (
        some (0, M176)))))))))
    else (
    if (xs (ix x3)) &&& 63 = 16 then (
      ck (kS nx (x3 + 1)) (
      ck (kS nx (x3 + 2)) (
      ck (kO M x1 11 18) (
      bd (Hall_pay M x1 (xs (ix (x3 + 1))) (xs (ix (x3 + 2)))) (fun r180 M181 =>
      ck (kS nx (x3 + 1)) (
      ck (kS nx (x3 + 2)) (
      ck (kO M181 x2 12 107) (
      bd (Mod_pay M181 x2 (xs (ix (x3 + 1))) (xs (ix (x3 + 2)))) (fun r185 M186 =>
      if r180 = r185 then (
        Lw_law_J1588 xs nx k18 x1 x2 x3 M186)
      else (
        some (0, M186)))))))))))
    else (
    if (xs (ix x3)) &&& 63 = 17 then (
      ck (kS nx (x3 + 1)) (
      ck (kS nx (x3 + 2)) (
      ck (kO M x1 11 18) (
      bd (Hall_draw M x1 (xs (ix (x3 + 1))) (xs (ix (x3 + 2)))) (fun r190 M191 =>
      ck (kS nx (x3 + 1)) (
      ck (kS nx (x3 + 2)) (
      ck (kO M191 x2 12 107) (
      bd (Mod_draw M191 x2 (xs (ix (x3 + 1))) (xs (ix (x3 + 2)))) (fun r195 M196 =>
      if r190 = r195 then (
        Lw_law_J1588 xs nx k18 x1 x2 x3 M196)
      else (
        some (0, M196)))))))))))
    else (
    if (xs (ix x3)) &&& 63 = 18 then (
      ck (kS nx (x3 + 1)) (
      ck (kS nx (x3 + 2)) (
      ck (kS nx (x3 + 3)) (
      ck (kS nx (x3 + 4)) (
      ck (kS nx (x3 + 5)) (
      ck (kO M x1 11 18) (
      bd (Hall_feed M x1 (xs (ix (x3 + 1))) (xs (ix (x3 + 2))) (xs (ix (x3 + 3))) (xs (ix (x3 + 4))) (xs (ix (x3 + 5)))) (fun r203 M204 =>
      ck (kS nx (x3 + 1)) (
      ck (kS nx (x3 + 2)) (
      ck (kS nx (x3 + 3)) (
      ck (kS nx (x3 + 4)) (
      ck (kS nx (x3 + 5)) (
      ck (kO M204 x2 12 107) (
      bd (Mod_feed M204 x2 (xs (ix (x3 + 1))) (xs (ix (x3 + 2))) (xs (ix (x3 + 3))) (xs (ix (x3 + 4))) (xs (ix (x3 + 5)))) (fun r211 M212 =>
      if r203 = r211 then (
        Lw_law_J1588 xs nx k18 x1 x2 x3 M212)
      else (
        some (0, M212)))))))))))))))))
    else (
    if (xs (ix x3)) &&& 63 = 19 then (
      ck (kS nx (x3 + 1)) (
      ck (kS nx (x3 + 2)) (
      ck (kO M x1 11 18) (
      bd (Hall_rules M x1 (xs (ix (x3 + 1))) (xs (ix (x3 + 2)))) (fun r216 M217 =>
      ck (kS nx (x3 + 1)) (
      ck (kS nx (x3 + 2)) (
      ck (kO M217 x2 12 107) (
      bd (Mod_rules M217 x2 (xs (ix (x3 + 1))) (xs (ix (x3 + 2)))) (fun r221 M222 =>
      if r216 = r221 then (
        Lw_law_J1588 xs nx k18 x1 x2 x3 M222)
      else (
        some (0, M222)))))))))))
    else (
    if (xs (ix x3)) &&& 63 = 20 then (
      ck (kO M x1 11 18) (
      bd (Hall_fault M x1) (fun r224 M225 =>
      ck (kO M225 x2 12 107) (
      bd (Mod_fault M225 x2) (fun r227 M228 =>
      if r224 = r227 then (
        Lw_law_J1588 xs nx k18 x1 x2 x3 M228)
      else (
        some (0, M228)))))))
    else (
    if (xs (ix x3)) &&& 63 = 21 then (
      ck (kS nx (x3 + 1)) (
      ck (kO M x1 11 18) (
      bd (Hall_rule M x1 (xs (ix (x3 + 1)))) (fun r231 M232 =>
      ck (kS nx (x3 + 1)) (
      ck (kO M232 x2 12 107) (
      bd (Mod_rule M232 x2 (xs (ix (x3 + 1)))) (fun r235 M236 =>
      if r231 = r235 then (
        Lw_law_J1588 xs nx k18 x1 x2 x3 M236)
      else (
        some (0, M236)))))))))
    else (
    if (xs (ix x3)) &&& 63 = 22 then (
      ck (kS nx (x3 + 1)) (
      ck (kO M x1 11 18) (
      bd (Hall_heard M x1 (xs (ix (x3 + 1)))) (fun r239 M240 =>
      ck (kS nx (x3 + 1)) (
      ck (kO M240 x2 12 107) (
      bd (Mod_heard M240 x2 (xs (ix (x3 + 1)))) (fun r243 M244 =>
      if r239 = r243 then (
        Lw_law_J1588 xs nx k18 x1 x2 x3 M244)
      else (
        some (0, M244)))))))))
    else (
    if (xs (ix x3)) &&& 63 = 23 then (
      ck (kS nx (x3 + 1)) (
      ck (kO M x1 11 18) (
      bd (Hall_wind M x1 (xs (ix (x3 + 1)))) (fun r247 M248 =>
      ck (kS nx (x3 + 1)) (
      ck (kO M248 x2 12 107) (
      bd (Mod_wind M248 x2 (xs (ix (x3 + 1)))) (fun r251 M252 =>
      if r247 = r251 then (
        Lw_law_J1588 xs nx k18 x1 x2 x3 M252)
      else (
        some (0, M252)))))))))
    else (
    if (xs (ix x3)) &&& 63 = 24 then (
      ck (kO M x1 11 18) (
      bd (Hall_light M x1) (fun r254 M255 =>
      ck (kO M255 x2 12 107) (
      bd (Mod_light M255 x2) (fun r257 M258 =>
      if r254 = r257 then (
        Lw_law_J1588 xs nx k18 x1 x2 x3 M258)
      else (
        some (0, M258)))))))
    else (
    if (xs (ix x3)) &&& 63 = 25 then (
      ck (kS nx (x3 + 1)) (
      ck (kS nx (x3 + 2)) (
      if (xs (ix (x3 + 2))) = 0 then (
        Lw_law_J1053 xs nx k18 x1 x2 x3 0 (xs (ix (x3 + 1))) x1 M)
      else (
        Lw_law_J1053 xs nx k18 x1 x2 x3 1 (xs (ix (x3 + 1))) x1 M))))
    else (
    if (xs (ix x3)) &&& 63 = 26 then (
      ck (kS nx (x3 + 1)) (
      ck (kO M x1 11 18) (
      bd (Hall_back M x1 (xs (ix (x3 + 1)))) (fun r275 M276 =>
      ck (kS nx (x3 + 1)) (
      ck (kO M276 x2 12 107) (
      bd (Mod_back M276 x2 (xs (ix (x3 + 1)))) (fun r279 M280 =>
      if r275 = r279 then (
        Lw_law_J1588 xs nx k18 x1 x2 x3 M280)
      else (
        some (0, M280)))))))))
    else (
    if (xs (ix x3)) &&& 63 = 27 then (
      ck (kS nx (x3 + 1)) (
      ck (kS nx (x3 + 2)) (
      if (xs (ix (x3 + 2))) = 0 then (
        Lw_law_J1145 xs nx k18 x1 x2 x3 0 (xs (ix (x3 + 1))) x1 M)
      else (
        Lw_law_J1145 xs nx k18 x1 x2 x3 1 (xs (ix (x3 + 1))) x1 M))))
    else (
    if (xs (ix x3)) &&& 63 = 28 then (
      ck (kS nx (x3 + 1)) (
      ck (kS nx (x3 + 2)) (
      if (xs (ix (x3 + 2))) = 0 then (
        Lw_law_J1214 xs nx k18 x1 x2 x3 0 (xs (ix (x3 + 1))) x1 M)
      else (
        Lw_law_J1214 xs nx k18 x1 x2 x3 1 (xs (ix (x3 + 1))) x1 M))))
    else (
    if (xs (ix x3)) &&& 63 = 29 then (
      ck (kS nx (x3 + 1)) (
      ck (kO M x1 11 18) (
      bd (Hall_pass M x1 (xs (ix (x3 + 1)))) (fun r307 M308 =>
      ck (kS nx (x3 + 1)) (
      ck (kO M308 x2 12 107) (
      bd (Mod_pass M308 x2 (xs (ix (x3 + 1)))) (fun r311 M312 =>
      if r307 = r311 then (
        Lw_law_J1588 xs nx k18 x1 x2 x3 M312)
      else (
        some (0, M312)))))))))
    else (
    if (xs (ix x3)) &&& 63 = 30 then (
      ck (kS nx (x3 + 1)) (
      ck (kS nx (x3 + 2)) (
      ck (kO M x1 11 18) (
      bd (Hall_session M x1 (xs (ix (x3 + 1))) (xs (ix (x3 + 2)))) (fun r316 M317 =>
      ck (kS nx (x3 + 1)) (
      ck (kS nx (x3 + 2)) (
      ck (kO M317 x2 12 107) (
      bd (Mod_session M317 x2 (xs (ix (x3 + 1))) (xs (ix (x3 + 2)))) (fun r321 M322 =>
      if r316 = r321 then (
        Lw_law_J1588 xs nx k18 x1 x2 x3 M322)
      else (
        some (0, M322)))))))))))
    else (
    if (xs (ix x3)) &&& 63 = 31 then (
      ck (kS nx (x3 + 1)) (
      ck (kS nx (x3 + 2)) (
      ck (kS nx (x3 + 3)) (
      ck (kO M x1 11 18) (
      bd (Hall_bargain M x1 (xs (ix (x3 + 1))) (xs (ix (x3 + 2))) (xs (ix (x3 + 3)))) (fun r327 M328 =>
      ck (kS nx (x3 + 1)) (
      ck (kS nx (x3 + 2)) (
      ck (kS nx (x3 + 3)) (
      ck (kO M328 x2 12 107) (
      bd (Mod_bargain M328 x2 (xs (ix (x3 + 1))) (xs (ix (x3 + 2))) (xs (ix (x3 + 3)))) (fun r333 M334 =>
      if r327 = r333 then (
        Lw_law_J1588 xs nx k18 x1 x2 x3 M334)
      else (
        some (0, M334)))))))))))))
    else (
    if (xs (ix x3)) &&& 63 = 32 then (
      ck (kS nx (x3 + 1)) (
      ck (kO M x1 11 18) (
      bd (Hall_best M x1 (xs (ix (x3 + 1)))) (fun r337 M338 =>
      ck (kS nx (x3 + 1)) (
      ck (kO M338 x2 12 107) (
      bd (Mod_best M338 x2 (xs (ix (x3 + 1)))) (fun r341 M342 =>
      if r337 = r341 then (
        Lw_law_J1588 xs nx k18 x1 x2 x3 M342)
      else (
        some (0, M342)))))))))
    else (
    if (xs (ix x3)) &&& 63 = 33 then (
      ck (kS nx (x3 + 1)) (
      ck (kS nx (x3 + 2)) (
      ck (kS nx (x3 + 3)) (
      ck (kO M x1 11 18) (
      bd (Hall_owe M x1 (xs (ix (x3 + 1))) (xs (ix (x3 + 2))) (xs (ix (x3 + 3)))) (fun r347 M348 =>
      ck (kS nx (x3 + 1)) (
      ck (kS nx (x3 + 2)) (
      ck (kS nx (x3 + 3)) (
      ck (kO M348 x2 12 107) (
      bd (Mod_owe M348 x2 (xs (ix (x3 + 1))) (xs (ix (x3 + 2))) (xs (ix (x3 + 3)))) (fun r353 M354 =>
      if r347 = r353 then (
        Lw_law_J1588 xs nx k18 x1 x2 x3 M354)
      else (
        some (0, M354)))))))))))))
    else (
    if (xs (ix x3)) &&& 63 = 34 then (
      ck (kS nx (x3 + 1)) (
      ck (kS nx (x3 + 2)) (
      ck (kO M x1 11 18) (
      bd (Hall_fails M x1 (xs (ix (x3 + 1))) (xs (ix (x3 + 2)))) (fun r358 M359 =>
      ck (kS nx (x3 + 1)) (
      ck (kS nx (x3 + 2)) (
      ck (kO M359 x2 12 107) (
      bd (Mod_fails M359 x2 (xs (ix (x3 + 1))) (xs (ix (x3 + 2)))) (fun r363 M364 =>
      if r358 = r363 then (
        Lw_law_J1588 xs nx k18 x1 x2 x3 M364)
      else (
        some (0, M364)))))))))))
    else (
    if (xs (ix x3)) &&& 63 = 35 then (
      ck (kS nx (x3 + 1)) (
      ck (kS nx (x3 + 2)) (
      ck (kS nx (x3 + 3)) (
      ck (kO M x1 11 18) (
      bd (Hall_other M x1 (xs (ix (x3 + 1))) (xs (ix (x3 + 2))) (xs (ix (x3 + 3)))) (fun r369 M370 =>
      ck (kS nx (x3 + 1)) (
      ck (kS nx (x3 + 2)) (
      ck (kS nx (x3 + 3)) (
      ck (kO M370 x2 12 107) (
      bd (Mod_other M370 x2 (xs (ix (x3 + 1))) (xs (ix (x3 + 2))) (xs (ix (x3 + 3)))) (fun r375 M376 =>
      if r369 = r375 then (
        Lw_law_J1588 xs nx k18 x1 x2 x3 M376)
      else (
        some (0, M376)))))))))))))
    else (
    if (xs (ix x3)) &&& 63 = 36 then (
      ck (kS nx (x3 + 1)) (
      ck (kO M x1 11 18) (
      bd (Hall_least M x1 (xs (ix (x3 + 1)))) (fun r379 M380 =>
      ck (kS nx (x3 + 1)) (
      ck (kO M380 x2 12 107) (
      bd (Mod_least M380 x2 (xs (ix (x3 + 1)))) (fun r383 M384 =>
      if r379 = r383 then (
        Lw_law_J1588 xs nx k18 x1 x2 x3 M384)
      else (
        some (0, M384)))))))))
    else (
    if (xs (ix x3)) &&& 63 = 37 then (
      ck (kS nx (x3 + 1)) (
      ck (kS nx (x3 + 2)) (
      ck (kO M x1 11 18) (
      bd (Hall_judged M x1 (xs (ix (x3 + 1))) (xs (ix (x3 + 2)))) (fun r388 M389 =>
      ck (kS nx (x3 + 1)) (
      ck (kS nx (x3 + 2)) (
      ck (kO M389 x2 12 107) (
      bd (Mod_judged M389 x2 (xs (ix (x3 + 1))) (xs (ix (x3 + 2)))) (fun r393 M394 =>
      if r388 = r393 then (
        Lw_law_J1588 xs nx k18 x1 x2 x3 M394)
      else (
        some (0, M394)))))))))))
    else (
    if (xs (ix x3)) &&& 63 = 38 then (
      ck (kS nx (x3 + 1)) (
      ck (kO M x1 11 18) (
      bd (Hall_count M x1 (xs (ix (x3 + 1)))) (fun r397 M398 =>
      ck (kS nx (x3 + 1)) (
      ck (kO M398 x2 12 107) (
      bd (Mod_count M398 x2 (xs (ix (x3 + 1)))) (fun r401 M402 =>
      if r397 = r401 then (
        Lw_law_J1588 xs nx k18 x1 x2 x3 M402)
      else (
        some (0, M402)))))))))
    else (
    if (xs (ix x3)) &&& 63 = 39 then (
      ck (kS nx (x3 + 1)) (
      ck (kO M x1 11 18) (
      bd (Hall_sum M x1 (xs (ix (x3 + 1)))) (fun r405 M406 =>
      ck (kS nx (x3 + 1)) (
      ck (kO M406 x2 12 107) (
      bd (Mod_sum M406 x2 (xs (ix (x3 + 1)))) (fun r409 M410 =>
      if r405 = r409 then (
        Lw_law_J1588 xs nx k18 x1 x2 x3 M410)
      else (
        some (0, M410)))))))))
    else (
    Lw_law_J1588 xs nx k18 x1 x2 x3 M))))))))))))))))))))))))))))))))))))))))))
set_option maxRecDepth 100000 in
set_option maxHeartbeats 4000000 in
theorem e_Lw_law_B18 {G : Gx} {xs : Nat → Int32} {nx : Nat} (hxs : gS G = xs) (hnx : gN G = nx) (k18 : Nat → Nat → Int32 → Mm → Option (Int32 × Mm)) (hk18 : ∀ (x1 : Nat) (x2 : Nat) (x3 : Int32) (M : Mm), EJ G Y_Lw_law cvI 50 18 [(0, .ref 3), (1, .ref x1), (2, .ref x2), (3, .int x3)] [] M (k18 x1 x2 x3 M)) (x1 : Nat) (x2 : Nat) (x3 : Int32) (M : Mm) : EJ G Y_Lw_law cvI 50 18 [(0, .ref 3), (1, .ref x1), (2, .ref x2), (3, .int x3)] [] M (Lw_law_B18 xs nx k18 x1 x2 x3 M) := by
  unfold Lw_law_B18
  refine EJ_iload_n 19 3 (dk_29 (bt bc_Lw_law_0 18 rfl)) rfl rfl ?_
  refine EJ_aload_n 20 0 (dk_42 (bt bc_Lw_law_0 19 rfl)) rfl rfl ?_
  refine EJ_slen (Y := Y_Lw_law) hnx 21 (dk_190 (bt bc_Lw_law_0 20 rfl)) rfl ?_
  refine EJ_bipush 23 (dk_16 (bt bc_Lw_law_0 21 rfl) (bt bc_Lw_law_0 22 rfl) (n := 6) rfl) rfl (v := 6) kB_6 ?_
  refine EJ_isub 24 (dk_100 (bt bc_Lw_law_0 23 rfl)) rfl ?_
  refine EJ_icmp_gt 1594 27 (dk_163 (bt bc_Lw_law_0 24 rfl) (bt bc_Lw_law_0 25 rfl) (bt bc_Lw_law_0 26 rfl) (n := 1570) rfl) (by decide) rfl (fun _ => ?_) (fun _ => ?_)
  · refine EJ_iconst 1595 (dk_4 (bt bc_Lw_law_49 26 rfl)) rfl (v := 1) kI_1 ?_
    exact EJ_zret rfl (by decide) (dk_172 (bt bc_Lw_law_49 27 rfl))
  · refine EJ_aload_n 28 0 (dk_42 (bt bc_Lw_law_0 27 rfl)) rfl rfl ?_
    refine EJ_iload_n 29 3 (dk_29 (bt bc_Lw_law_0 28 rfl)) rfl rfl ?_
    refine EJ_ck (fun h7 => ?_)
    refine EJ_sld (Y := Y_Lw_law) hxs hnx 30 h7 (dk_46 (bt bc_Lw_law_0 29 rfl)) rfl ?_
    refine EJ_bipush 32 (dk_16 (bt bc_Lw_law_0 30 rfl) (bt bc_Lw_law_0 31 rfl) (n := 63) rfl) rfl (v := 63) kB_63 ?_
    refine EJ_iand 33 (dk_126 (bt bc_Lw_law_1 0 rfl)) rfl ?_
    refine EJ_case 0 208 ds_Lw_law_33 (by decide) rfl (by decide) (fun _ => ?_) (fun hc33_0 => ?_)
    · refine EJ_aload_n 209 1 (dk_43 (bt bc_Lw_law_6 16 rfl)) rfl rfl ?_
      refine EJ_ck (fun h8 => ?_)
      refine EJ_callVi (Y2 := Y_Hall_town) 212 cf11 (s_Hall_town G _ _) (of_decide_eq_true h8) rfl (dk_182 (bt bc_Lw_law_6 17 rfl) (bt bc_Lw_law_6 18 rfl) (bt bc_Lw_law_6 19 rfl) (n := 13) rfl) rfl tw_255 tw_256 tw_257 tw_258 hd_Hall_town rfl (by decide) (Nat.le_of_ble_eq_true rfl) (fun r9 M10 => ?_)
      refine EJ_aload_n 213 2 (dk_44 (bt bc_Lw_law_6 20 rfl)) rfl rfl ?_
      refine EJ_ck (fun h11 => ?_)
      refine EJ_callVi (Y2 := Y_Mod_town) 216 cf12 (s_Mod_town G _ _) (of_decide_eq_true h11) rfl (dk_182 (bt bc_Lw_law_6 21 rfl) (bt bc_Lw_law_6 22 rfl) (bt bc_Lw_law_6 23 rfl) (n := 17) rfl) rfl tw_1520 tw_1521 tw_1522 tw_1523 hd_Mod_town rfl (by decide) (Nat.le_of_ble_eq_true rfl) (fun r12 M13 => ?_)
      refine EJ_icmp_eq 1588 219 (dk_159 (bt bc_Lw_law_6 24 rfl) (bt bc_Lw_law_6 25 rfl) (bt bc_Lw_law_6 26 rfl) (n := 1372) rfl) (by decide) rfl (fun _ => ?_) (fun _ => ?_)
      · exact EJ_pick (lv2 := [(0, .ref 3), (1, .ref _), (2, .ref _), (3, .int _)]) [0, 1, 2, 3] rfl (e_Lw_law_J1588 hxs hnx k18 hk18 _ _ _ _)
      · refine EJ_iconst 220 (dk_3 (bt bc_Lw_law_6 27 rfl)) rfl (v := 0) kI_0 ?_
        exact EJ_zret rfl (by decide) (dk_172 (bt bc_Lw_law_6 28 rfl))
    refine EJ_case 1 221 ds_Lw_law_33 (by decide) rfl (by decide) (fun _ => ?_) (fun hc33_1 => ?_)
    · refine EJ_aload_n 222 1 (dk_43 (bt bc_Lw_law_6 29 rfl)) rfl rfl ?_
      refine EJ_aload_n 223 0 (dk_42 (bt bc_Lw_law_6 30 rfl)) rfl rfl ?_
      refine EJ_iload_n 224 3 (dk_29 (bt bc_Lw_law_6 31 rfl)) rfl rfl ?_
      refine EJ_iconst 225 (dk_4 (bt bc_Lw_law_7 0 rfl)) rfl (v := 1) kI_1 ?_
      refine EJ_iadd 226 (dk_96 (bt bc_Lw_law_7 1 rfl)) rfl ?_
      refine EJ_ck (fun h15 => ?_)
      refine EJ_sld (Y := Y_Lw_law) hxs hnx 227 h15 (dk_46 (bt bc_Lw_law_7 2 rfl)) rfl ?_
      refine EJ_aload_n 228 0 (dk_42 (bt bc_Lw_law_7 3 rfl)) rfl rfl ?_
      refine EJ_iload_n 229 3 (dk_29 (bt bc_Lw_law_7 4 rfl)) rfl rfl ?_
      refine EJ_iconst 230 (dk_5 (bt bc_Lw_law_7 5 rfl)) rfl (v := 2) kI_2 ?_
      refine EJ_iadd 231 (dk_96 (bt bc_Lw_law_7 6 rfl)) rfl ?_
      refine EJ_ck (fun h16 => ?_)
      refine EJ_sld (Y := Y_Lw_law) hxs hnx 232 h16 (dk_46 (bt bc_Lw_law_7 7 rfl)) rfl ?_
      refine EJ_aload_n 233 0 (dk_42 (bt bc_Lw_law_7 8 rfl)) rfl rfl ?_
      refine EJ_iload_n 234 3 (dk_29 (bt bc_Lw_law_7 9 rfl)) rfl rfl ?_
      refine EJ_iconst 235 (dk_6 (bt bc_Lw_law_7 10 rfl)) rfl (v := 3) kI_3 ?_
      refine EJ_iadd 236 (dk_96 (bt bc_Lw_law_7 11 rfl)) rfl ?_
      refine EJ_ck (fun h17 => ?_)
      refine EJ_sld (Y := Y_Lw_law) hxs hnx 237 h17 (dk_46 (bt bc_Lw_law_7 12 rfl)) rfl ?_
      refine EJ_ck (fun h18 => ?_)
      refine EJ_callVi (Y2 := Y_Hall_fog) 240 cf11 (s_Hall_fog G _ _ _ _ _) (of_decide_eq_true h18) rfl (dk_182 (bt bc_Lw_law_7 13 rfl) (bt bc_Lw_law_7 14 rfl) (bt bc_Lw_law_7 15 rfl) (n := 18) rfl) rfl tw_263 tw_264 tw_265 tw_266 hd_Hall_fog rfl (by decide) (Nat.le_of_ble_eq_true rfl) (fun r19 M20 => ?_)
      refine EJ_aload_n 241 2 (dk_44 (bt bc_Lw_law_7 16 rfl)) rfl rfl ?_
      refine EJ_aload_n 242 0 (dk_42 (bt bc_Lw_law_7 17 rfl)) rfl rfl ?_
      refine EJ_iload_n 243 3 (dk_29 (bt bc_Lw_law_7 18 rfl)) rfl rfl ?_
      refine EJ_iconst 244 (dk_4 (bt bc_Lw_law_7 19 rfl)) rfl (v := 1) kI_1 ?_
      refine EJ_iadd 245 (dk_96 (bt bc_Lw_law_7 20 rfl)) rfl ?_
      refine EJ_ck (fun h21 => ?_)
      refine EJ_sld (Y := Y_Lw_law) hxs hnx 246 h21 (dk_46 (bt bc_Lw_law_7 21 rfl)) rfl ?_
      refine EJ_aload_n 247 0 (dk_42 (bt bc_Lw_law_7 22 rfl)) rfl rfl ?_
      refine EJ_iload_n 248 3 (dk_29 (bt bc_Lw_law_7 23 rfl)) rfl rfl ?_
      refine EJ_iconst 249 (dk_5 (bt bc_Lw_law_7 24 rfl)) rfl (v := 2) kI_2 ?_
      refine EJ_iadd 250 (dk_96 (bt bc_Lw_law_7 25 rfl)) rfl ?_
      refine EJ_ck (fun h22 => ?_)
      refine EJ_sld (Y := Y_Lw_law) hxs hnx 251 h22 (dk_46 (bt bc_Lw_law_7 26 rfl)) rfl ?_
      refine EJ_aload_n 252 0 (dk_42 (bt bc_Lw_law_7 27 rfl)) rfl rfl ?_
      refine EJ_iload_n 253 3 (dk_29 (bt bc_Lw_law_7 28 rfl)) rfl rfl ?_
      refine EJ_iconst 254 (dk_6 (bt bc_Lw_law_7 29 rfl)) rfl (v := 3) kI_3 ?_
      refine EJ_iadd 255 (dk_96 (bt bc_Lw_law_7 30 rfl)) rfl ?_
      refine EJ_ck (fun h23 => ?_)
      refine EJ_sld (Y := Y_Lw_law) hxs hnx 256 h23 (dk_46 (bt bc_Lw_law_7 31 rfl)) rfl ?_
      refine EJ_ck (fun h24 => ?_)
      refine EJ_callVi (Y2 := Y_Mod_fog) 259 cf12 (s_Mod_fog G _ _ _ _ _) (of_decide_eq_true h24) rfl (dk_182 (bt bc_Lw_law_8 0 rfl) (bt bc_Lw_law_8 1 rfl) (bt bc_Lw_law_8 2 rfl) (n := 22) rfl) rfl tw_1524 tw_1525 tw_1526 tw_1527 hd_Mod_fog rfl (by decide) (Nat.le_of_ble_eq_true rfl) (fun r25 M26 => ?_)
      refine EJ_icmp_eq 1588 262 (dk_159 (bt bc_Lw_law_8 3 rfl) (bt bc_Lw_law_8 4 rfl) (bt bc_Lw_law_8 5 rfl) (n := 1329) rfl) (by decide) rfl (fun _ => ?_) (fun _ => ?_)
      · exact EJ_pick (lv2 := [(0, .ref 3), (1, .ref _), (2, .ref _), (3, .int _)]) [0, 1, 2, 3] rfl (e_Lw_law_J1588 hxs hnx k18 hk18 _ _ _ _)
      · refine EJ_iconst 263 (dk_3 (bt bc_Lw_law_8 6 rfl)) rfl (v := 0) kI_0 ?_
        exact EJ_zret rfl (by decide) (dk_172 (bt bc_Lw_law_8 7 rfl))
    refine EJ_case 2 264 ds_Lw_law_33 (by decide) rfl (by decide) (fun _ => ?_) (fun hc33_2 => ?_)
    · refine EJ_aload_n 265 1 (dk_43 (bt bc_Lw_law_8 8 rfl)) rfl rfl ?_
      refine EJ_aload_n 266 0 (dk_42 (bt bc_Lw_law_8 9 rfl)) rfl rfl ?_
      refine EJ_iload_n 267 3 (dk_29 (bt bc_Lw_law_8 10 rfl)) rfl rfl ?_
      refine EJ_iconst 268 (dk_4 (bt bc_Lw_law_8 11 rfl)) rfl (v := 1) kI_1 ?_
      refine EJ_iadd 269 (dk_96 (bt bc_Lw_law_8 12 rfl)) rfl ?_
      refine EJ_ck (fun h27 => ?_)
      refine EJ_sld (Y := Y_Lw_law) hxs hnx 270 h27 (dk_46 (bt bc_Lw_law_8 13 rfl)) rfl ?_
      refine EJ_aload_n 271 0 (dk_42 (bt bc_Lw_law_8 14 rfl)) rfl rfl ?_
      refine EJ_iload_n 272 3 (dk_29 (bt bc_Lw_law_8 15 rfl)) rfl rfl ?_
      refine EJ_iconst 273 (dk_5 (bt bc_Lw_law_8 16 rfl)) rfl (v := 2) kI_2 ?_
      refine EJ_iadd 274 (dk_96 (bt bc_Lw_law_8 17 rfl)) rfl ?_
      refine EJ_ck (fun h28 => ?_)
      refine EJ_sld (Y := Y_Lw_law) hxs hnx 275 h28 (dk_46 (bt bc_Lw_law_8 18 rfl)) rfl ?_
      refine EJ_aload_n 276 0 (dk_42 (bt bc_Lw_law_8 19 rfl)) rfl rfl ?_
      refine EJ_iload_n 277 3 (dk_29 (bt bc_Lw_law_8 20 rfl)) rfl rfl ?_
      refine EJ_iconst 278 (dk_6 (bt bc_Lw_law_8 21 rfl)) rfl (v := 3) kI_3 ?_
      refine EJ_iadd 279 (dk_96 (bt bc_Lw_law_8 22 rfl)) rfl ?_
      refine EJ_ck (fun h29 => ?_)
      refine EJ_sld (Y := Y_Lw_law) hxs hnx 280 h29 (dk_46 (bt bc_Lw_law_8 23 rfl)) rfl ?_
      refine EJ_aload_n 281 0 (dk_42 (bt bc_Lw_law_8 24 rfl)) rfl rfl ?_
      refine EJ_iload_n 282 3 (dk_29 (bt bc_Lw_law_8 25 rfl)) rfl rfl ?_
      refine EJ_iconst 283 (dk_7 (bt bc_Lw_law_8 26 rfl)) rfl (v := 4) kI_4 ?_
      refine EJ_iadd 284 (dk_96 (bt bc_Lw_law_8 27 rfl)) rfl ?_
      refine EJ_ck (fun h30 => ?_)
      refine EJ_sld (Y := Y_Lw_law) hxs hnx 285 h30 (dk_46 (bt bc_Lw_law_8 28 rfl)) rfl ?_
      refine EJ_ck (fun h31 => ?_)
      refine EJ_callVi (Y2 := Y_Hall_road) 288 cf11 (s_Hall_road G _ _ _ _ _ _) (of_decide_eq_true h31) rfl (dk_182 (bt bc_Lw_law_8 29 rfl) (bt bc_Lw_law_8 30 rfl) (bt bc_Lw_law_8 31 rfl) (n := 23) rfl) rfl tw_278 tw_279 tw_280 tw_281 hd_Hall_road rfl (by decide) (Nat.le_of_ble_eq_true rfl) (fun r32 M33 => ?_)
      refine EJ_aload_n 289 2 (dk_44 (bt bc_Lw_law_9 0 rfl)) rfl rfl ?_
      refine EJ_aload_n 290 0 (dk_42 (bt bc_Lw_law_9 1 rfl)) rfl rfl ?_
      refine EJ_iload_n 291 3 (dk_29 (bt bc_Lw_law_9 2 rfl)) rfl rfl ?_
      refine EJ_iconst 292 (dk_4 (bt bc_Lw_law_9 3 rfl)) rfl (v := 1) kI_1 ?_
      refine EJ_iadd 293 (dk_96 (bt bc_Lw_law_9 4 rfl)) rfl ?_
      refine EJ_ck (fun h34 => ?_)
      refine EJ_sld (Y := Y_Lw_law) hxs hnx 294 h34 (dk_46 (bt bc_Lw_law_9 5 rfl)) rfl ?_
      refine EJ_aload_n 295 0 (dk_42 (bt bc_Lw_law_9 6 rfl)) rfl rfl ?_
      refine EJ_iload_n 296 3 (dk_29 (bt bc_Lw_law_9 7 rfl)) rfl rfl ?_
      refine EJ_iconst 297 (dk_5 (bt bc_Lw_law_9 8 rfl)) rfl (v := 2) kI_2 ?_
      refine EJ_iadd 298 (dk_96 (bt bc_Lw_law_9 9 rfl)) rfl ?_
      refine EJ_ck (fun h35 => ?_)
      refine EJ_sld (Y := Y_Lw_law) hxs hnx 299 h35 (dk_46 (bt bc_Lw_law_9 10 rfl)) rfl ?_
      refine EJ_aload_n 300 0 (dk_42 (bt bc_Lw_law_9 11 rfl)) rfl rfl ?_
      refine EJ_iload_n 301 3 (dk_29 (bt bc_Lw_law_9 12 rfl)) rfl rfl ?_
      refine EJ_iconst 302 (dk_6 (bt bc_Lw_law_9 13 rfl)) rfl (v := 3) kI_3 ?_
      refine EJ_iadd 303 (dk_96 (bt bc_Lw_law_9 14 rfl)) rfl ?_
      refine EJ_ck (fun h36 => ?_)
      refine EJ_sld (Y := Y_Lw_law) hxs hnx 304 h36 (dk_46 (bt bc_Lw_law_9 15 rfl)) rfl ?_
      refine EJ_aload_n 305 0 (dk_42 (bt bc_Lw_law_9 16 rfl)) rfl rfl ?_
      refine EJ_iload_n 306 3 (dk_29 (bt bc_Lw_law_9 17 rfl)) rfl rfl ?_
      refine EJ_iconst 307 (dk_7 (bt bc_Lw_law_9 18 rfl)) rfl (v := 4) kI_4 ?_
      refine EJ_iadd 308 (dk_96 (bt bc_Lw_law_9 19 rfl)) rfl ?_
      refine EJ_ck (fun h37 => ?_)
      refine EJ_sld (Y := Y_Lw_law) hxs hnx 309 h37 (dk_46 (bt bc_Lw_law_9 20 rfl)) rfl ?_
      refine EJ_ck (fun h38 => ?_)
      refine EJ_callVi (Y2 := Y_Mod_road) 312 cf12 (s_Mod_road G _ _ _ _ _ _) (of_decide_eq_true h38) rfl (dk_182 (bt bc_Lw_law_9 21 rfl) (bt bc_Lw_law_9 22 rfl) (bt bc_Lw_law_9 23 rfl) (n := 27) rfl) rfl tw_1535 tw_1536 tw_1537 tw_1538 hd_Mod_road rfl (by decide) (Nat.le_of_ble_eq_true rfl) (fun r39 M40 => ?_)
      refine EJ_icmp_eq 1588 315 (dk_159 (bt bc_Lw_law_9 24 rfl) (bt bc_Lw_law_9 25 rfl) (bt bc_Lw_law_9 26 rfl) (n := 1276) rfl) (by decide) rfl (fun _ => ?_) (fun _ => ?_)
      · exact EJ_pick (lv2 := [(0, .ref 3), (1, .ref _), (2, .ref _), (3, .int _)]) [0, 1, 2, 3] rfl (e_Lw_law_J1588 hxs hnx k18 hk18 _ _ _ _)
      · refine EJ_iconst 316 (dk_3 (bt bc_Lw_law_9 27 rfl)) rfl (v := 0) kI_0 ?_
        exact EJ_zret rfl (by decide) (dk_172 (bt bc_Lw_law_9 28 rfl))
    refine EJ_case 3 317 ds_Lw_law_33 (by decide) rfl (by decide) (fun _ => ?_) (fun hc33_3 => ?_)
    · refine EJ_aload_n 318 1 (dk_43 (bt bc_Lw_law_9 29 rfl)) rfl rfl ?_
      refine EJ_aload_n 319 0 (dk_42 (bt bc_Lw_law_9 30 rfl)) rfl rfl ?_
      refine EJ_iload_n 320 3 (dk_29 (bt bc_Lw_law_9 31 rfl)) rfl rfl ?_
      refine EJ_iconst 321 (dk_4 (bt bc_Lw_law_10 0 rfl)) rfl (v := 1) kI_1 ?_
      refine EJ_iadd 322 (dk_96 (bt bc_Lw_law_10 1 rfl)) rfl ?_
      refine EJ_ck (fun h41 => ?_)
      refine EJ_sld (Y := Y_Lw_law) hxs hnx 323 h41 (dk_46 (bt bc_Lw_law_10 2 rfl)) rfl ?_
      refine EJ_aload_n 324 0 (dk_42 (bt bc_Lw_law_10 3 rfl)) rfl rfl ?_
      refine EJ_iload_n 325 3 (dk_29 (bt bc_Lw_law_10 4 rfl)) rfl rfl ?_
      refine EJ_iconst 326 (dk_5 (bt bc_Lw_law_10 5 rfl)) rfl (v := 2) kI_2 ?_
      refine EJ_iadd 327 (dk_96 (bt bc_Lw_law_10 6 rfl)) rfl ?_
      refine EJ_ck (fun h42 => ?_)
      refine EJ_sld (Y := Y_Lw_law) hxs hnx 328 h42 (dk_46 (bt bc_Lw_law_10 7 rfl)) rfl ?_
      refine EJ_aload_n 329 0 (dk_42 (bt bc_Lw_law_10 8 rfl)) rfl rfl ?_
      refine EJ_iload_n 330 3 (dk_29 (bt bc_Lw_law_10 9 rfl)) rfl rfl ?_
      refine EJ_iconst 331 (dk_6 (bt bc_Lw_law_10 10 rfl)) rfl (v := 3) kI_3 ?_
      refine EJ_iadd 332 (dk_96 (bt bc_Lw_law_10 11 rfl)) rfl ?_
      refine EJ_ck (fun h43 => ?_)
      refine EJ_sld (Y := Y_Lw_law) hxs hnx 333 h43 (dk_46 (bt bc_Lw_law_10 12 rfl)) rfl ?_
      refine EJ_ck (fun h44 => ?_)
      refine EJ_callVi (Y2 := Y_Hall_news) 336 cf11 (s_Hall_news G _ _ _ _ _) (of_decide_eq_true h44) rfl (dk_182 (bt bc_Lw_law_10 13 rfl) (bt bc_Lw_law_10 14 rfl) (bt bc_Lw_law_10 15 rfl) (n := 28) rfl) rfl tw_286 tw_287 tw_288 tw_289 hd_Hall_news rfl (by decide) (Nat.le_of_ble_eq_true rfl) (fun r45 M46 => ?_)
      refine EJ_aload_n 337 2 (dk_44 (bt bc_Lw_law_10 16 rfl)) rfl rfl ?_
      refine EJ_aload_n 338 0 (dk_42 (bt bc_Lw_law_10 17 rfl)) rfl rfl ?_
      refine EJ_iload_n 339 3 (dk_29 (bt bc_Lw_law_10 18 rfl)) rfl rfl ?_
      refine EJ_iconst 340 (dk_4 (bt bc_Lw_law_10 19 rfl)) rfl (v := 1) kI_1 ?_
      refine EJ_iadd 341 (dk_96 (bt bc_Lw_law_10 20 rfl)) rfl ?_
      refine EJ_ck (fun h47 => ?_)
      refine EJ_sld (Y := Y_Lw_law) hxs hnx 342 h47 (dk_46 (bt bc_Lw_law_10 21 rfl)) rfl ?_
      refine EJ_aload_n 343 0 (dk_42 (bt bc_Lw_law_10 22 rfl)) rfl rfl ?_
      refine EJ_iload_n 344 3 (dk_29 (bt bc_Lw_law_10 23 rfl)) rfl rfl ?_
      refine EJ_iconst 345 (dk_5 (bt bc_Lw_law_10 24 rfl)) rfl (v := 2) kI_2 ?_
      refine EJ_iadd 346 (dk_96 (bt bc_Lw_law_10 25 rfl)) rfl ?_
      refine EJ_ck (fun h48 => ?_)
      refine EJ_sld (Y := Y_Lw_law) hxs hnx 347 h48 (dk_46 (bt bc_Lw_law_10 26 rfl)) rfl ?_
      refine EJ_aload_n 348 0 (dk_42 (bt bc_Lw_law_10 27 rfl)) rfl rfl ?_
      refine EJ_iload_n 349 3 (dk_29 (bt bc_Lw_law_10 28 rfl)) rfl rfl ?_
      refine EJ_iconst 350 (dk_6 (bt bc_Lw_law_10 29 rfl)) rfl (v := 3) kI_3 ?_
      refine EJ_iadd 351 (dk_96 (bt bc_Lw_law_10 30 rfl)) rfl ?_
      refine EJ_ck (fun h49 => ?_)
      refine EJ_sld (Y := Y_Lw_law) hxs hnx 352 h49 (dk_46 (bt bc_Lw_law_10 31 rfl)) rfl ?_
      refine EJ_ck (fun h50 => ?_)
      refine EJ_callVi (Y2 := Y_Mod_news) 355 cf12 (s_Mod_news G _ _ _ _ _) (of_decide_eq_true h50) rfl (dk_182 (bt bc_Lw_law_11 0 rfl) (bt bc_Lw_law_11 1 rfl) (bt bc_Lw_law_11 2 rfl) (n := 32) rfl) rfl tw_1539 tw_1540 tw_1541 tw_1542 hd_Mod_news rfl (by decide) (Nat.le_of_ble_eq_true rfl) (fun r51 M52 => ?_)
      refine EJ_icmp_eq 1588 358 (dk_159 (bt bc_Lw_law_11 3 rfl) (bt bc_Lw_law_11 4 rfl) (bt bc_Lw_law_11 5 rfl) (n := 1233) rfl) (by decide) rfl (fun _ => ?_) (fun _ => ?_)
      · exact EJ_pick (lv2 := [(0, .ref 3), (1, .ref _), (2, .ref _), (3, .int _)]) [0, 1, 2, 3] rfl (e_Lw_law_J1588 hxs hnx k18 hk18 _ _ _ _)
      · refine EJ_iconst 359 (dk_3 (bt bc_Lw_law_11 6 rfl)) rfl (v := 0) kI_0 ?_
        exact EJ_zret rfl (by decide) (dk_172 (bt bc_Lw_law_11 7 rfl))
    refine EJ_case 4 360 ds_Lw_law_33 (by decide) rfl (by decide) (fun _ => ?_) (fun hc33_4 => ?_)
    · refine EJ_aload_n 361 1 (dk_43 (bt bc_Lw_law_11 8 rfl)) rfl rfl ?_
      refine EJ_aload_n 362 0 (dk_42 (bt bc_Lw_law_11 9 rfl)) rfl rfl ?_
      refine EJ_iload_n 363 3 (dk_29 (bt bc_Lw_law_11 10 rfl)) rfl rfl ?_
      refine EJ_iconst 364 (dk_4 (bt bc_Lw_law_11 11 rfl)) rfl (v := 1) kI_1 ?_
      refine EJ_iadd 365 (dk_96 (bt bc_Lw_law_11 12 rfl)) rfl ?_
      refine EJ_ck (fun h53 => ?_)
      refine EJ_sld (Y := Y_Lw_law) hxs hnx 366 h53 (dk_46 (bt bc_Lw_law_11 13 rfl)) rfl ?_
      refine EJ_ck (fun h54 => ?_)
      refine EJ_callVi (Y2 := Y_Hall_person) 369 cf11 (s_Hall_person G _ _ _) (of_decide_eq_true h54) rfl (dk_182 (bt bc_Lw_law_11 14 rfl) (bt bc_Lw_law_11 15 rfl) (bt bc_Lw_law_11 16 rfl) (n := 33) rfl) rfl tw_328 tw_329 tw_330 tw_331 hd_Hall_person rfl (by decide) (Nat.le_of_ble_eq_true rfl) (fun r55 M56 => ?_)
      refine EJ_aload_n 370 2 (dk_44 (bt bc_Lw_law_11 17 rfl)) rfl rfl ?_
      refine EJ_aload_n 371 0 (dk_42 (bt bc_Lw_law_11 18 rfl)) rfl rfl ?_
      refine EJ_iload_n 372 3 (dk_29 (bt bc_Lw_law_11 19 rfl)) rfl rfl ?_
      refine EJ_iconst 373 (dk_4 (bt bc_Lw_law_11 20 rfl)) rfl (v := 1) kI_1 ?_
      refine EJ_iadd 374 (dk_96 (bt bc_Lw_law_11 21 rfl)) rfl ?_
      refine EJ_ck (fun h57 => ?_)
      refine EJ_sld (Y := Y_Lw_law) hxs hnx 375 h57 (dk_46 (bt bc_Lw_law_11 22 rfl)) rfl ?_
      refine EJ_ck (fun h58 => ?_)
      refine EJ_callVi (Y2 := Y_Mod_person) 378 cf12 (s_Mod_person G _ _ _) (of_decide_eq_true h58) rfl (dk_182 (bt bc_Lw_law_11 23 rfl) (bt bc_Lw_law_11 24 rfl) (bt bc_Lw_law_11 25 rfl) (n := 37) rfl) rfl tw_1556 tw_1557 tw_1558 tw_1559 hd_Mod_person rfl (by decide) (Nat.le_of_ble_eq_true rfl) (fun r59 M60 => ?_)
      refine EJ_icmp_eq 1588 381 (dk_159 (bt bc_Lw_law_11 26 rfl) (bt bc_Lw_law_11 27 rfl) (bt bc_Lw_law_11 28 rfl) (n := 1210) rfl) (by decide) rfl (fun _ => ?_) (fun _ => ?_)
      · exact EJ_pick (lv2 := [(0, .ref 3), (1, .ref _), (2, .ref _), (3, .int _)]) [0, 1, 2, 3] rfl (e_Lw_law_J1588 hxs hnx k18 hk18 _ _ _ _)
      · refine EJ_iconst 382 (dk_3 (bt bc_Lw_law_11 29 rfl)) rfl (v := 0) kI_0 ?_
        exact EJ_zret rfl (by decide) (dk_172 (bt bc_Lw_law_11 30 rfl))
    refine EJ_case 5 383 ds_Lw_law_33 (by decide) rfl (by decide) (fun _ => ?_) (fun hc33_5 => ?_)
    · refine EJ_aload_n 384 1 (dk_43 (bt bc_Lw_law_11 31 rfl)) rfl rfl ?_
      refine EJ_aload_n 385 0 (dk_42 (bt bc_Lw_law_12 0 rfl)) rfl rfl ?_
      refine EJ_iload_n 386 3 (dk_29 (bt bc_Lw_law_12 1 rfl)) rfl rfl ?_
      refine EJ_iconst 387 (dk_4 (bt bc_Lw_law_12 2 rfl)) rfl (v := 1) kI_1 ?_
      refine EJ_iadd 388 (dk_96 (bt bc_Lw_law_12 3 rfl)) rfl ?_
      refine EJ_ck (fun h61 => ?_)
      refine EJ_sld (Y := Y_Lw_law) hxs hnx 389 h61 (dk_46 (bt bc_Lw_law_12 4 rfl)) rfl ?_
      refine EJ_aload_n 390 0 (dk_42 (bt bc_Lw_law_12 5 rfl)) rfl rfl ?_
      refine EJ_iload_n 391 3 (dk_29 (bt bc_Lw_law_12 6 rfl)) rfl rfl ?_
      refine EJ_iconst 392 (dk_5 (bt bc_Lw_law_12 7 rfl)) rfl (v := 2) kI_2 ?_
      refine EJ_iadd 393 (dk_96 (bt bc_Lw_law_12 8 rfl)) rfl ?_
      refine EJ_ck (fun h62 => ?_)
      refine EJ_sld (Y := Y_Lw_law) hxs hnx 394 h62 (dk_46 (bt bc_Lw_law_12 9 rfl)) rfl ?_
      refine EJ_aload_n 395 0 (dk_42 (bt bc_Lw_law_12 10 rfl)) rfl rfl ?_
      refine EJ_iload_n 396 3 (dk_29 (bt bc_Lw_law_12 11 rfl)) rfl rfl ?_
      refine EJ_iconst 397 (dk_6 (bt bc_Lw_law_12 12 rfl)) rfl (v := 3) kI_3 ?_
      refine EJ_iadd 398 (dk_96 (bt bc_Lw_law_12 13 rfl)) rfl ?_
      refine EJ_ck (fun h63 => ?_)
      refine EJ_sld (Y := Y_Lw_law) hxs hnx 399 h63 (dk_46 (bt bc_Lw_law_12 14 rfl)) rfl ?_
      refine EJ_ck (fun h64 => ?_)
      refine EJ_callVi (Y2 := Y_Hall_hears) 402 cf11 (s_Hall_hears G _ _ _ _ _) (of_decide_eq_true h64) rfl (dk_182 (bt bc_Lw_law_12 15 rfl) (bt bc_Lw_law_12 16 rfl) (bt bc_Lw_law_12 17 rfl) (n := 38) rfl) rfl tw_379 tw_380 tw_381 tw_382 hd_Hall_hears rfl (by decide) (Nat.le_of_ble_eq_true rfl) (fun r65 M66 => ?_)
      refine EJ_aload_n 403 2 (dk_44 (bt bc_Lw_law_12 18 rfl)) rfl rfl ?_
      refine EJ_aload_n 404 0 (dk_42 (bt bc_Lw_law_12 19 rfl)) rfl rfl ?_
      refine EJ_iload_n 405 3 (dk_29 (bt bc_Lw_law_12 20 rfl)) rfl rfl ?_
      refine EJ_iconst 406 (dk_4 (bt bc_Lw_law_12 21 rfl)) rfl (v := 1) kI_1 ?_
      refine EJ_iadd 407 (dk_96 (bt bc_Lw_law_12 22 rfl)) rfl ?_
      refine EJ_ck (fun h67 => ?_)
      refine EJ_sld (Y := Y_Lw_law) hxs hnx 408 h67 (dk_46 (bt bc_Lw_law_12 23 rfl)) rfl ?_
      refine EJ_aload_n 409 0 (dk_42 (bt bc_Lw_law_12 24 rfl)) rfl rfl ?_
      refine EJ_iload_n 410 3 (dk_29 (bt bc_Lw_law_12 25 rfl)) rfl rfl ?_
      refine EJ_iconst 411 (dk_5 (bt bc_Lw_law_12 26 rfl)) rfl (v := 2) kI_2 ?_
      refine EJ_iadd 412 (dk_96 (bt bc_Lw_law_12 27 rfl)) rfl ?_
      refine EJ_ck (fun h68 => ?_)
      refine EJ_sld (Y := Y_Lw_law) hxs hnx 413 h68 (dk_46 (bt bc_Lw_law_12 28 rfl)) rfl ?_
      refine EJ_aload_n 414 0 (dk_42 (bt bc_Lw_law_12 29 rfl)) rfl rfl ?_
      refine EJ_iload_n 415 3 (dk_29 (bt bc_Lw_law_12 30 rfl)) rfl rfl ?_
      refine EJ_iconst 416 (dk_6 (bt bc_Lw_law_12 31 rfl)) rfl (v := 3) kI_3 ?_
      refine EJ_iadd 417 (dk_96 (bt bc_Lw_law_13 0 rfl)) rfl ?_
      refine EJ_ck (fun h69 => ?_)
      refine EJ_sld (Y := Y_Lw_law) hxs hnx 418 h69 (dk_46 (bt bc_Lw_law_13 1 rfl)) rfl ?_
      refine EJ_ck (fun h70 => ?_)
      refine EJ_callVi (Y2 := Y_Mod_hears) 421 cf12 (s_Mod_hears G _ _ _ _ _) (of_decide_eq_true h70) rfl (dk_182 (bt bc_Lw_law_13 2 rfl) (bt bc_Lw_law_13 3 rfl) (bt bc_Lw_law_13 4 rfl) (n := 41) rfl) rfl tw_1560 tw_1561 tw_1562 tw_1563 hd_Mod_hears rfl (by decide) (Nat.le_of_ble_eq_true rfl) (fun r71 M72 => ?_)
      refine EJ_icmp_eq 1588 424 (dk_159 (bt bc_Lw_law_13 5 rfl) (bt bc_Lw_law_13 6 rfl) (bt bc_Lw_law_13 7 rfl) (n := 1167) rfl) (by decide) rfl (fun _ => ?_) (fun _ => ?_)
      · exact EJ_pick (lv2 := [(0, .ref 3), (1, .ref _), (2, .ref _), (3, .int _)]) [0, 1, 2, 3] rfl (e_Lw_law_J1588 hxs hnx k18 hk18 _ _ _ _)
      · refine EJ_iconst 425 (dk_3 (bt bc_Lw_law_13 8 rfl)) rfl (v := 0) kI_0 ?_
        exact EJ_zret rfl (by decide) (dk_172 (bt bc_Lw_law_13 9 rfl))
    refine EJ_case 6 426 ds_Lw_law_33 (by decide) rfl (by decide) (fun _ => ?_) (fun hc33_6 => ?_)
    · refine EJ_aload_n 427 1 (dk_43 (bt bc_Lw_law_13 10 rfl)) rfl rfl ?_
      refine EJ_ck (fun h73 => ?_)
      refine EJ_callVi (Y2 := Y_Hall_store) 430 cf11 (s_Hall_store G _ _) (of_decide_eq_true h73) rfl (dk_182 (bt bc_Lw_law_13 11 rfl) (bt bc_Lw_law_13 12 rfl) (bt bc_Lw_law_13 13 rfl) (n := 42) rfl) rfl tw_391 tw_392 tw_393 tw_394 hd_Hall_store rfl (by decide) (Nat.le_of_ble_eq_true rfl) (fun r74 M75 => ?_)
      refine EJ_aload_n 431 2 (dk_44 (bt bc_Lw_law_13 14 rfl)) rfl rfl ?_
      refine EJ_ck (fun h76 => ?_)
      refine EJ_callVi (Y2 := Y_Mod_store) 434 cf12 (s_Mod_store G _ _) (of_decide_eq_true h76) rfl (dk_182 (bt bc_Lw_law_13 15 rfl) (bt bc_Lw_law_13 16 rfl) (bt bc_Lw_law_13 17 rfl) (n := 45) rfl) rfl tw_1564 tw_1565 tw_1566 tw_1567 hd_Mod_store rfl (by decide) (Nat.le_of_ble_eq_true rfl) (fun r77 M78 => ?_)
      refine EJ_icmp_eq 1588 437 (dk_159 (bt bc_Lw_law_13 18 rfl) (bt bc_Lw_law_13 19 rfl) (bt bc_Lw_law_13 20 rfl) (n := 1154) rfl) (by decide) rfl (fun _ => ?_) (fun _ => ?_)
      · exact EJ_pick (lv2 := [(0, .ref 3), (1, .ref _), (2, .ref _), (3, .int _)]) [0, 1, 2, 3] rfl (e_Lw_law_J1588 hxs hnx k18 hk18 _ _ _ _)
      · refine EJ_iconst 438 (dk_3 (bt bc_Lw_law_13 21 rfl)) rfl (v := 0) kI_0 ?_
        exact EJ_zret rfl (by decide) (dk_172 (bt bc_Lw_law_13 22 rfl))
    refine EJ_case 7 439 ds_Lw_law_33 (by decide) rfl (by decide) (fun _ => ?_) (fun hc33_7 => ?_)
    · refine EJ_aload_n 440 1 (dk_43 (bt bc_Lw_law_13 23 rfl)) rfl rfl ?_
      refine EJ_aload_n 441 0 (dk_42 (bt bc_Lw_law_13 24 rfl)) rfl rfl ?_
      refine EJ_iload_n 442 3 (dk_29 (bt bc_Lw_law_13 25 rfl)) rfl rfl ?_
      refine EJ_iconst 443 (dk_4 (bt bc_Lw_law_13 26 rfl)) rfl (v := 1) kI_1 ?_
      refine EJ_iadd 444 (dk_96 (bt bc_Lw_law_13 27 rfl)) rfl ?_
      refine EJ_ck (fun h79 => ?_)
      refine EJ_sld (Y := Y_Lw_law) hxs hnx 445 h79 (dk_46 (bt bc_Lw_law_13 28 rfl)) rfl ?_
      refine EJ_aload_n 446 0 (dk_42 (bt bc_Lw_law_13 29 rfl)) rfl rfl ?_
      refine EJ_iload_n 447 3 (dk_29 (bt bc_Lw_law_13 30 rfl)) rfl rfl ?_
      refine EJ_iconst 448 (dk_5 (bt bc_Lw_law_13 31 rfl)) rfl (v := 2) kI_2 ?_
      refine EJ_iadd 449 (dk_96 (bt bc_Lw_law_14 0 rfl)) rfl ?_
      refine EJ_ck (fun h80 => ?_)
      refine EJ_sld (Y := Y_Lw_law) hxs hnx 450 h80 (dk_46 (bt bc_Lw_law_14 1 rfl)) rfl ?_
      refine EJ_aload_n 451 0 (dk_42 (bt bc_Lw_law_14 2 rfl)) rfl rfl ?_
      refine EJ_iload_n 452 3 (dk_29 (bt bc_Lw_law_14 3 rfl)) rfl rfl ?_
      refine EJ_iconst 453 (dk_6 (bt bc_Lw_law_14 4 rfl)) rfl (v := 3) kI_3 ?_
      refine EJ_iadd 454 (dk_96 (bt bc_Lw_law_14 5 rfl)) rfl ?_
      refine EJ_ck (fun h81 => ?_)
      refine EJ_sld (Y := Y_Lw_law) hxs hnx 455 h81 (dk_46 (bt bc_Lw_law_14 6 rfl)) rfl ?_
      refine EJ_aload_n 456 0 (dk_42 (bt bc_Lw_law_14 7 rfl)) rfl rfl ?_
      refine EJ_iload_n 457 3 (dk_29 (bt bc_Lw_law_14 8 rfl)) rfl rfl ?_
      refine EJ_iconst 458 (dk_7 (bt bc_Lw_law_14 9 rfl)) rfl (v := 4) kI_4 ?_
      refine EJ_iadd 459 (dk_96 (bt bc_Lw_law_14 10 rfl)) rfl ?_
      refine EJ_ck (fun h82 => ?_)
      refine EJ_sld (Y := Y_Lw_law) hxs hnx 460 h82 (dk_46 (bt bc_Lw_law_14 11 rfl)) rfl ?_
      refine EJ_ck (fun h83 => ?_)
      refine EJ_callVi (Y2 := Y_Hall_issue) 463 cf11 (s_Hall_issue G _ _ _ _ _ _) (of_decide_eq_true h83) rfl (dk_182 (bt bc_Lw_law_14 12 rfl) (bt bc_Lw_law_14 13 rfl) (bt bc_Lw_law_14 14 rfl) (n := 46) rfl) rfl tw_449 tw_450 tw_451 tw_452 hd_Hall_issue rfl (by decide) (Nat.le_of_ble_eq_true rfl) (fun r84 M85 => ?_)
      refine EJ_aload_n 464 2 (dk_44 (bt bc_Lw_law_14 15 rfl)) rfl rfl ?_
      refine EJ_aload_n 465 0 (dk_42 (bt bc_Lw_law_14 16 rfl)) rfl rfl ?_
      refine EJ_iload_n 466 3 (dk_29 (bt bc_Lw_law_14 17 rfl)) rfl rfl ?_
      refine EJ_iconst 467 (dk_4 (bt bc_Lw_law_14 18 rfl)) rfl (v := 1) kI_1 ?_
      refine EJ_iadd 468 (dk_96 (bt bc_Lw_law_14 19 rfl)) rfl ?_
      refine EJ_ck (fun h86 => ?_)
      refine EJ_sld (Y := Y_Lw_law) hxs hnx 469 h86 (dk_46 (bt bc_Lw_law_14 20 rfl)) rfl ?_
      refine EJ_aload_n 470 0 (dk_42 (bt bc_Lw_law_14 21 rfl)) rfl rfl ?_
      refine EJ_iload_n 471 3 (dk_29 (bt bc_Lw_law_14 22 rfl)) rfl rfl ?_
      refine EJ_iconst 472 (dk_5 (bt bc_Lw_law_14 23 rfl)) rfl (v := 2) kI_2 ?_
      refine EJ_iadd 473 (dk_96 (bt bc_Lw_law_14 24 rfl)) rfl ?_
      refine EJ_ck (fun h87 => ?_)
      refine EJ_sld (Y := Y_Lw_law) hxs hnx 474 h87 (dk_46 (bt bc_Lw_law_14 25 rfl)) rfl ?_
      refine EJ_aload_n 475 0 (dk_42 (bt bc_Lw_law_14 26 rfl)) rfl rfl ?_
      refine EJ_iload_n 476 3 (dk_29 (bt bc_Lw_law_14 27 rfl)) rfl rfl ?_
      refine EJ_iconst 477 (dk_6 (bt bc_Lw_law_14 28 rfl)) rfl (v := 3) kI_3 ?_
      refine EJ_iadd 478 (dk_96 (bt bc_Lw_law_14 29 rfl)) rfl ?_
      refine EJ_ck (fun h88 => ?_)
      refine EJ_sld (Y := Y_Lw_law) hxs hnx 479 h88 (dk_46 (bt bc_Lw_law_14 30 rfl)) rfl ?_
      refine EJ_aload_n 480 0 (dk_42 (bt bc_Lw_law_14 31 rfl)) rfl rfl ?_
      refine EJ_iload_n 481 3 (dk_29 (bt bc_Lw_law_15 0 rfl)) rfl rfl ?_
      refine EJ_iconst 482 (dk_7 (bt bc_Lw_law_15 1 rfl)) rfl (v := 4) kI_4 ?_
      refine EJ_iadd 483 (dk_96 (bt bc_Lw_law_15 2 rfl)) rfl ?_
      refine EJ_ck (fun h89 => ?_)
      refine EJ_sld (Y := Y_Lw_law) hxs hnx 484 h89 (dk_46 (bt bc_Lw_law_15 3 rfl)) rfl ?_
      refine EJ_ck (fun h90 => ?_)
      refine EJ_callVi (Y2 := Y_Mod_issue) 487 cf12 (s_Mod_issue G _ _ _ _ _ _) (of_decide_eq_true h90) rfl (dk_182 (bt bc_Lw_law_15 4 rfl) (bt bc_Lw_law_15 5 rfl) (bt bc_Lw_law_15 6 rfl) (n := 50) rfl) rfl tw_1568 tw_1569 tw_1570 tw_1571 hd_Mod_issue rfl (by decide) (Nat.le_of_ble_eq_true rfl) (fun r91 M92 => ?_)
      refine EJ_icmp_eq 1588 490 (dk_159 (bt bc_Lw_law_15 7 rfl) (bt bc_Lw_law_15 8 rfl) (bt bc_Lw_law_15 9 rfl) (n := 1101) rfl) (by decide) rfl (fun _ => ?_) (fun _ => ?_)
      · exact EJ_pick (lv2 := [(0, .ref 3), (1, .ref _), (2, .ref _), (3, .int _)]) [0, 1, 2, 3] rfl (e_Lw_law_J1588 hxs hnx k18 hk18 _ _ _ _)
      · refine EJ_iconst 491 (dk_3 (bt bc_Lw_law_15 10 rfl)) rfl (v := 0) kI_0 ?_
        exact EJ_zret rfl (by decide) (dk_172 (bt bc_Lw_law_15 11 rfl))
    refine EJ_case 8 492 ds_Lw_law_33 (by decide) rfl (by decide) (fun _ => ?_) (fun hc33_8 => ?_)
    · refine EJ_aload_n 493 1 (dk_43 (bt bc_Lw_law_15 12 rfl)) rfl rfl ?_
      refine EJ_aload_n 494 0 (dk_42 (bt bc_Lw_law_15 13 rfl)) rfl rfl ?_
      refine EJ_iload_n 495 3 (dk_29 (bt bc_Lw_law_15 14 rfl)) rfl rfl ?_
      refine EJ_iconst 496 (dk_4 (bt bc_Lw_law_15 15 rfl)) rfl (v := 1) kI_1 ?_
      refine EJ_iadd 497 (dk_96 (bt bc_Lw_law_15 16 rfl)) rfl ?_
      refine EJ_ck (fun h93 => ?_)
      refine EJ_sld (Y := Y_Lw_law) hxs hnx 498 h93 (dk_46 (bt bc_Lw_law_15 17 rfl)) rfl ?_
      refine EJ_aload_n 499 0 (dk_42 (bt bc_Lw_law_15 18 rfl)) rfl rfl ?_
      refine EJ_iload_n 500 3 (dk_29 (bt bc_Lw_law_15 19 rfl)) rfl rfl ?_
      refine EJ_iconst 501 (dk_5 (bt bc_Lw_law_15 20 rfl)) rfl (v := 2) kI_2 ?_
      refine EJ_iadd 502 (dk_96 (bt bc_Lw_law_15 21 rfl)) rfl ?_
      refine EJ_ck (fun h94 => ?_)
      refine EJ_sld (Y := Y_Lw_law) hxs hnx 503 h94 (dk_46 (bt bc_Lw_law_15 22 rfl)) rfl ?_
      refine EJ_aload_n 504 0 (dk_42 (bt bc_Lw_law_15 23 rfl)) rfl rfl ?_
      refine EJ_iload_n 505 3 (dk_29 (bt bc_Lw_law_15 24 rfl)) rfl rfl ?_
      refine EJ_iconst 506 (dk_6 (bt bc_Lw_law_15 25 rfl)) rfl (v := 3) kI_3 ?_
      refine EJ_iadd 507 (dk_96 (bt bc_Lw_law_15 26 rfl)) rfl ?_
      refine EJ_ck (fun h95 => ?_)
      refine EJ_sld (Y := Y_Lw_law) hxs hnx 508 h95 (dk_46 (bt bc_Lw_law_15 27 rfl)) rfl ?_
      refine EJ_aload_n 509 0 (dk_42 (bt bc_Lw_law_15 28 rfl)) rfl rfl ?_
      refine EJ_iload_n 510 3 (dk_29 (bt bc_Lw_law_15 29 rfl)) rfl rfl ?_
      refine EJ_iconst 511 (dk_7 (bt bc_Lw_law_15 30 rfl)) rfl (v := 4) kI_4 ?_
      refine EJ_iadd 512 (dk_96 (bt bc_Lw_law_15 31 rfl)) rfl ?_
      refine EJ_ck (fun h96 => ?_)
      refine EJ_sld (Y := Y_Lw_law) hxs hnx 513 h96 (dk_46 (bt bc_Lw_law_16 0 rfl)) rfl ?_
      refine EJ_ck (fun h97 => ?_)
      refine EJ_callVi (Y2 := Y_Hall_give) 516 cf11 (s_Hall_give G _ _ _ _ _ _) (of_decide_eq_true h97) rfl (dk_182 (bt bc_Lw_law_16 1 rfl) (bt bc_Lw_law_16 2 rfl) (bt bc_Lw_law_16 3 rfl) (n := 51) rfl) rfl tw_469 tw_470 tw_471 tw_472 hd_Hall_give rfl (by decide) (Nat.le_of_ble_eq_true rfl) (fun r98 M99 => ?_)
      refine EJ_aload_n 517 2 (dk_44 (bt bc_Lw_law_16 4 rfl)) rfl rfl ?_
      refine EJ_aload_n 518 0 (dk_42 (bt bc_Lw_law_16 5 rfl)) rfl rfl ?_
      refine EJ_iload_n 519 3 (dk_29 (bt bc_Lw_law_16 6 rfl)) rfl rfl ?_
      refine EJ_iconst 520 (dk_4 (bt bc_Lw_law_16 7 rfl)) rfl (v := 1) kI_1 ?_
      refine EJ_iadd 521 (dk_96 (bt bc_Lw_law_16 8 rfl)) rfl ?_
      refine EJ_ck (fun h100 => ?_)
      refine EJ_sld (Y := Y_Lw_law) hxs hnx 522 h100 (dk_46 (bt bc_Lw_law_16 9 rfl)) rfl ?_
      refine EJ_aload_n 523 0 (dk_42 (bt bc_Lw_law_16 10 rfl)) rfl rfl ?_
      refine EJ_iload_n 524 3 (dk_29 (bt bc_Lw_law_16 11 rfl)) rfl rfl ?_
      refine EJ_iconst 525 (dk_5 (bt bc_Lw_law_16 12 rfl)) rfl (v := 2) kI_2 ?_
      refine EJ_iadd 526 (dk_96 (bt bc_Lw_law_16 13 rfl)) rfl ?_
      refine EJ_ck (fun h101 => ?_)
      refine EJ_sld (Y := Y_Lw_law) hxs hnx 527 h101 (dk_46 (bt bc_Lw_law_16 14 rfl)) rfl ?_
      refine EJ_aload_n 528 0 (dk_42 (bt bc_Lw_law_16 15 rfl)) rfl rfl ?_
      refine EJ_iload_n 529 3 (dk_29 (bt bc_Lw_law_16 16 rfl)) rfl rfl ?_
      refine EJ_iconst 530 (dk_6 (bt bc_Lw_law_16 17 rfl)) rfl (v := 3) kI_3 ?_
      refine EJ_iadd 531 (dk_96 (bt bc_Lw_law_16 18 rfl)) rfl ?_
      refine EJ_ck (fun h102 => ?_)
      refine EJ_sld (Y := Y_Lw_law) hxs hnx 532 h102 (dk_46 (bt bc_Lw_law_16 19 rfl)) rfl ?_
      refine EJ_aload_n 533 0 (dk_42 (bt bc_Lw_law_16 20 rfl)) rfl rfl ?_
      refine EJ_iload_n 534 3 (dk_29 (bt bc_Lw_law_16 21 rfl)) rfl rfl ?_
      refine EJ_iconst 535 (dk_7 (bt bc_Lw_law_16 22 rfl)) rfl (v := 4) kI_4 ?_
      refine EJ_iadd 536 (dk_96 (bt bc_Lw_law_16 23 rfl)) rfl ?_
      refine EJ_ck (fun h103 => ?_)
      refine EJ_sld (Y := Y_Lw_law) hxs hnx 537 h103 (dk_46 (bt bc_Lw_law_16 24 rfl)) rfl ?_
      refine EJ_ck (fun h104 => ?_)
      refine EJ_callVi (Y2 := Y_Mod_give) 540 cf12 (s_Mod_give G _ _ _ _ _ _) (of_decide_eq_true h104) rfl (dk_182 (bt bc_Lw_law_16 25 rfl) (bt bc_Lw_law_16 26 rfl) (bt bc_Lw_law_16 27 rfl) (n := 54) rfl) rfl tw_1584 tw_1585 tw_1586 tw_1587 hd_Mod_give rfl (by decide) (Nat.le_of_ble_eq_true rfl) (fun r105 M106 => ?_)
      refine EJ_icmp_eq 1588 543 (dk_159 (bt bc_Lw_law_16 28 rfl) (bt bc_Lw_law_16 29 rfl) (bt bc_Lw_law_16 30 rfl) (n := 1048) rfl) (by decide) rfl (fun _ => ?_) (fun _ => ?_)
      · exact EJ_pick (lv2 := [(0, .ref 3), (1, .ref _), (2, .ref _), (3, .int _)]) [0, 1, 2, 3] rfl (e_Lw_law_J1588 hxs hnx k18 hk18 _ _ _ _)
      · refine EJ_iconst 544 (dk_3 (bt bc_Lw_law_16 31 rfl)) rfl (v := 0) kI_0 ?_
        exact EJ_zret rfl (by decide) (dk_172 (bt bc_Lw_law_17 0 rfl))
    refine EJ_case 9 545 ds_Lw_law_33 (by decide) rfl (by decide) (fun _ => ?_) (fun hc33_9 => ?_)
    · refine EJ_aload_n 546 1 (dk_43 (bt bc_Lw_law_17 1 rfl)) rfl rfl ?_
      refine EJ_aload_n 547 0 (dk_42 (bt bc_Lw_law_17 2 rfl)) rfl rfl ?_
      refine EJ_iload_n 548 3 (dk_29 (bt bc_Lw_law_17 3 rfl)) rfl rfl ?_
      refine EJ_iconst 549 (dk_4 (bt bc_Lw_law_17 4 rfl)) rfl (v := 1) kI_1 ?_
      refine EJ_iadd 550 (dk_96 (bt bc_Lw_law_17 5 rfl)) rfl ?_
      refine EJ_ck (fun h107 => ?_)
      refine EJ_sld (Y := Y_Lw_law) hxs hnx 551 h107 (dk_46 (bt bc_Lw_law_17 6 rfl)) rfl ?_
      refine EJ_aload_n 552 0 (dk_42 (bt bc_Lw_law_17 7 rfl)) rfl rfl ?_
      refine EJ_iload_n 553 3 (dk_29 (bt bc_Lw_law_17 8 rfl)) rfl rfl ?_
      refine EJ_iconst 554 (dk_5 (bt bc_Lw_law_17 9 rfl)) rfl (v := 2) kI_2 ?_
      refine EJ_iadd 555 (dk_96 (bt bc_Lw_law_17 10 rfl)) rfl ?_
      refine EJ_ck (fun h108 => ?_)
      refine EJ_sld (Y := Y_Lw_law) hxs hnx 556 h108 (dk_46 (bt bc_Lw_law_17 11 rfl)) rfl ?_
      refine EJ_aload_n 557 0 (dk_42 (bt bc_Lw_law_17 12 rfl)) rfl rfl ?_
      refine EJ_iload_n 558 3 (dk_29 (bt bc_Lw_law_17 13 rfl)) rfl rfl ?_
      refine EJ_iconst 559 (dk_6 (bt bc_Lw_law_17 14 rfl)) rfl (v := 3) kI_3 ?_
      refine EJ_iadd 560 (dk_96 (bt bc_Lw_law_17 15 rfl)) rfl ?_
      refine EJ_ck (fun h109 => ?_)
      refine EJ_sld (Y := Y_Lw_law) hxs hnx 561 h109 (dk_46 (bt bc_Lw_law_17 16 rfl)) rfl ?_
      refine EJ_ck (fun h110 => ?_)
      refine EJ_callVi (Y2 := Y_Hall_call) 564 cf11 (s_Hall_call G _ _ _ _ _) (of_decide_eq_true h110) rfl (dk_182 (bt bc_Lw_law_17 17 rfl) (bt bc_Lw_law_17 18 rfl) (bt bc_Lw_law_17 19 rfl) (n := 55) rfl) rfl tw_477 tw_478 tw_479 tw_480 hd_Hall_call rfl (by decide) (Nat.le_of_ble_eq_true rfl) (fun r111 M112 => ?_)
      refine EJ_aload_n 565 2 (dk_44 (bt bc_Lw_law_17 20 rfl)) rfl rfl ?_
      refine EJ_aload_n 566 0 (dk_42 (bt bc_Lw_law_17 21 rfl)) rfl rfl ?_
      refine EJ_iload_n 567 3 (dk_29 (bt bc_Lw_law_17 22 rfl)) rfl rfl ?_
      refine EJ_iconst 568 (dk_4 (bt bc_Lw_law_17 23 rfl)) rfl (v := 1) kI_1 ?_
      refine EJ_iadd 569 (dk_96 (bt bc_Lw_law_17 24 rfl)) rfl ?_
      refine EJ_ck (fun h113 => ?_)
      refine EJ_sld (Y := Y_Lw_law) hxs hnx 570 h113 (dk_46 (bt bc_Lw_law_17 25 rfl)) rfl ?_
      refine EJ_aload_n 571 0 (dk_42 (bt bc_Lw_law_17 26 rfl)) rfl rfl ?_
      refine EJ_iload_n 572 3 (dk_29 (bt bc_Lw_law_17 27 rfl)) rfl rfl ?_
      refine EJ_iconst 573 (dk_5 (bt bc_Lw_law_17 28 rfl)) rfl (v := 2) kI_2 ?_
      refine EJ_iadd 574 (dk_96 (bt bc_Lw_law_17 29 rfl)) rfl ?_
      refine EJ_ck (fun h114 => ?_)
      refine EJ_sld (Y := Y_Lw_law) hxs hnx 575 h114 (dk_46 (bt bc_Lw_law_17 30 rfl)) rfl ?_
      refine EJ_aload_n 576 0 (dk_42 (bt bc_Lw_law_17 31 rfl)) rfl rfl ?_
      refine EJ_iload_n 577 3 (dk_29 (bt bc_Lw_law_18 0 rfl)) rfl rfl ?_
      refine EJ_iconst 578 (dk_6 (bt bc_Lw_law_18 1 rfl)) rfl (v := 3) kI_3 ?_
      refine EJ_iadd 579 (dk_96 (bt bc_Lw_law_18 2 rfl)) rfl ?_
      refine EJ_ck (fun h115 => ?_)
      refine EJ_sld (Y := Y_Lw_law) hxs hnx 580 h115 (dk_46 (bt bc_Lw_law_18 3 rfl)) rfl ?_
      refine EJ_ck (fun h116 => ?_)
      refine EJ_callVi (Y2 := Y_Mod_call) 583 cf12 (s_Mod_call G _ _ _ _ _) (of_decide_eq_true h116) rfl (dk_182 (bt bc_Lw_law_18 4 rfl) (bt bc_Lw_law_18 5 rfl) (bt bc_Lw_law_18 6 rfl) (n := 58) rfl) rfl tw_1588 tw_1589 tw_1590 tw_1591 hd_Mod_call rfl (by decide) (Nat.le_of_ble_eq_true rfl) (fun r117 M118 => ?_)
      refine EJ_icmp_eq 1588 586 (dk_159 (bt bc_Lw_law_18 7 rfl) (bt bc_Lw_law_18 8 rfl) (bt bc_Lw_law_18 9 rfl) (n := 1005) rfl) (by decide) rfl (fun _ => ?_) (fun _ => ?_)
      · exact EJ_pick (lv2 := [(0, .ref 3), (1, .ref _), (2, .ref _), (3, .int _)]) [0, 1, 2, 3] rfl (e_Lw_law_J1588 hxs hnx k18 hk18 _ _ _ _)
      · refine EJ_iconst 587 (dk_3 (bt bc_Lw_law_18 10 rfl)) rfl (v := 0) kI_0 ?_
        exact EJ_zret rfl (by decide) (dk_172 (bt bc_Lw_law_18 11 rfl))
    refine EJ_case 10 588 ds_Lw_law_33 (by decide) rfl (by decide) (fun _ => ?_) (fun hc33_10 => ?_)
    · refine EJ_aload_n 589 1 (dk_43 (bt bc_Lw_law_18 12 rfl)) rfl rfl ?_
      refine EJ_aload_n 590 0 (dk_42 (bt bc_Lw_law_18 13 rfl)) rfl rfl ?_
      refine EJ_iload_n 591 3 (dk_29 (bt bc_Lw_law_18 14 rfl)) rfl rfl ?_
      refine EJ_iconst 592 (dk_4 (bt bc_Lw_law_18 15 rfl)) rfl (v := 1) kI_1 ?_
      refine EJ_iadd 593 (dk_96 (bt bc_Lw_law_18 16 rfl)) rfl ?_
      refine EJ_ck (fun h119 => ?_)
      refine EJ_sld (Y := Y_Lw_law) hxs hnx 594 h119 (dk_46 (bt bc_Lw_law_18 17 rfl)) rfl ?_
      refine EJ_aload_n 595 0 (dk_42 (bt bc_Lw_law_18 18 rfl)) rfl rfl ?_
      refine EJ_iload_n 596 3 (dk_29 (bt bc_Lw_law_18 19 rfl)) rfl rfl ?_
      refine EJ_iconst 597 (dk_5 (bt bc_Lw_law_18 20 rfl)) rfl (v := 2) kI_2 ?_
      refine EJ_iadd 598 (dk_96 (bt bc_Lw_law_18 21 rfl)) rfl ?_
      refine EJ_ck (fun h120 => ?_)
      refine EJ_sld (Y := Y_Lw_law) hxs hnx 599 h120 (dk_46 (bt bc_Lw_law_18 22 rfl)) rfl ?_
      refine EJ_ck (fun h121 => ?_)
      refine EJ_callVi (Y2 := Y_Hall_come) 602 cf11 (s_Hall_come G _ _ _ _) (of_decide_eq_true h121) rfl (dk_182 (bt bc_Lw_law_18 23 rfl) (bt bc_Lw_law_18 24 rfl) (bt bc_Lw_law_18 25 rfl) (n := 59) rfl) rfl tw_490 tw_491 tw_492 tw_493 hd_Hall_come rfl (by decide) (Nat.le_of_ble_eq_true rfl) (fun r122 M123 => ?_)
      refine EJ_aload_n 603 2 (dk_44 (bt bc_Lw_law_18 26 rfl)) rfl rfl ?_
      refine EJ_aload_n 604 0 (dk_42 (bt bc_Lw_law_18 27 rfl)) rfl rfl ?_
      refine EJ_iload_n 605 3 (dk_29 (bt bc_Lw_law_18 28 rfl)) rfl rfl ?_
      refine EJ_iconst 606 (dk_4 (bt bc_Lw_law_18 29 rfl)) rfl (v := 1) kI_1 ?_
      refine EJ_iadd 607 (dk_96 (bt bc_Lw_law_18 30 rfl)) rfl ?_
      refine EJ_ck (fun h124 => ?_)
      refine EJ_sld (Y := Y_Lw_law) hxs hnx 608 h124 (dk_46 (bt bc_Lw_law_18 31 rfl)) rfl ?_
      refine EJ_aload_n 609 0 (dk_42 (bt bc_Lw_law_19 0 rfl)) rfl rfl ?_
      refine EJ_iload_n 610 3 (dk_29 (bt bc_Lw_law_19 1 rfl)) rfl rfl ?_
      refine EJ_iconst 611 (dk_5 (bt bc_Lw_law_19 2 rfl)) rfl (v := 2) kI_2 ?_
      refine EJ_iadd 612 (dk_96 (bt bc_Lw_law_19 3 rfl)) rfl ?_
      refine EJ_ck (fun h125 => ?_)
      refine EJ_sld (Y := Y_Lw_law) hxs hnx 613 h125 (dk_46 (bt bc_Lw_law_19 4 rfl)) rfl ?_
      refine EJ_ck (fun h126 => ?_)
      refine EJ_callVi (Y2 := Y_Mod_come) 616 cf12 (s_Mod_come G _ _ _ _) (of_decide_eq_true h126) rfl (dk_182 (bt bc_Lw_law_19 5 rfl) (bt bc_Lw_law_19 6 rfl) (bt bc_Lw_law_19 7 rfl) (n := 63) rfl) rfl tw_1599 tw_1600 tw_1601 tw_1602 hd_Mod_come rfl (by decide) (Nat.le_of_ble_eq_true rfl) (fun r127 M128 => ?_)
      refine EJ_icmp_eq 1588 619 (dk_159 (bt bc_Lw_law_19 8 rfl) (bt bc_Lw_law_19 9 rfl) (bt bc_Lw_law_19 10 rfl) (n := 972) rfl) (by decide) rfl (fun _ => ?_) (fun _ => ?_)
      · exact EJ_pick (lv2 := [(0, .ref 3), (1, .ref _), (2, .ref _), (3, .int _)]) [0, 1, 2, 3] rfl (e_Lw_law_J1588 hxs hnx k18 hk18 _ _ _ _)
      · refine EJ_iconst 620 (dk_3 (bt bc_Lw_law_19 11 rfl)) rfl (v := 0) kI_0 ?_
        exact EJ_zret rfl (by decide) (dk_172 (bt bc_Lw_law_19 12 rfl))
    refine EJ_case 11 621 ds_Lw_law_33 (by decide) rfl (by decide) (fun _ => ?_) (fun hc33_11 => ?_)
    · refine EJ_aload_n 622 1 (dk_43 (bt bc_Lw_law_19 13 rfl)) rfl rfl ?_
      refine EJ_aload_n 623 0 (dk_42 (bt bc_Lw_law_19 14 rfl)) rfl rfl ?_
      refine EJ_iload_n 624 3 (dk_29 (bt bc_Lw_law_19 15 rfl)) rfl rfl ?_
      refine EJ_iconst 625 (dk_4 (bt bc_Lw_law_19 16 rfl)) rfl (v := 1) kI_1 ?_
      refine EJ_iadd 626 (dk_96 (bt bc_Lw_law_19 17 rfl)) rfl ?_
      refine EJ_ck (fun h129 => ?_)
      refine EJ_sld (Y := Y_Lw_law) hxs hnx 627 h129 (dk_46 (bt bc_Lw_law_19 18 rfl)) rfl ?_
      refine EJ_aload_n 628 0 (dk_42 (bt bc_Lw_law_19 19 rfl)) rfl rfl ?_
      refine EJ_iload_n 629 3 (dk_29 (bt bc_Lw_law_19 20 rfl)) rfl rfl ?_
      refine EJ_iconst 630 (dk_5 (bt bc_Lw_law_19 21 rfl)) rfl (v := 2) kI_2 ?_
      refine EJ_iadd 631 (dk_96 (bt bc_Lw_law_19 22 rfl)) rfl ?_
      refine EJ_ck (fun h130 => ?_)
      refine EJ_sld (Y := Y_Lw_law) hxs hnx 632 h130 (dk_46 (bt bc_Lw_law_19 23 rfl)) rfl ?_
      refine EJ_ck (fun h131 => ?_)
      refine EJ_callVi (Y2 := Y_Hall_spoil) 635 cf11 (s_Hall_spoil G _ _ _ _) (of_decide_eq_true h131) rfl (dk_182 (bt bc_Lw_law_19 24 rfl) (bt bc_Lw_law_19 25 rfl) (bt bc_Lw_law_19 26 rfl) (n := 64) rfl) rfl tw_495 tw_496 tw_497 tw_498 hd_Hall_spoil rfl (by decide) (Nat.le_of_ble_eq_true rfl) (fun r132 M133 => ?_)
      refine EJ_aload_n 636 2 (dk_44 (bt bc_Lw_law_19 27 rfl)) rfl rfl ?_
      refine EJ_aload_n 637 0 (dk_42 (bt bc_Lw_law_19 28 rfl)) rfl rfl ?_
      refine EJ_iload_n 638 3 (dk_29 (bt bc_Lw_law_19 29 rfl)) rfl rfl ?_
      refine EJ_iconst 639 (dk_4 (bt bc_Lw_law_19 30 rfl)) rfl (v := 1) kI_1 ?_
      refine EJ_iadd 640 (dk_96 (bt bc_Lw_law_19 31 rfl)) rfl ?_
      refine EJ_ck (fun h134 => ?_)
      refine EJ_sld (Y := Y_Lw_law) hxs hnx 641 h134 (dk_46 (bt bc_Lw_law_20 0 rfl)) rfl ?_
      refine EJ_aload_n 642 0 (dk_42 (bt bc_Lw_law_20 1 rfl)) rfl rfl ?_
      refine EJ_iload_n 643 3 (dk_29 (bt bc_Lw_law_20 2 rfl)) rfl rfl ?_
      refine EJ_iconst 644 (dk_5 (bt bc_Lw_law_20 3 rfl)) rfl (v := 2) kI_2 ?_
      refine EJ_iadd 645 (dk_96 (bt bc_Lw_law_20 4 rfl)) rfl ?_
      refine EJ_ck (fun h135 => ?_)
      refine EJ_sld (Y := Y_Lw_law) hxs hnx 646 h135 (dk_46 (bt bc_Lw_law_20 5 rfl)) rfl ?_
      refine EJ_ck (fun h136 => ?_)
      refine EJ_callVi (Y2 := Y_Mod_spoil) 649 cf12 (s_Mod_spoil G _ _ _ _) (of_decide_eq_true h136) rfl (dk_182 (bt bc_Lw_law_20 6 rfl) (bt bc_Lw_law_20 7 rfl) (bt bc_Lw_law_20 8 rfl) (n := 67) rfl) rfl tw_1604 tw_1605 tw_1606 tw_1607 hd_Mod_spoil rfl (by decide) (Nat.le_of_ble_eq_true rfl) (fun r137 M138 => ?_)
      refine EJ_icmp_eq 1588 652 (dk_159 (bt bc_Lw_law_20 9 rfl) (bt bc_Lw_law_20 10 rfl) (bt bc_Lw_law_20 11 rfl) (n := 939) rfl) (by decide) rfl (fun _ => ?_) (fun _ => ?_)
      · exact EJ_pick (lv2 := [(0, .ref 3), (1, .ref _), (2, .ref _), (3, .int _)]) [0, 1, 2, 3] rfl (e_Lw_law_J1588 hxs hnx k18 hk18 _ _ _ _)
      · refine EJ_iconst 653 (dk_3 (bt bc_Lw_law_20 12 rfl)) rfl (v := 0) kI_0 ?_
        exact EJ_zret rfl (by decide) (dk_172 (bt bc_Lw_law_20 13 rfl))
    refine EJ_case 12 654 ds_Lw_law_33 (by decide) rfl (by decide) (fun _ => ?_) (fun hc33_12 => ?_)
    · refine EJ_aload_n 655 1 (dk_43 (bt bc_Lw_law_20 14 rfl)) rfl rfl ?_
      refine EJ_aload_n 656 0 (dk_42 (bt bc_Lw_law_20 15 rfl)) rfl rfl ?_
      refine EJ_iload_n 657 3 (dk_29 (bt bc_Lw_law_20 16 rfl)) rfl rfl ?_
      refine EJ_iconst 658 (dk_4 (bt bc_Lw_law_20 17 rfl)) rfl (v := 1) kI_1 ?_
      refine EJ_iadd 659 (dk_96 (bt bc_Lw_law_20 18 rfl)) rfl ?_
      refine EJ_ck (fun h139 => ?_)
      refine EJ_sld (Y := Y_Lw_law) hxs hnx 660 h139 (dk_46 (bt bc_Lw_law_20 19 rfl)) rfl ?_
      refine EJ_aload_n 661 0 (dk_42 (bt bc_Lw_law_20 20 rfl)) rfl rfl ?_
      refine EJ_iload_n 662 3 (dk_29 (bt bc_Lw_law_20 21 rfl)) rfl rfl ?_
      refine EJ_iconst 663 (dk_5 (bt bc_Lw_law_20 22 rfl)) rfl (v := 2) kI_2 ?_
      refine EJ_iadd 664 (dk_96 (bt bc_Lw_law_20 23 rfl)) rfl ?_
      refine EJ_ck (fun h140 => ?_)
      refine EJ_sld (Y := Y_Lw_law) hxs hnx 665 h140 (dk_46 (bt bc_Lw_law_20 24 rfl)) rfl ?_
      refine EJ_ck (fun h141 => ?_)
      refine EJ_callVi (Y2 := Y_Hall_over) 668 cf11 (s_Hall_over G _ _ _ _) (of_decide_eq_true h141) rfl (dk_182 (bt bc_Lw_law_20 25 rfl) (bt bc_Lw_law_20 26 rfl) (bt bc_Lw_law_20 27 rfl) (n := 68) rfl) rfl tw_550 tw_551 tw_552 tw_553 hd_Hall_over rfl (by decide) (Nat.le_of_ble_eq_true rfl) (fun r142 M143 => ?_)
      refine EJ_aload_n 669 2 (dk_44 (bt bc_Lw_law_20 28 rfl)) rfl rfl ?_
      refine EJ_aload_n 670 0 (dk_42 (bt bc_Lw_law_20 29 rfl)) rfl rfl ?_
      refine EJ_iload_n 671 3 (dk_29 (bt bc_Lw_law_20 30 rfl)) rfl rfl ?_
      refine EJ_iconst 672 (dk_4 (bt bc_Lw_law_20 31 rfl)) rfl (v := 1) kI_1 ?_
      refine EJ_iadd 673 (dk_96 (bt bc_Lw_law_21 0 rfl)) rfl ?_
      refine EJ_ck (fun h144 => ?_)
      refine EJ_sld (Y := Y_Lw_law) hxs hnx 674 h144 (dk_46 (bt bc_Lw_law_21 1 rfl)) rfl ?_
      refine EJ_aload_n 675 0 (dk_42 (bt bc_Lw_law_21 2 rfl)) rfl rfl ?_
      refine EJ_iload_n 676 3 (dk_29 (bt bc_Lw_law_21 3 rfl)) rfl rfl ?_
      refine EJ_iconst 677 (dk_5 (bt bc_Lw_law_21 4 rfl)) rfl (v := 2) kI_2 ?_
      refine EJ_iadd 678 (dk_96 (bt bc_Lw_law_21 5 rfl)) rfl ?_
      refine EJ_ck (fun h145 => ?_)
      refine EJ_sld (Y := Y_Lw_law) hxs hnx 679 h145 (dk_46 (bt bc_Lw_law_21 6 rfl)) rfl ?_
      refine EJ_ck (fun h146 => ?_)
      refine EJ_callVi (Y2 := Y_Mod_over) 682 cf12 (s_Mod_over G _ _ _ _) (of_decide_eq_true h146) rfl (dk_182 (bt bc_Lw_law_21 7 rfl) (bt bc_Lw_law_21 8 rfl) (bt bc_Lw_law_21 9 rfl) (n := 71) rfl) rfl tw_1627 tw_1628 tw_1629 tw_1630 hd_Mod_over rfl (by decide) (Nat.le_of_ble_eq_true rfl) (fun r147 M148 => ?_)
      refine EJ_icmp_eq 1588 685 (dk_159 (bt bc_Lw_law_21 10 rfl) (bt bc_Lw_law_21 11 rfl) (bt bc_Lw_law_21 12 rfl) (n := 906) rfl) (by decide) rfl (fun _ => ?_) (fun _ => ?_)
      · exact EJ_pick (lv2 := [(0, .ref 3), (1, .ref _), (2, .ref _), (3, .int _)]) [0, 1, 2, 3] rfl (e_Lw_law_J1588 hxs hnx k18 hk18 _ _ _ _)
      · refine EJ_iconst 686 (dk_3 (bt bc_Lw_law_21 13 rfl)) rfl (v := 0) kI_0 ?_
        exact EJ_zret rfl (by decide) (dk_172 (bt bc_Lw_law_21 14 rfl))
    refine EJ_case 13 687 ds_Lw_law_33 (by decide) rfl (by decide) (fun _ => ?_) (fun hc33_13 => ?_)
    · refine EJ_aload_n 688 1 (dk_43 (bt bc_Lw_law_21 15 rfl)) rfl rfl ?_
      refine EJ_aload_n 689 0 (dk_42 (bt bc_Lw_law_21 16 rfl)) rfl rfl ?_
      refine EJ_iload_n 690 3 (dk_29 (bt bc_Lw_law_21 17 rfl)) rfl rfl ?_
      refine EJ_iconst 691 (dk_4 (bt bc_Lw_law_21 18 rfl)) rfl (v := 1) kI_1 ?_
      refine EJ_iadd 692 (dk_96 (bt bc_Lw_law_21 19 rfl)) rfl ?_
      refine EJ_ck (fun h149 => ?_)
      refine EJ_sld (Y := Y_Lw_law) hxs hnx 693 h149 (dk_46 (bt bc_Lw_law_21 20 rfl)) rfl ?_
      refine EJ_aload_n 694 0 (dk_42 (bt bc_Lw_law_21 21 rfl)) rfl rfl ?_
      refine EJ_iload_n 695 3 (dk_29 (bt bc_Lw_law_21 22 rfl)) rfl rfl ?_
      refine EJ_iconst 696 (dk_5 (bt bc_Lw_law_21 23 rfl)) rfl (v := 2) kI_2 ?_
      refine EJ_iadd 697 (dk_96 (bt bc_Lw_law_21 24 rfl)) rfl ?_
      refine EJ_ck (fun h150 => ?_)
      refine EJ_sld (Y := Y_Lw_law) hxs hnx 698 h150 (dk_46 (bt bc_Lw_law_21 25 rfl)) rfl ?_
      refine EJ_ck (fun h151 => ?_)
      refine EJ_callVi (Y2 := Y_Hall_storeOf) 701 cf11 (s_Hall_storeOf G _ _ _ _) (of_decide_eq_true h151) rfl (dk_182 (bt bc_Lw_law_21 26 rfl) (bt bc_Lw_law_21 27 rfl) (bt bc_Lw_law_21 28 rfl) (n := 72) rfl) rfl tw_561 tw_562 tw_563 tw_564 hd_Hall_storeOf rfl (by decide) (Nat.le_of_ble_eq_true rfl) (fun r152 M153 => ?_)
      refine EJ_aload_n 702 2 (dk_44 (bt bc_Lw_law_21 29 rfl)) rfl rfl ?_
      refine EJ_aload_n 703 0 (dk_42 (bt bc_Lw_law_21 30 rfl)) rfl rfl ?_
      refine EJ_iload_n 704 3 (dk_29 (bt bc_Lw_law_21 31 rfl)) rfl rfl ?_
      refine EJ_iconst 705 (dk_4 (bt bc_Lw_law_22 0 rfl)) rfl (v := 1) kI_1 ?_
      refine EJ_iadd 706 (dk_96 (bt bc_Lw_law_22 1 rfl)) rfl ?_
      refine EJ_ck (fun h154 => ?_)
      refine EJ_sld (Y := Y_Lw_law) hxs hnx 707 h154 (dk_46 (bt bc_Lw_law_22 2 rfl)) rfl ?_
      refine EJ_aload_n 708 0 (dk_42 (bt bc_Lw_law_22 3 rfl)) rfl rfl ?_
      refine EJ_iload_n 709 3 (dk_29 (bt bc_Lw_law_22 4 rfl)) rfl rfl ?_
      refine EJ_iconst 710 (dk_5 (bt bc_Lw_law_22 5 rfl)) rfl (v := 2) kI_2 ?_
      refine EJ_iadd 711 (dk_96 (bt bc_Lw_law_22 6 rfl)) rfl ?_
      refine EJ_ck (fun h155 => ?_)
      refine EJ_sld (Y := Y_Lw_law) hxs hnx 712 h155 (dk_46 (bt bc_Lw_law_22 7 rfl)) rfl ?_
      refine EJ_ck (fun h156 => ?_)
      refine EJ_callVi (Y2 := Y_Mod_storeOf) 715 cf12 (s_Mod_storeOf G _ _ _ _) (of_decide_eq_true h156) rfl (dk_182 (bt bc_Lw_law_22 8 rfl) (bt bc_Lw_law_22 9 rfl) (bt bc_Lw_law_22 10 rfl) (n := 75) rfl) rfl tw_1634 tw_1635 tw_1636 tw_1637 hd_Mod_storeOf rfl (by decide) (Nat.le_of_ble_eq_true rfl) (fun r157 M158 => ?_)
      refine EJ_icmp_eq 1588 718 (dk_159 (bt bc_Lw_law_22 11 rfl) (bt bc_Lw_law_22 12 rfl) (bt bc_Lw_law_22 13 rfl) (n := 873) rfl) (by decide) rfl (fun _ => ?_) (fun _ => ?_)
      · exact EJ_pick (lv2 := [(0, .ref 3), (1, .ref _), (2, .ref _), (3, .int _)]) [0, 1, 2, 3] rfl (e_Lw_law_J1588 hxs hnx k18 hk18 _ _ _ _)
      · refine EJ_iconst 719 (dk_3 (bt bc_Lw_law_22 14 rfl)) rfl (v := 0) kI_0 ?_
        exact EJ_zret rfl (by decide) (dk_172 (bt bc_Lw_law_22 15 rfl))
    refine EJ_case 14 720 ds_Lw_law_33 (by decide) rfl (by decide) (fun _ => ?_) (fun hc33_14 => ?_)
    · refine EJ_aload_n 721 1 (dk_43 (bt bc_Lw_law_22 16 rfl)) rfl rfl ?_
      refine EJ_aload_n 722 0 (dk_42 (bt bc_Lw_law_22 17 rfl)) rfl rfl ?_
      refine EJ_iload_n 723 3 (dk_29 (bt bc_Lw_law_22 18 rfl)) rfl rfl ?_
      refine EJ_iconst 724 (dk_4 (bt bc_Lw_law_22 19 rfl)) rfl (v := 1) kI_1 ?_
      refine EJ_iadd 725 (dk_96 (bt bc_Lw_law_22 20 rfl)) rfl ?_
      refine EJ_ck (fun h159 => ?_)
      refine EJ_sld (Y := Y_Lw_law) hxs hnx 726 h159 (dk_46 (bt bc_Lw_law_22 21 rfl)) rfl ?_
      refine EJ_aload_n 727 0 (dk_42 (bt bc_Lw_law_22 22 rfl)) rfl rfl ?_
      refine EJ_iload_n 728 3 (dk_29 (bt bc_Lw_law_22 23 rfl)) rfl rfl ?_
      refine EJ_iconst 729 (dk_5 (bt bc_Lw_law_22 24 rfl)) rfl (v := 2) kI_2 ?_
      refine EJ_iadd 730 (dk_96 (bt bc_Lw_law_22 25 rfl)) rfl ?_
      refine EJ_ck (fun h160 => ?_)
      refine EJ_sld (Y := Y_Lw_law) hxs hnx 731 h160 (dk_46 (bt bc_Lw_law_22 26 rfl)) rfl ?_
      refine EJ_ck (fun h161 => ?_)
      refine EJ_callVi (Y2 := Y_Hall_told) 734 cf11 (s_Hall_told G _ _ _ _) (of_decide_eq_true h161) rfl (dk_182 (bt bc_Lw_law_22 27 rfl) (bt bc_Lw_law_22 28 rfl) (bt bc_Lw_law_22 29 rfl) (n := 76) rfl) rfl tw_578 tw_579 tw_580 tw_581 hd_Hall_told rfl (by decide) (Nat.le_of_ble_eq_true rfl) (fun r162 M163 => ?_)
      refine EJ_aload_n 735 2 (dk_44 (bt bc_Lw_law_22 30 rfl)) rfl rfl ?_
      refine EJ_aload_n 736 0 (dk_42 (bt bc_Lw_law_22 31 rfl)) rfl rfl ?_
      refine EJ_iload_n 737 3 (dk_29 (bt bc_Lw_law_23 0 rfl)) rfl rfl ?_
      refine EJ_iconst 738 (dk_4 (bt bc_Lw_law_23 1 rfl)) rfl (v := 1) kI_1 ?_
      refine EJ_iadd 739 (dk_96 (bt bc_Lw_law_23 2 rfl)) rfl ?_
      refine EJ_ck (fun h164 => ?_)
      refine EJ_sld (Y := Y_Lw_law) hxs hnx 740 h164 (dk_46 (bt bc_Lw_law_23 3 rfl)) rfl ?_
      refine EJ_aload_n 741 0 (dk_42 (bt bc_Lw_law_23 4 rfl)) rfl rfl ?_
      refine EJ_iload_n 742 3 (dk_29 (bt bc_Lw_law_23 5 rfl)) rfl rfl ?_
      refine EJ_iconst 743 (dk_5 (bt bc_Lw_law_23 6 rfl)) rfl (v := 2) kI_2 ?_
      refine EJ_iadd 744 (dk_96 (bt bc_Lw_law_23 7 rfl)) rfl ?_
      refine EJ_ck (fun h165 => ?_)
      refine EJ_sld (Y := Y_Lw_law) hxs hnx 745 h165 (dk_46 (bt bc_Lw_law_23 8 rfl)) rfl ?_
      refine EJ_ck (fun h166 => ?_)
      refine EJ_callVi (Y2 := Y_Mod_told) 748 cf12 (s_Mod_told G _ _ _ _) (of_decide_eq_true h166) rfl (dk_182 (bt bc_Lw_law_23 9 rfl) (bt bc_Lw_law_23 10 rfl) (bt bc_Lw_law_23 11 rfl) (n := 79) rfl) rfl tw_1647 tw_1648 tw_1649 tw_1650 hd_Mod_told rfl (by decide) (Nat.le_of_ble_eq_true rfl) (fun r167 M168 => ?_)
      refine EJ_icmp_eq 1588 751 (dk_159 (bt bc_Lw_law_23 12 rfl) (bt bc_Lw_law_23 13 rfl) (bt bc_Lw_law_23 14 rfl) (n := 840) rfl) (by decide) rfl (fun _ => ?_) (fun _ => ?_)
      · exact EJ_pick (lv2 := [(0, .ref 3), (1, .ref _), (2, .ref _), (3, .int _)]) [0, 1, 2, 3] rfl (e_Lw_law_J1588 hxs hnx k18 hk18 _ _ _ _)
      · refine EJ_iconst 752 (dk_3 (bt bc_Lw_law_23 15 rfl)) rfl (v := 0) kI_0 ?_
        exact EJ_zret rfl (by decide) (dk_172 (bt bc_Lw_law_23 16 rfl))
    refine EJ_case 15 753 ds_Lw_law_33 (by decide) rfl (by decide) (fun _ => ?_) (fun hc33_15 => ?_)
    · refine EJ_aload_n 754 1 (dk_43 (bt bc_Lw_law_23 17 rfl)) rfl rfl ?_
      refine EJ_aload_n 755 0 (dk_42 (bt bc_Lw_law_23 18 rfl)) rfl rfl ?_
      refine EJ_iload_n 756 3 (dk_29 (bt bc_Lw_law_23 19 rfl)) rfl rfl ?_
      refine EJ_iconst 757 (dk_4 (bt bc_Lw_law_23 20 rfl)) rfl (v := 1) kI_1 ?_
      refine EJ_iadd 758 (dk_96 (bt bc_Lw_law_23 21 rfl)) rfl ?_
      refine EJ_ck (fun h169 => ?_)
      refine EJ_sld (Y := Y_Lw_law) hxs hnx 759 h169 (dk_46 (bt bc_Lw_law_23 22 rfl)) rfl ?_
      refine EJ_ck (fun h170 => ?_)
      refine EJ_callVl (Y2 := Y_Hall_coins) 762 cf11 (s_Hall_coins G _ _ _) (of_decide_eq_true h170) rfl (dk_182 (bt bc_Lw_law_23 23 rfl) (bt bc_Lw_law_23 24 rfl) (bt bc_Lw_law_23 25 rfl) (n := 80) rfl) rfl tw_594 tw_595 tw_596 tw_597 hd_Hall_coins rfl (by decide) (Nat.le_of_ble_eq_true rfl) (fun r171 M172 => ?_)
      refine EJ_aload_n 763 2 (dk_44 (bt bc_Lw_law_23 26 rfl)) rfl rfl ?_
      refine EJ_aload_n 764 0 (dk_42 (bt bc_Lw_law_23 27 rfl)) rfl rfl ?_
      refine EJ_iload_n 765 3 (dk_29 (bt bc_Lw_law_23 28 rfl)) rfl rfl ?_
      refine EJ_iconst 766 (dk_4 (bt bc_Lw_law_23 29 rfl)) rfl (v := 1) kI_1 ?_
      refine EJ_iadd 767 (dk_96 (bt bc_Lw_law_23 30 rfl)) rfl ?_
      refine EJ_ck (fun h173 => ?_)
      refine EJ_sld (Y := Y_Lw_law) hxs hnx 768 h173 (dk_46 (bt bc_Lw_law_23 31 rfl)) rfl ?_
      refine EJ_ck (fun h174 => ?_)
      refine EJ_callVl (Y2 := Y_Mod_coins) 771 cf12 (s_Mod_coins G _ _ _) (of_decide_eq_true h174) rfl (dk_182 (bt bc_Lw_law_24 0 rfl) (bt bc_Lw_law_24 1 rfl) (bt bc_Lw_law_24 2 rfl) (n := 84) rfl) rfl tw_1661 tw_1662 tw_1663 tw_1664 hd_Mod_coins rfl (by decide) (Nat.le_of_ble_eq_true rfl) (fun r175 M176 => ?_)
      refine EJ_lcmp_eq 1588 775 (dk_148 (bt bc_Lw_law_24 3 rfl)) (dk_153 (bt bc_Lw_law_24 4 rfl) (bt bc_Lw_law_24 5 rfl) (bt bc_Lw_law_24 6 rfl) (n := 816) rfl) (by decide) rfl (fun _ => ?_) (fun _ => ?_)
      · exact EJ_pick (lv2 := [(0, .ref 3), (1, .ref _), (2, .ref _), (3, .int _)]) [0, 1, 2, 3] rfl (e_Lw_law_J1588 hxs hnx k18 hk18 _ _ _ _)
      · refine EJ_iconst 776 (dk_3 (bt bc_Lw_law_24 7 rfl)) rfl (v := 0) kI_0 ?_
        exact EJ_zret rfl (by decide) (dk_172 (bt bc_Lw_law_24 8 rfl))
    refine EJ_case 16 777 ds_Lw_law_33 (by decide) rfl (by decide) (fun _ => ?_) (fun hc33_16 => ?_)
    · refine EJ_aload_n 778 1 (dk_43 (bt bc_Lw_law_24 9 rfl)) rfl rfl ?_
      refine EJ_aload_n 779 0 (dk_42 (bt bc_Lw_law_24 10 rfl)) rfl rfl ?_
      refine EJ_iload_n 780 3 (dk_29 (bt bc_Lw_law_24 11 rfl)) rfl rfl ?_
      refine EJ_iconst 781 (dk_4 (bt bc_Lw_law_24 12 rfl)) rfl (v := 1) kI_1 ?_
      refine EJ_iadd 782 (dk_96 (bt bc_Lw_law_24 13 rfl)) rfl ?_
      refine EJ_ck (fun h177 => ?_)
      refine EJ_sld (Y := Y_Lw_law) hxs hnx 783 h177 (dk_46 (bt bc_Lw_law_24 14 rfl)) rfl ?_
      refine EJ_aload_n 784 0 (dk_42 (bt bc_Lw_law_24 15 rfl)) rfl rfl ?_
      refine EJ_iload_n 785 3 (dk_29 (bt bc_Lw_law_24 16 rfl)) rfl rfl ?_
      refine EJ_iconst 786 (dk_5 (bt bc_Lw_law_24 17 rfl)) rfl (v := 2) kI_2 ?_
      refine EJ_iadd 787 (dk_96 (bt bc_Lw_law_24 18 rfl)) rfl ?_
      refine EJ_ck (fun h178 => ?_)
      refine EJ_sld (Y := Y_Lw_law) hxs hnx 788 h178 (dk_46 (bt bc_Lw_law_24 19 rfl)) rfl ?_
      refine EJ_ck (fun h179 => ?_)
      refine EJ_callVi (Y2 := Y_Hall_pay) 791 cf11 (s_Hall_pay G _ _ _ _) (of_decide_eq_true h179) rfl (dk_182 (bt bc_Lw_law_24 20 rfl) (bt bc_Lw_law_24 21 rfl) (bt bc_Lw_law_24 22 rfl) (n := 85) rfl) rfl tw_599 tw_600 tw_601 tw_602 hd_Hall_pay rfl (by decide) (Nat.le_of_ble_eq_true rfl) (fun r180 M181 => ?_)
      refine EJ_aload_n 792 2 (dk_44 (bt bc_Lw_law_24 23 rfl)) rfl rfl ?_
      refine EJ_aload_n 793 0 (dk_42 (bt bc_Lw_law_24 24 rfl)) rfl rfl ?_
      refine EJ_iload_n 794 3 (dk_29 (bt bc_Lw_law_24 25 rfl)) rfl rfl ?_
      refine EJ_iconst 795 (dk_4 (bt bc_Lw_law_24 26 rfl)) rfl (v := 1) kI_1 ?_
      refine EJ_iadd 796 (dk_96 (bt bc_Lw_law_24 27 rfl)) rfl ?_
      refine EJ_ck (fun h182 => ?_)
      refine EJ_sld (Y := Y_Lw_law) hxs hnx 797 h182 (dk_46 (bt bc_Lw_law_24 28 rfl)) rfl ?_
      refine EJ_aload_n 798 0 (dk_42 (bt bc_Lw_law_24 29 rfl)) rfl rfl ?_
      refine EJ_iload_n 799 3 (dk_29 (bt bc_Lw_law_24 30 rfl)) rfl rfl ?_
      refine EJ_iconst 800 (dk_5 (bt bc_Lw_law_24 31 rfl)) rfl (v := 2) kI_2 ?_
      refine EJ_iadd 801 (dk_96 (bt bc_Lw_law_25 0 rfl)) rfl ?_
      refine EJ_ck (fun h183 => ?_)
      refine EJ_sld (Y := Y_Lw_law) hxs hnx 802 h183 (dk_46 (bt bc_Lw_law_25 1 rfl)) rfl ?_
      refine EJ_ck (fun h184 => ?_)
      refine EJ_callVi (Y2 := Y_Mod_pay) 805 cf12 (s_Mod_pay G _ _ _ _) (of_decide_eq_true h184) rfl (dk_182 (bt bc_Lw_law_25 2 rfl) (bt bc_Lw_law_25 3 rfl) (bt bc_Lw_law_25 4 rfl) (n := 89) rfl) rfl tw_1666 tw_1667 tw_1668 tw_1669 hd_Mod_pay rfl (by decide) (Nat.le_of_ble_eq_true rfl) (fun r185 M186 => ?_)
      refine EJ_icmp_eq 1588 808 (dk_159 (bt bc_Lw_law_25 5 rfl) (bt bc_Lw_law_25 6 rfl) (bt bc_Lw_law_25 7 rfl) (n := 783) rfl) (by decide) rfl (fun _ => ?_) (fun _ => ?_)
      · exact EJ_pick (lv2 := [(0, .ref 3), (1, .ref _), (2, .ref _), (3, .int _)]) [0, 1, 2, 3] rfl (e_Lw_law_J1588 hxs hnx k18 hk18 _ _ _ _)
      · refine EJ_iconst 809 (dk_3 (bt bc_Lw_law_25 8 rfl)) rfl (v := 0) kI_0 ?_
        exact EJ_zret rfl (by decide) (dk_172 (bt bc_Lw_law_25 9 rfl))
    refine EJ_case 17 810 ds_Lw_law_33 (by decide) rfl (by decide) (fun _ => ?_) (fun hc33_17 => ?_)
    · refine EJ_aload_n 811 1 (dk_43 (bt bc_Lw_law_25 10 rfl)) rfl rfl ?_
      refine EJ_aload_n 812 0 (dk_42 (bt bc_Lw_law_25 11 rfl)) rfl rfl ?_
      refine EJ_iload_n 813 3 (dk_29 (bt bc_Lw_law_25 12 rfl)) rfl rfl ?_
      refine EJ_iconst 814 (dk_4 (bt bc_Lw_law_25 13 rfl)) rfl (v := 1) kI_1 ?_
      refine EJ_iadd 815 (dk_96 (bt bc_Lw_law_25 14 rfl)) rfl ?_
      refine EJ_ck (fun h187 => ?_)
      refine EJ_sld (Y := Y_Lw_law) hxs hnx 816 h187 (dk_46 (bt bc_Lw_law_25 15 rfl)) rfl ?_
      refine EJ_aload_n 817 0 (dk_42 (bt bc_Lw_law_25 16 rfl)) rfl rfl ?_
      refine EJ_iload_n 818 3 (dk_29 (bt bc_Lw_law_25 17 rfl)) rfl rfl ?_
      refine EJ_iconst 819 (dk_5 (bt bc_Lw_law_25 18 rfl)) rfl (v := 2) kI_2 ?_
      refine EJ_iadd 820 (dk_96 (bt bc_Lw_law_25 19 rfl)) rfl ?_
      refine EJ_ck (fun h188 => ?_)
      refine EJ_sld (Y := Y_Lw_law) hxs hnx 821 h188 (dk_46 (bt bc_Lw_law_25 20 rfl)) rfl ?_
      refine EJ_ck (fun h189 => ?_)
      refine EJ_callVi (Y2 := Y_Hall_draw) 824 cf11 (s_Hall_draw G _ _ _ _) (of_decide_eq_true h189) rfl (dk_182 (bt bc_Lw_law_25 21 rfl) (bt bc_Lw_law_25 22 rfl) (bt bc_Lw_law_25 23 rfl) (n := 90) rfl) rfl tw_603 tw_604 tw_605 tw_606 hd_Hall_draw rfl (by decide) (Nat.le_of_ble_eq_true rfl) (fun r190 M191 => ?_)
      refine EJ_aload_n 825 2 (dk_44 (bt bc_Lw_law_25 24 rfl)) rfl rfl ?_
      refine EJ_aload_n 826 0 (dk_42 (bt bc_Lw_law_25 25 rfl)) rfl rfl ?_
      refine EJ_iload_n 827 3 (dk_29 (bt bc_Lw_law_25 26 rfl)) rfl rfl ?_
      refine EJ_iconst 828 (dk_4 (bt bc_Lw_law_25 27 rfl)) rfl (v := 1) kI_1 ?_
      refine EJ_iadd 829 (dk_96 (bt bc_Lw_law_25 28 rfl)) rfl ?_
      refine EJ_ck (fun h192 => ?_)
      refine EJ_sld (Y := Y_Lw_law) hxs hnx 830 h192 (dk_46 (bt bc_Lw_law_25 29 rfl)) rfl ?_
      refine EJ_aload_n 831 0 (dk_42 (bt bc_Lw_law_25 30 rfl)) rfl rfl ?_
      refine EJ_iload_n 832 3 (dk_29 (bt bc_Lw_law_25 31 rfl)) rfl rfl ?_
      refine EJ_iconst 833 (dk_5 (bt bc_Lw_law_26 0 rfl)) rfl (v := 2) kI_2 ?_
      refine EJ_iadd 834 (dk_96 (bt bc_Lw_law_26 1 rfl)) rfl ?_
      refine EJ_ck (fun h193 => ?_)
      refine EJ_sld (Y := Y_Lw_law) hxs hnx 835 h193 (dk_46 (bt bc_Lw_law_26 2 rfl)) rfl ?_
      refine EJ_ck (fun h194 => ?_)
      refine EJ_callVi (Y2 := Y_Mod_draw) 838 cf12 (s_Mod_draw G _ _ _ _) (of_decide_eq_true h194) rfl (dk_182 (bt bc_Lw_law_26 3 rfl) (bt bc_Lw_law_26 4 rfl) (bt bc_Lw_law_26 5 rfl) (n := 93) rfl) rfl tw_1670 tw_1671 tw_1672 tw_1673 hd_Mod_draw rfl (by decide) (Nat.le_of_ble_eq_true rfl) (fun r195 M196 => ?_)
      refine EJ_icmp_eq 1588 841 (dk_159 (bt bc_Lw_law_26 6 rfl) (bt bc_Lw_law_26 7 rfl) (bt bc_Lw_law_26 8 rfl) (n := 750) rfl) (by decide) rfl (fun _ => ?_) (fun _ => ?_)
      · exact EJ_pick (lv2 := [(0, .ref 3), (1, .ref _), (2, .ref _), (3, .int _)]) [0, 1, 2, 3] rfl (e_Lw_law_J1588 hxs hnx k18 hk18 _ _ _ _)
      · refine EJ_iconst 842 (dk_3 (bt bc_Lw_law_26 9 rfl)) rfl (v := 0) kI_0 ?_
        exact EJ_zret rfl (by decide) (dk_172 (bt bc_Lw_law_26 10 rfl))
    refine EJ_case 18 843 ds_Lw_law_33 (by decide) rfl (by decide) (fun _ => ?_) (fun hc33_18 => ?_)
    · refine EJ_aload_n 844 1 (dk_43 (bt bc_Lw_law_26 11 rfl)) rfl rfl ?_
      refine EJ_aload_n 845 0 (dk_42 (bt bc_Lw_law_26 12 rfl)) rfl rfl ?_
      refine EJ_iload_n 846 3 (dk_29 (bt bc_Lw_law_26 13 rfl)) rfl rfl ?_
      refine EJ_iconst 847 (dk_4 (bt bc_Lw_law_26 14 rfl)) rfl (v := 1) kI_1 ?_
      refine EJ_iadd 848 (dk_96 (bt bc_Lw_law_26 15 rfl)) rfl ?_
      refine EJ_ck (fun h197 => ?_)
      refine EJ_sld (Y := Y_Lw_law) hxs hnx 849 h197 (dk_46 (bt bc_Lw_law_26 16 rfl)) rfl ?_
      refine EJ_aload_n 850 0 (dk_42 (bt bc_Lw_law_26 17 rfl)) rfl rfl ?_
      refine EJ_iload_n 851 3 (dk_29 (bt bc_Lw_law_26 18 rfl)) rfl rfl ?_
      refine EJ_iconst 852 (dk_5 (bt bc_Lw_law_26 19 rfl)) rfl (v := 2) kI_2 ?_
      refine EJ_iadd 853 (dk_96 (bt bc_Lw_law_26 20 rfl)) rfl ?_
      refine EJ_ck (fun h198 => ?_)
      refine EJ_sld (Y := Y_Lw_law) hxs hnx 854 h198 (dk_46 (bt bc_Lw_law_26 21 rfl)) rfl ?_
      refine EJ_aload_n 855 0 (dk_42 (bt bc_Lw_law_26 22 rfl)) rfl rfl ?_
      refine EJ_iload_n 856 3 (dk_29 (bt bc_Lw_law_26 23 rfl)) rfl rfl ?_
      refine EJ_iconst 857 (dk_6 (bt bc_Lw_law_26 24 rfl)) rfl (v := 3) kI_3 ?_
      refine EJ_iadd 858 (dk_96 (bt bc_Lw_law_26 25 rfl)) rfl ?_
      refine EJ_ck (fun h199 => ?_)
      refine EJ_sld (Y := Y_Lw_law) hxs hnx 859 h199 (dk_46 (bt bc_Lw_law_26 26 rfl)) rfl ?_
      refine EJ_aload_n 860 0 (dk_42 (bt bc_Lw_law_26 27 rfl)) rfl rfl ?_
      refine EJ_iload_n 861 3 (dk_29 (bt bc_Lw_law_26 28 rfl)) rfl rfl ?_
      refine EJ_iconst 862 (dk_7 (bt bc_Lw_law_26 29 rfl)) rfl (v := 4) kI_4 ?_
      refine EJ_iadd 863 (dk_96 (bt bc_Lw_law_26 30 rfl)) rfl ?_
      refine EJ_ck (fun h200 => ?_)
      refine EJ_sld (Y := Y_Lw_law) hxs hnx 864 h200 (dk_46 (bt bc_Lw_law_26 31 rfl)) rfl ?_
      refine EJ_aload_n 865 0 (dk_42 (bt bc_Lw_law_27 0 rfl)) rfl rfl ?_
      refine EJ_iload_n 866 3 (dk_29 (bt bc_Lw_law_27 1 rfl)) rfl rfl ?_
      refine EJ_iconst 867 (dk_8 (bt bc_Lw_law_27 2 rfl)) rfl (v := 5) kI_5 ?_
      refine EJ_iadd 868 (dk_96 (bt bc_Lw_law_27 3 rfl)) rfl ?_
      refine EJ_ck (fun h201 => ?_)
      refine EJ_sld (Y := Y_Lw_law) hxs hnx 869 h201 (dk_46 (bt bc_Lw_law_27 4 rfl)) rfl ?_
      refine EJ_ck (fun h202 => ?_)
      refine EJ_callVi (Y2 := Y_Hall_feed) 872 cf11 (s_Hall_feed G _ _ _ _ _ _ _) (of_decide_eq_true h202) rfl (dk_182 (bt bc_Lw_law_27 5 rfl) (bt bc_Lw_law_27 6 rfl) (bt bc_Lw_law_27 7 rfl) (n := 94) rfl) rfl tw_607 tw_608 tw_609 tw_610 hd_Hall_feed rfl (by decide) (Nat.le_of_ble_eq_true rfl) (fun r203 M204 => ?_)
      refine EJ_aload_n 873 2 (dk_44 (bt bc_Lw_law_27 8 rfl)) rfl rfl ?_
      refine EJ_aload_n 874 0 (dk_42 (bt bc_Lw_law_27 9 rfl)) rfl rfl ?_
      refine EJ_iload_n 875 3 (dk_29 (bt bc_Lw_law_27 10 rfl)) rfl rfl ?_
      refine EJ_iconst 876 (dk_4 (bt bc_Lw_law_27 11 rfl)) rfl (v := 1) kI_1 ?_
      refine EJ_iadd 877 (dk_96 (bt bc_Lw_law_27 12 rfl)) rfl ?_
      refine EJ_ck (fun h205 => ?_)
      refine EJ_sld (Y := Y_Lw_law) hxs hnx 878 h205 (dk_46 (bt bc_Lw_law_27 13 rfl)) rfl ?_
      refine EJ_aload_n 879 0 (dk_42 (bt bc_Lw_law_27 14 rfl)) rfl rfl ?_
      refine EJ_iload_n 880 3 (dk_29 (bt bc_Lw_law_27 15 rfl)) rfl rfl ?_
      refine EJ_iconst 881 (dk_5 (bt bc_Lw_law_27 16 rfl)) rfl (v := 2) kI_2 ?_
      refine EJ_iadd 882 (dk_96 (bt bc_Lw_law_27 17 rfl)) rfl ?_
      refine EJ_ck (fun h206 => ?_)
      refine EJ_sld (Y := Y_Lw_law) hxs hnx 883 h206 (dk_46 (bt bc_Lw_law_27 18 rfl)) rfl ?_
      refine EJ_aload_n 884 0 (dk_42 (bt bc_Lw_law_27 19 rfl)) rfl rfl ?_
      refine EJ_iload_n 885 3 (dk_29 (bt bc_Lw_law_27 20 rfl)) rfl rfl ?_
      refine EJ_iconst 886 (dk_6 (bt bc_Lw_law_27 21 rfl)) rfl (v := 3) kI_3 ?_
      refine EJ_iadd 887 (dk_96 (bt bc_Lw_law_27 22 rfl)) rfl ?_
      refine EJ_ck (fun h207 => ?_)
      refine EJ_sld (Y := Y_Lw_law) hxs hnx 888 h207 (dk_46 (bt bc_Lw_law_27 23 rfl)) rfl ?_
      refine EJ_aload_n 889 0 (dk_42 (bt bc_Lw_law_27 24 rfl)) rfl rfl ?_
      refine EJ_iload_n 890 3 (dk_29 (bt bc_Lw_law_27 25 rfl)) rfl rfl ?_
      refine EJ_iconst 891 (dk_7 (bt bc_Lw_law_27 26 rfl)) rfl (v := 4) kI_4 ?_
      refine EJ_iadd 892 (dk_96 (bt bc_Lw_law_27 27 rfl)) rfl ?_
      refine EJ_ck (fun h208 => ?_)
      refine EJ_sld (Y := Y_Lw_law) hxs hnx 893 h208 (dk_46 (bt bc_Lw_law_27 28 rfl)) rfl ?_
      refine EJ_aload_n 894 0 (dk_42 (bt bc_Lw_law_27 29 rfl)) rfl rfl ?_
      refine EJ_iload_n 895 3 (dk_29 (bt bc_Lw_law_27 30 rfl)) rfl rfl ?_
      refine EJ_iconst 896 (dk_8 (bt bc_Lw_law_27 31 rfl)) rfl (v := 5) kI_5 ?_
      refine EJ_iadd 897 (dk_96 (bt bc_Lw_law_28 0 rfl)) rfl ?_
      refine EJ_ck (fun h209 => ?_)
      refine EJ_sld (Y := Y_Lw_law) hxs hnx 898 h209 (dk_46 (bt bc_Lw_law_28 1 rfl)) rfl ?_
      refine EJ_ck (fun h210 => ?_)
      refine EJ_callVi (Y2 := Y_Mod_feed) 901 cf12 (s_Mod_feed G _ _ _ _ _ _ _) (of_decide_eq_true h210) rfl (dk_182 (bt bc_Lw_law_28 2 rfl) (bt bc_Lw_law_28 3 rfl) (bt bc_Lw_law_28 4 rfl) (n := 98) rfl) rfl tw_1674 tw_1675 tw_1676 tw_1677 hd_Mod_feed rfl (by decide) (Nat.le_of_ble_eq_true rfl) (fun r211 M212 => ?_)
      refine EJ_icmp_eq 1588 904 (dk_159 (bt bc_Lw_law_28 5 rfl) (bt bc_Lw_law_28 6 rfl) (bt bc_Lw_law_28 7 rfl) (n := 687) rfl) (by decide) rfl (fun _ => ?_) (fun _ => ?_)
      · exact EJ_pick (lv2 := [(0, .ref 3), (1, .ref _), (2, .ref _), (3, .int _)]) [0, 1, 2, 3] rfl (e_Lw_law_J1588 hxs hnx k18 hk18 _ _ _ _)
      · refine EJ_iconst 905 (dk_3 (bt bc_Lw_law_28 8 rfl)) rfl (v := 0) kI_0 ?_
        exact EJ_zret rfl (by decide) (dk_172 (bt bc_Lw_law_28 9 rfl))
    refine EJ_case 19 906 ds_Lw_law_33 (by decide) rfl (by decide) (fun _ => ?_) (fun hc33_19 => ?_)
    · refine EJ_aload_n 907 1 (dk_43 (bt bc_Lw_law_28 10 rfl)) rfl rfl ?_
      refine EJ_aload_n 908 0 (dk_42 (bt bc_Lw_law_28 11 rfl)) rfl rfl ?_
      refine EJ_iload_n 909 3 (dk_29 (bt bc_Lw_law_28 12 rfl)) rfl rfl ?_
      refine EJ_iconst 910 (dk_4 (bt bc_Lw_law_28 13 rfl)) rfl (v := 1) kI_1 ?_
      refine EJ_iadd 911 (dk_96 (bt bc_Lw_law_28 14 rfl)) rfl ?_
      refine EJ_ck (fun h213 => ?_)
      refine EJ_sld (Y := Y_Lw_law) hxs hnx 912 h213 (dk_46 (bt bc_Lw_law_28 15 rfl)) rfl ?_
      refine EJ_aload_n 913 0 (dk_42 (bt bc_Lw_law_28 16 rfl)) rfl rfl ?_
      refine EJ_iload_n 914 3 (dk_29 (bt bc_Lw_law_28 17 rfl)) rfl rfl ?_
      refine EJ_iconst 915 (dk_5 (bt bc_Lw_law_28 18 rfl)) rfl (v := 2) kI_2 ?_
      refine EJ_iadd 916 (dk_96 (bt bc_Lw_law_28 19 rfl)) rfl ?_
      refine EJ_ck (fun h214 => ?_)
      refine EJ_sld (Y := Y_Lw_law) hxs hnx 917 h214 (dk_46 (bt bc_Lw_law_28 20 rfl)) rfl ?_
      refine EJ_ck (fun h215 => ?_)
      refine EJ_callVi (Y2 := Y_Hall_rules) 920 cf11 (s_Hall_rules G _ _ _ _) (of_decide_eq_true h215) rfl (dk_182 (bt bc_Lw_law_28 21 rfl) (bt bc_Lw_law_28 22 rfl) (bt bc_Lw_law_28 23 rfl) (n := 99) rfl) rfl tw_615 tw_616 tw_617 tw_618 hd_Hall_rules rfl (by decide) (Nat.le_of_ble_eq_true rfl) (fun r216 M217 => ?_)
      refine EJ_aload_n 921 2 (dk_44 (bt bc_Lw_law_28 24 rfl)) rfl rfl ?_
      refine EJ_aload_n 922 0 (dk_42 (bt bc_Lw_law_28 25 rfl)) rfl rfl ?_
      refine EJ_iload_n 923 3 (dk_29 (bt bc_Lw_law_28 26 rfl)) rfl rfl ?_
      refine EJ_iconst 924 (dk_4 (bt bc_Lw_law_28 27 rfl)) rfl (v := 1) kI_1 ?_
      refine EJ_iadd 925 (dk_96 (bt bc_Lw_law_28 28 rfl)) rfl ?_
      refine EJ_ck (fun h218 => ?_)
      refine EJ_sld (Y := Y_Lw_law) hxs hnx 926 h218 (dk_46 (bt bc_Lw_law_28 29 rfl)) rfl ?_
      refine EJ_aload_n 927 0 (dk_42 (bt bc_Lw_law_28 30 rfl)) rfl rfl ?_
      refine EJ_iload_n 928 3 (dk_29 (bt bc_Lw_law_28 31 rfl)) rfl rfl ?_
      refine EJ_iconst 929 (dk_5 (bt bc_Lw_law_29 0 rfl)) rfl (v := 2) kI_2 ?_
      refine EJ_iadd 930 (dk_96 (bt bc_Lw_law_29 1 rfl)) rfl ?_
      refine EJ_ck (fun h219 => ?_)
      refine EJ_sld (Y := Y_Lw_law) hxs hnx 931 h219 (dk_46 (bt bc_Lw_law_29 2 rfl)) rfl ?_
      refine EJ_ck (fun h220 => ?_)
      refine EJ_callVi (Y2 := Y_Mod_rules) 934 cf12 (s_Mod_rules G _ _ _ _) (of_decide_eq_true h220) rfl (dk_182 (bt bc_Lw_law_29 3 rfl) (bt bc_Lw_law_29 4 rfl) (bt bc_Lw_law_29 5 rfl) (n := 102) rfl) rfl tw_1678 tw_1679 tw_1680 tw_1681 hd_Mod_rules rfl (by decide) (Nat.le_of_ble_eq_true rfl) (fun r221 M222 => ?_)
      refine EJ_icmp_eq 1588 937 (dk_159 (bt bc_Lw_law_29 6 rfl) (bt bc_Lw_law_29 7 rfl) (bt bc_Lw_law_29 8 rfl) (n := 654) rfl) (by decide) rfl (fun _ => ?_) (fun _ => ?_)
      · exact EJ_pick (lv2 := [(0, .ref 3), (1, .ref _), (2, .ref _), (3, .int _)]) [0, 1, 2, 3] rfl (e_Lw_law_J1588 hxs hnx k18 hk18 _ _ _ _)
      · refine EJ_iconst 938 (dk_3 (bt bc_Lw_law_29 9 rfl)) rfl (v := 0) kI_0 ?_
        exact EJ_zret rfl (by decide) (dk_172 (bt bc_Lw_law_29 10 rfl))
    refine EJ_case 20 939 ds_Lw_law_33 (by decide) rfl (by decide) (fun _ => ?_) (fun hc33_20 => ?_)
    · refine EJ_aload_n 940 1 (dk_43 (bt bc_Lw_law_29 11 rfl)) rfl rfl ?_
      refine EJ_ck (fun h223 => ?_)
      refine EJ_callVi (Y2 := Y_Hall_fault) 943 cf11 (s_Hall_fault G _ _) (of_decide_eq_true h223) rfl (dk_182 (bt bc_Lw_law_29 12 rfl) (bt bc_Lw_law_29 13 rfl) (bt bc_Lw_law_29 14 rfl) (n := 103) rfl) rfl tw_794 tw_795 tw_796 tw_797 hd_Hall_fault rfl (by decide) (Nat.le_of_ble_eq_true rfl) (fun r224 M225 => ?_)
      refine EJ_aload_n 944 2 (dk_44 (bt bc_Lw_law_29 15 rfl)) rfl rfl ?_
      refine EJ_ck (fun h226 => ?_)
      refine EJ_callVi (Y2 := Y_Mod_fault) 947 cf12 (s_Mod_fault G _ _) (of_decide_eq_true h226) rfl (dk_182 (bt bc_Lw_law_29 16 rfl) (bt bc_Lw_law_29 17 rfl) (bt bc_Lw_law_29 18 rfl) (n := 106) rfl) rfl tw_1773 tw_1774 tw_1775 tw_1776 hd_Mod_fault rfl (by decide) (Nat.le_of_ble_eq_true rfl) (fun r227 M228 => ?_)
      refine EJ_icmp_eq 1588 950 (dk_159 (bt bc_Lw_law_29 19 rfl) (bt bc_Lw_law_29 20 rfl) (bt bc_Lw_law_29 21 rfl) (n := 641) rfl) (by decide) rfl (fun _ => ?_) (fun _ => ?_)
      · exact EJ_pick (lv2 := [(0, .ref 3), (1, .ref _), (2, .ref _), (3, .int _)]) [0, 1, 2, 3] rfl (e_Lw_law_J1588 hxs hnx k18 hk18 _ _ _ _)
      · refine EJ_iconst 951 (dk_3 (bt bc_Lw_law_29 22 rfl)) rfl (v := 0) kI_0 ?_
        exact EJ_zret rfl (by decide) (dk_172 (bt bc_Lw_law_29 23 rfl))
    refine EJ_case 21 952 ds_Lw_law_33 (by decide) rfl (by decide) (fun _ => ?_) (fun hc33_21 => ?_)
    · refine EJ_aload_n 953 1 (dk_43 (bt bc_Lw_law_29 24 rfl)) rfl rfl ?_
      refine EJ_aload_n 954 0 (dk_42 (bt bc_Lw_law_29 25 rfl)) rfl rfl ?_
      refine EJ_iload_n 955 3 (dk_29 (bt bc_Lw_law_29 26 rfl)) rfl rfl ?_
      refine EJ_iconst 956 (dk_4 (bt bc_Lw_law_29 27 rfl)) rfl (v := 1) kI_1 ?_
      refine EJ_iadd 957 (dk_96 (bt bc_Lw_law_29 28 rfl)) rfl ?_
      refine EJ_ck (fun h229 => ?_)
      refine EJ_sld (Y := Y_Lw_law) hxs hnx 958 h229 (dk_46 (bt bc_Lw_law_29 29 rfl)) rfl ?_
      refine EJ_ck (fun h230 => ?_)
      refine EJ_callVi (Y2 := Y_Hall_rule) 961 cf11 (s_Hall_rule G _ _ _) (of_decide_eq_true h230) rfl (dk_182 (bt bc_Lw_law_29 30 rfl) (bt bc_Lw_law_29 31 rfl) (bt bc_Lw_law_30 0 rfl) (n := 107) rfl) rfl tw_798 tw_799 tw_800 tw_801 hd_Hall_rule rfl (by decide) (Nat.le_of_ble_eq_true rfl) (fun r231 M232 => ?_)
      refine EJ_aload_n 962 2 (dk_44 (bt bc_Lw_law_30 1 rfl)) rfl rfl ?_
      refine EJ_aload_n 963 0 (dk_42 (bt bc_Lw_law_30 2 rfl)) rfl rfl ?_
      refine EJ_iload_n 964 3 (dk_29 (bt bc_Lw_law_30 3 rfl)) rfl rfl ?_
      refine EJ_iconst 965 (dk_4 (bt bc_Lw_law_30 4 rfl)) rfl (v := 1) kI_1 ?_
      refine EJ_iadd 966 (dk_96 (bt bc_Lw_law_30 5 rfl)) rfl ?_
      refine EJ_ck (fun h233 => ?_)
      refine EJ_sld (Y := Y_Lw_law) hxs hnx 967 h233 (dk_46 (bt bc_Lw_law_30 6 rfl)) rfl ?_
      refine EJ_ck (fun h234 => ?_)
      refine EJ_callVi (Y2 := Y_Mod_rule) 970 cf12 (s_Mod_rule G _ _ _) (of_decide_eq_true h234) rfl (dk_182 (bt bc_Lw_law_30 7 rfl) (bt bc_Lw_law_30 8 rfl) (bt bc_Lw_law_30 9 rfl) (n := 110) rfl) rfl tw_1781 tw_1782 tw_1783 tw_1784 hd_Mod_rule rfl (by decide) (Nat.le_of_ble_eq_true rfl) (fun r235 M236 => ?_)
      refine EJ_icmp_eq 1588 973 (dk_159 (bt bc_Lw_law_30 10 rfl) (bt bc_Lw_law_30 11 rfl) (bt bc_Lw_law_30 12 rfl) (n := 618) rfl) (by decide) rfl (fun _ => ?_) (fun _ => ?_)
      · exact EJ_pick (lv2 := [(0, .ref 3), (1, .ref _), (2, .ref _), (3, .int _)]) [0, 1, 2, 3] rfl (e_Lw_law_J1588 hxs hnx k18 hk18 _ _ _ _)
      · refine EJ_iconst 974 (dk_3 (bt bc_Lw_law_30 13 rfl)) rfl (v := 0) kI_0 ?_
        exact EJ_zret rfl (by decide) (dk_172 (bt bc_Lw_law_30 14 rfl))
    refine EJ_case 22 975 ds_Lw_law_33 (by decide) rfl (by decide) (fun _ => ?_) (fun hc33_22 => ?_)
    · refine EJ_aload_n 976 1 (dk_43 (bt bc_Lw_law_30 15 rfl)) rfl rfl ?_
      refine EJ_aload_n 977 0 (dk_42 (bt bc_Lw_law_30 16 rfl)) rfl rfl ?_
      refine EJ_iload_n 978 3 (dk_29 (bt bc_Lw_law_30 17 rfl)) rfl rfl ?_
      refine EJ_iconst 979 (dk_4 (bt bc_Lw_law_30 18 rfl)) rfl (v := 1) kI_1 ?_
      refine EJ_iadd 980 (dk_96 (bt bc_Lw_law_30 19 rfl)) rfl ?_
      refine EJ_ck (fun h237 => ?_)
      refine EJ_sld (Y := Y_Lw_law) hxs hnx 981 h237 (dk_46 (bt bc_Lw_law_30 20 rfl)) rfl ?_
      refine EJ_ck (fun h238 => ?_)
      refine EJ_callVi (Y2 := Y_Hall_heard) 984 cf11 (s_Hall_heard G _ _ _) (of_decide_eq_true h238) rfl (dk_182 (bt bc_Lw_law_30 21 rfl) (bt bc_Lw_law_30 22 rfl) (bt bc_Lw_law_30 23 rfl) (n := 111) rfl) rfl tw_803 tw_804 tw_805 tw_806 hd_Hall_heard rfl (by decide) (Nat.le_of_ble_eq_true rfl) (fun r239 M240 => ?_)
      refine EJ_aload_n 985 2 (dk_44 (bt bc_Lw_law_30 24 rfl)) rfl rfl ?_
      refine EJ_aload_n 986 0 (dk_42 (bt bc_Lw_law_30 25 rfl)) rfl rfl ?_
      refine EJ_iload_n 987 3 (dk_29 (bt bc_Lw_law_30 26 rfl)) rfl rfl ?_
      refine EJ_iconst 988 (dk_4 (bt bc_Lw_law_30 27 rfl)) rfl (v := 1) kI_1 ?_
      refine EJ_iadd 989 (dk_96 (bt bc_Lw_law_30 28 rfl)) rfl ?_
      refine EJ_ck (fun h241 => ?_)
      refine EJ_sld (Y := Y_Lw_law) hxs hnx 990 h241 (dk_46 (bt bc_Lw_law_30 29 rfl)) rfl ?_
      refine EJ_ck (fun h242 => ?_)
      refine EJ_callVi (Y2 := Y_Mod_heard) 993 cf12 (s_Mod_heard G _ _ _) (of_decide_eq_true h242) rfl (dk_182 (bt bc_Lw_law_30 30 rfl) (bt bc_Lw_law_30 31 rfl) (bt bc_Lw_law_31 0 rfl) (n := 114) rfl) rfl tw_1777 tw_1778 tw_1779 tw_1780 hd_Mod_heard rfl (by decide) (Nat.le_of_ble_eq_true rfl) (fun r243 M244 => ?_)
      refine EJ_icmp_eq 1588 996 (dk_159 (bt bc_Lw_law_31 1 rfl) (bt bc_Lw_law_31 2 rfl) (bt bc_Lw_law_31 3 rfl) (n := 595) rfl) (by decide) rfl (fun _ => ?_) (fun _ => ?_)
      · exact EJ_pick (lv2 := [(0, .ref 3), (1, .ref _), (2, .ref _), (3, .int _)]) [0, 1, 2, 3] rfl (e_Lw_law_J1588 hxs hnx k18 hk18 _ _ _ _)
      · refine EJ_iconst 997 (dk_3 (bt bc_Lw_law_31 4 rfl)) rfl (v := 0) kI_0 ?_
        exact EJ_zret rfl (by decide) (dk_172 (bt bc_Lw_law_31 5 rfl))
    refine EJ_case 23 998 ds_Lw_law_33 (by decide) rfl (by decide) (fun _ => ?_) (fun hc33_23 => ?_)
    · refine EJ_aload_n 999 1 (dk_43 (bt bc_Lw_law_31 6 rfl)) rfl rfl ?_
      refine EJ_aload_n 1000 0 (dk_42 (bt bc_Lw_law_31 7 rfl)) rfl rfl ?_
      refine EJ_iload_n 1001 3 (dk_29 (bt bc_Lw_law_31 8 rfl)) rfl rfl ?_
      refine EJ_iconst 1002 (dk_4 (bt bc_Lw_law_31 9 rfl)) rfl (v := 1) kI_1 ?_
      refine EJ_iadd 1003 (dk_96 (bt bc_Lw_law_31 10 rfl)) rfl ?_
      refine EJ_ck (fun h245 => ?_)
      refine EJ_sld (Y := Y_Lw_law) hxs hnx 1004 h245 (dk_46 (bt bc_Lw_law_31 11 rfl)) rfl ?_
      refine EJ_ck (fun h246 => ?_)
      refine EJ_callVi (Y2 := Y_Hall_wind) 1007 cf11 (s_Hall_wind G _ _ _) (of_decide_eq_true h246) rfl (dk_182 (bt bc_Lw_law_31 12 rfl) (bt bc_Lw_law_31 13 rfl) (bt bc_Lw_law_31 14 rfl) (n := 115) rfl) rfl tw_811 tw_812 tw_813 tw_814 hd_Hall_wind rfl (by decide) (Nat.le_of_ble_eq_true rfl) (fun r247 M248 => ?_)
      refine EJ_aload_n 1008 2 (dk_44 (bt bc_Lw_law_31 15 rfl)) rfl rfl ?_
      refine EJ_aload_n 1009 0 (dk_42 (bt bc_Lw_law_31 16 rfl)) rfl rfl ?_
      refine EJ_iload_n 1010 3 (dk_29 (bt bc_Lw_law_31 17 rfl)) rfl rfl ?_
      refine EJ_iconst 1011 (dk_4 (bt bc_Lw_law_31 18 rfl)) rfl (v := 1) kI_1 ?_
      refine EJ_iadd 1012 (dk_96 (bt bc_Lw_law_31 19 rfl)) rfl ?_
      refine EJ_ck (fun h249 => ?_)
      refine EJ_sld (Y := Y_Lw_law) hxs hnx 1013 h249 (dk_46 (bt bc_Lw_law_31 20 rfl)) rfl ?_
      refine EJ_ck (fun h250 => ?_)
      refine EJ_callVi (Y2 := Y_Mod_wind) 1016 cf12 (s_Mod_wind G _ _ _) (of_decide_eq_true h250) rfl (dk_182 (bt bc_Lw_law_31 21 rfl) (bt bc_Lw_law_31 22 rfl) (bt bc_Lw_law_31 23 rfl) (n := 119) rfl) rfl tw_1785 tw_1786 tw_1787 tw_1788 hd_Mod_wind rfl (by decide) (Nat.le_of_ble_eq_true rfl) (fun r251 M252 => ?_)
      refine EJ_icmp_eq 1588 1019 (dk_159 (bt bc_Lw_law_31 24 rfl) (bt bc_Lw_law_31 25 rfl) (bt bc_Lw_law_31 26 rfl) (n := 572) rfl) (by decide) rfl (fun _ => ?_) (fun _ => ?_)
      · exact EJ_pick (lv2 := [(0, .ref 3), (1, .ref _), (2, .ref _), (3, .int _)]) [0, 1, 2, 3] rfl (e_Lw_law_J1588 hxs hnx k18 hk18 _ _ _ _)
      · refine EJ_iconst 1020 (dk_3 (bt bc_Lw_law_31 27 rfl)) rfl (v := 0) kI_0 ?_
        exact EJ_zret rfl (by decide) (dk_172 (bt bc_Lw_law_31 28 rfl))
    refine EJ_case 24 1021 ds_Lw_law_33 (by decide) rfl (by decide) (fun _ => ?_) (fun hc33_24 => ?_)
    · refine EJ_aload_n 1022 1 (dk_43 (bt bc_Lw_law_31 29 rfl)) rfl rfl ?_
      refine EJ_ck (fun h253 => ?_)
      refine EJ_callVi (Y2 := Y_Hall_light) 1025 cf11 (s_Hall_light G _ _) (of_decide_eq_true h253) rfl (dk_182 (bt bc_Lw_law_31 30 rfl) (bt bc_Lw_law_31 31 rfl) (bt bc_Lw_law_32 0 rfl) (n := 120) rfl) rfl tw_815 tw_816 tw_817 tw_818 hd_Hall_light rfl (by decide) (Nat.le_of_ble_eq_true rfl) (fun r254 M255 => ?_)
      refine EJ_aload_n 1026 2 (dk_44 (bt bc_Lw_law_32 1 rfl)) rfl rfl ?_
      refine EJ_ck (fun h256 => ?_)
      refine EJ_callVi (Y2 := Y_Mod_light) 1029 cf12 (s_Mod_light G _ _) (of_decide_eq_true h256) rfl (dk_182 (bt bc_Lw_law_32 2 rfl) (bt bc_Lw_law_32 3 rfl) (bt bc_Lw_law_32 4 rfl) (n := 123) rfl) rfl tw_1789 tw_1790 tw_1791 tw_1792 hd_Mod_light rfl (by decide) (Nat.le_of_ble_eq_true rfl) (fun r257 M258 => ?_)
      refine EJ_icmp_eq 1588 1032 (dk_159 (bt bc_Lw_law_32 5 rfl) (bt bc_Lw_law_32 6 rfl) (bt bc_Lw_law_32 7 rfl) (n := 559) rfl) (by decide) rfl (fun _ => ?_) (fun _ => ?_)
      · exact EJ_pick (lv2 := [(0, .ref 3), (1, .ref _), (2, .ref _), (3, .int _)]) [0, 1, 2, 3] rfl (e_Lw_law_J1588 hxs hnx k18 hk18 _ _ _ _)
      · refine EJ_iconst 1033 (dk_3 (bt bc_Lw_law_32 8 rfl)) rfl (v := 0) kI_0 ?_
        exact EJ_zret rfl (by decide) (dk_172 (bt bc_Lw_law_32 9 rfl))
    refine EJ_case 25 1034 ds_Lw_law_33 (by decide) rfl (by decide) (fun _ => ?_) (fun hc33_25 => ?_)
    · refine EJ_aload_n 1035 1 (dk_43 (bt bc_Lw_law_32 10 rfl)) rfl rfl ?_
      refine EJ_aload_n 1036 0 (dk_42 (bt bc_Lw_law_32 11 rfl)) rfl rfl ?_
      refine EJ_iload_n 1037 3 (dk_29 (bt bc_Lw_law_32 12 rfl)) rfl rfl ?_
      refine EJ_iconst 1038 (dk_4 (bt bc_Lw_law_32 13 rfl)) rfl (v := 1) kI_1 ?_
      refine EJ_iadd 1039 (dk_96 (bt bc_Lw_law_32 14 rfl)) rfl ?_
      refine EJ_ck (fun h259 => ?_)
      refine EJ_sld (Y := Y_Lw_law) hxs hnx 1040 h259 (dk_46 (bt bc_Lw_law_32 15 rfl)) rfl ?_
      refine EJ_aload_n 1041 0 (dk_42 (bt bc_Lw_law_32 16 rfl)) rfl rfl ?_
      refine EJ_iload_n 1042 3 (dk_29 (bt bc_Lw_law_32 17 rfl)) rfl rfl ?_
      refine EJ_iconst 1043 (dk_5 (bt bc_Lw_law_32 18 rfl)) rfl (v := 2) kI_2 ?_
      refine EJ_iadd 1044 (dk_96 (bt bc_Lw_law_32 19 rfl)) rfl ?_
      refine EJ_ck (fun h260 => ?_)
      refine EJ_sld (Y := Y_Lw_law) hxs hnx 1045 h260 (dk_46 (bt bc_Lw_law_32 20 rfl)) rfl ?_
      refine EJ_if_eq 1052 1048 (dk_153 (bt bc_Lw_law_32 21 rfl) (bt bc_Lw_law_32 22 rfl) (bt bc_Lw_law_32 23 rfl) (n := 7) rfl) (by decide) rfl (fun _ => ?_) (fun _ => ?_)
      · refine EJ_iconst 1053 (dk_3 (bt bc_Lw_law_32 28 rfl)) rfl (v := 0) kI_0 ?_
        exact EJ_pick (lv2 := [(0, .ref 3), (1, .ref _), (2, .ref _), (3, .int _)]) [0, 1, 2, 3] rfl (e_Lw_law_J1053 hxs hnx k18 hk18 _ _ _ _ _ _ _)
      · refine EJ_iconst 1049 (dk_4 (bt bc_Lw_law_32 24 rfl)) rfl (v := 1) kI_1 ?_
        refine EJ_goto 1053 (dk_167 (bt bc_Lw_law_32 25 rfl) (bt bc_Lw_law_32 26 rfl) (bt bc_Lw_law_32 27 rfl) (n := 4) rfl) (by decide) ?_
        exact EJ_pick (lv2 := [(0, .ref 3), (1, .ref _), (2, .ref _), (3, .int _)]) [0, 1, 2, 3] rfl (e_Lw_law_J1053 hxs hnx k18 hk18 _ _ _ _ _ _ _)
    refine EJ_case 26 1103 ds_Lw_law_33 (by decide) rfl (by decide) (fun _ => ?_) (fun hc33_26 => ?_)
    · refine EJ_aload_n 1104 1 (dk_43 (bt bc_Lw_law_34 15 rfl)) rfl rfl ?_
      refine EJ_aload_n 1105 0 (dk_42 (bt bc_Lw_law_34 16 rfl)) rfl rfl ?_
      refine EJ_iload_n 1106 3 (dk_29 (bt bc_Lw_law_34 17 rfl)) rfl rfl ?_
      refine EJ_iconst 1107 (dk_4 (bt bc_Lw_law_34 18 rfl)) rfl (v := 1) kI_1 ?_
      refine EJ_iadd 1108 (dk_96 (bt bc_Lw_law_34 19 rfl)) rfl ?_
      refine EJ_ck (fun h273 => ?_)
      refine EJ_sld (Y := Y_Lw_law) hxs hnx 1109 h273 (dk_46 (bt bc_Lw_law_34 20 rfl)) rfl ?_
      refine EJ_ck (fun h274 => ?_)
      refine EJ_callVi (Y2 := Y_Hall_back) 1112 cf11 (s_Hall_back G _ _ _) (of_decide_eq_true h274) rfl (dk_182 (bt bc_Lw_law_34 21 rfl) (bt bc_Lw_law_34 22 rfl) (bt bc_Lw_law_34 23 rfl) (n := 129) rfl) rfl tw_997 tw_998 tw_999 tw_1000 hd_Hall_back rfl (by decide) (Nat.le_of_ble_eq_true rfl) (fun r275 M276 => ?_)
      refine EJ_aload_n 1113 2 (dk_44 (bt bc_Lw_law_34 24 rfl)) rfl rfl ?_
      refine EJ_aload_n 1114 0 (dk_42 (bt bc_Lw_law_34 25 rfl)) rfl rfl ?_
      refine EJ_iload_n 1115 3 (dk_29 (bt bc_Lw_law_34 26 rfl)) rfl rfl ?_
      refine EJ_iconst 1116 (dk_4 (bt bc_Lw_law_34 27 rfl)) rfl (v := 1) kI_1 ?_
      refine EJ_iadd 1117 (dk_96 (bt bc_Lw_law_34 28 rfl)) rfl ?_
      refine EJ_ck (fun h277 => ?_)
      refine EJ_sld (Y := Y_Lw_law) hxs hnx 1118 h277 (dk_46 (bt bc_Lw_law_34 29 rfl)) rfl ?_
      refine EJ_ck (fun h278 => ?_)
      refine EJ_callVi (Y2 := Y_Mod_back) 1121 cf12 (s_Mod_back G _ _ _) (of_decide_eq_true h278) rfl (dk_182 (bt bc_Lw_law_34 30 rfl) (bt bc_Lw_law_34 31 rfl) (bt bc_Lw_law_35 0 rfl) (n := 132) rfl) rfl tw_1801 tw_1802 tw_1803 tw_1804 hd_Mod_back rfl (by decide) (Nat.le_of_ble_eq_true rfl) (fun r279 M280 => ?_)
      refine EJ_icmp_eq 1588 1124 (dk_159 (bt bc_Lw_law_35 1 rfl) (bt bc_Lw_law_35 2 rfl) (bt bc_Lw_law_35 3 rfl) (n := 467) rfl) (by decide) rfl (fun _ => ?_) (fun _ => ?_)
      · exact EJ_pick (lv2 := [(0, .ref 3), (1, .ref _), (2, .ref _), (3, .int _)]) [0, 1, 2, 3] rfl (e_Lw_law_J1588 hxs hnx k18 hk18 _ _ _ _)
      · refine EJ_iconst 1125 (dk_3 (bt bc_Lw_law_35 4 rfl)) rfl (v := 0) kI_0 ?_
        exact EJ_zret rfl (by decide) (dk_172 (bt bc_Lw_law_35 5 rfl))
    refine EJ_case 27 1126 ds_Lw_law_33 (by decide) rfl (by decide) (fun _ => ?_) (fun hc33_27 => ?_)
    · refine EJ_aload_n 1127 1 (dk_43 (bt bc_Lw_law_35 6 rfl)) rfl rfl ?_
      refine EJ_aload_n 1128 0 (dk_42 (bt bc_Lw_law_35 7 rfl)) rfl rfl ?_
      refine EJ_iload_n 1129 3 (dk_29 (bt bc_Lw_law_35 8 rfl)) rfl rfl ?_
      refine EJ_iconst 1130 (dk_4 (bt bc_Lw_law_35 9 rfl)) rfl (v := 1) kI_1 ?_
      refine EJ_iadd 1131 (dk_96 (bt bc_Lw_law_35 10 rfl)) rfl ?_
      refine EJ_ck (fun h281 => ?_)
      refine EJ_sld (Y := Y_Lw_law) hxs hnx 1132 h281 (dk_46 (bt bc_Lw_law_35 11 rfl)) rfl ?_
      refine EJ_aload_n 1133 0 (dk_42 (bt bc_Lw_law_35 12 rfl)) rfl rfl ?_
      refine EJ_iload_n 1134 3 (dk_29 (bt bc_Lw_law_35 13 rfl)) rfl rfl ?_
      refine EJ_iconst 1135 (dk_5 (bt bc_Lw_law_35 14 rfl)) rfl (v := 2) kI_2 ?_
      refine EJ_iadd 1136 (dk_96 (bt bc_Lw_law_35 15 rfl)) rfl ?_
      refine EJ_ck (fun h282 => ?_)
      refine EJ_sld (Y := Y_Lw_law) hxs hnx 1137 h282 (dk_46 (bt bc_Lw_law_35 16 rfl)) rfl ?_
      refine EJ_if_eq 1144 1140 (dk_153 (bt bc_Lw_law_35 17 rfl) (bt bc_Lw_law_35 18 rfl) (bt bc_Lw_law_35 19 rfl) (n := 7) rfl) (by decide) rfl (fun _ => ?_) (fun _ => ?_)
      · refine EJ_iconst 1145 (dk_3 (bt bc_Lw_law_35 24 rfl)) rfl (v := 0) kI_0 ?_
        exact EJ_pick (lv2 := [(0, .ref 3), (1, .ref _), (2, .ref _), (3, .int _)]) [0, 1, 2, 3] rfl (e_Lw_law_J1145 hxs hnx k18 hk18 _ _ _ _ _ _ _)
      · refine EJ_iconst 1141 (dk_4 (bt bc_Lw_law_35 20 rfl)) rfl (v := 1) kI_1 ?_
        refine EJ_goto 1145 (dk_167 (bt bc_Lw_law_35 21 rfl) (bt bc_Lw_law_35 22 rfl) (bt bc_Lw_law_35 23 rfl) (n := 4) rfl) (by decide) ?_
        exact EJ_pick (lv2 := [(0, .ref 3), (1, .ref _), (2, .ref _), (3, .int _)]) [0, 1, 2, 3] rfl (e_Lw_law_J1145 hxs hnx k18 hk18 _ _ _ _ _ _ _)
    refine EJ_case 28 1195 ds_Lw_law_33 (by decide) rfl (by decide) (fun _ => ?_) (fun hc33_28 => ?_)
    · refine EJ_aload_n 1196 1 (dk_43 (bt bc_Lw_law_37 11 rfl)) rfl rfl ?_
      refine EJ_aload_n 1197 0 (dk_42 (bt bc_Lw_law_37 12 rfl)) rfl rfl ?_
      refine EJ_iload_n 1198 3 (dk_29 (bt bc_Lw_law_37 13 rfl)) rfl rfl ?_
      refine EJ_iconst 1199 (dk_4 (bt bc_Lw_law_37 14 rfl)) rfl (v := 1) kI_1 ?_
      refine EJ_iadd 1200 (dk_96 (bt bc_Lw_law_37 15 rfl)) rfl ?_
      refine EJ_ck (fun h295 => ?_)
      refine EJ_sld (Y := Y_Lw_law) hxs hnx 1201 h295 (dk_46 (bt bc_Lw_law_37 16 rfl)) rfl ?_
      refine EJ_aload_n 1202 0 (dk_42 (bt bc_Lw_law_37 17 rfl)) rfl rfl ?_
      refine EJ_iload_n 1203 3 (dk_29 (bt bc_Lw_law_37 18 rfl)) rfl rfl ?_
      refine EJ_iconst 1204 (dk_5 (bt bc_Lw_law_37 19 rfl)) rfl (v := 2) kI_2 ?_
      refine EJ_iadd 1205 (dk_96 (bt bc_Lw_law_37 20 rfl)) rfl ?_
      refine EJ_ck (fun h296 => ?_)
      refine EJ_sld (Y := Y_Lw_law) hxs hnx 1206 h296 (dk_46 (bt bc_Lw_law_37 21 rfl)) rfl ?_
      refine EJ_if_eq 1213 1209 (dk_153 (bt bc_Lw_law_37 22 rfl) (bt bc_Lw_law_37 23 rfl) (bt bc_Lw_law_37 24 rfl) (n := 7) rfl) (by decide) rfl (fun _ => ?_) (fun _ => ?_)
      · refine EJ_iconst 1214 (dk_3 (bt bc_Lw_law_37 29 rfl)) rfl (v := 0) kI_0 ?_
        exact EJ_pick (lv2 := [(0, .ref 3), (1, .ref _), (2, .ref _), (3, .int _)]) [0, 1, 2, 3] rfl (e_Lw_law_J1214 hxs hnx k18 hk18 _ _ _ _ _ _ _)
      · refine EJ_iconst 1210 (dk_4 (bt bc_Lw_law_37 25 rfl)) rfl (v := 1) kI_1 ?_
        refine EJ_goto 1214 (dk_167 (bt bc_Lw_law_37 26 rfl) (bt bc_Lw_law_37 27 rfl) (bt bc_Lw_law_37 28 rfl) (n := 4) rfl) (by decide) ?_
        exact EJ_pick (lv2 := [(0, .ref 3), (1, .ref _), (2, .ref _), (3, .int _)]) [0, 1, 2, 3] rfl (e_Lw_law_J1214 hxs hnx k18 hk18 _ _ _ _ _ _ _)
    refine EJ_case 29 1244 ds_Lw_law_33 (by decide) rfl (by decide) (fun _ => ?_) (fun hc33_29 => ?_)
    · refine EJ_aload_n 1245 1 (dk_43 (bt bc_Lw_law_38 28 rfl)) rfl rfl ?_
      refine EJ_aload_n 1246 0 (dk_42 (bt bc_Lw_law_38 29 rfl)) rfl rfl ?_
      refine EJ_iload_n 1247 3 (dk_29 (bt bc_Lw_law_38 30 rfl)) rfl rfl ?_
      refine EJ_iconst 1248 (dk_4 (bt bc_Lw_law_38 31 rfl)) rfl (v := 1) kI_1 ?_
      refine EJ_iadd 1249 (dk_96 (bt bc_Lw_law_39 0 rfl)) rfl ?_
      refine EJ_ck (fun h305 => ?_)
      refine EJ_sld (Y := Y_Lw_law) hxs hnx 1250 h305 (dk_46 (bt bc_Lw_law_39 1 rfl)) rfl ?_
      refine EJ_ck (fun h306 => ?_)
      refine EJ_callVi (Y2 := Y_Hall_pass) 1253 cf11 (s_Hall_pass G _ _ _) (of_decide_eq_true h306) rfl (dk_182 (bt bc_Lw_law_39 2 rfl) (bt bc_Lw_law_39 3 rfl) (bt bc_Lw_law_39 4 rfl) (n := 143) rfl) rfl tw_1029 tw_1030 tw_1031 tw_1032 hd_Hall_pass rfl (by decide) (Nat.le_of_ble_eq_true rfl) (fun r307 M308 => ?_)
      refine EJ_aload_n 1254 2 (dk_44 (bt bc_Lw_law_39 5 rfl)) rfl rfl ?_
      refine EJ_aload_n 1255 0 (dk_42 (bt bc_Lw_law_39 6 rfl)) rfl rfl ?_
      refine EJ_iload_n 1256 3 (dk_29 (bt bc_Lw_law_39 7 rfl)) rfl rfl ?_
      refine EJ_iconst 1257 (dk_4 (bt bc_Lw_law_39 8 rfl)) rfl (v := 1) kI_1 ?_
      refine EJ_iadd 1258 (dk_96 (bt bc_Lw_law_39 9 rfl)) rfl ?_
      refine EJ_ck (fun h309 => ?_)
      refine EJ_sld (Y := Y_Lw_law) hxs hnx 1259 h309 (dk_46 (bt bc_Lw_law_39 10 rfl)) rfl ?_
      refine EJ_ck (fun h310 => ?_)
      refine EJ_callVi (Y2 := Y_Mod_pass) 1262 cf12 (s_Mod_pass G _ _ _) (of_decide_eq_true h310) rfl (dk_182 (bt bc_Lw_law_39 11 rfl) (bt bc_Lw_law_39 12 rfl) (bt bc_Lw_law_39 13 rfl) (n := 146) rfl) rfl tw_1817 tw_1818 tw_1819 tw_1820 hd_Mod_pass rfl (by decide) (Nat.le_of_ble_eq_true rfl) (fun r311 M312 => ?_)
      refine EJ_icmp_eq 1588 1265 (dk_159 (bt bc_Lw_law_39 14 rfl) (bt bc_Lw_law_39 15 rfl) (bt bc_Lw_law_39 16 rfl) (n := 326) rfl) (by decide) rfl (fun _ => ?_) (fun _ => ?_)
      · exact EJ_pick (lv2 := [(0, .ref 3), (1, .ref _), (2, .ref _), (3, .int _)]) [0, 1, 2, 3] rfl (e_Lw_law_J1588 hxs hnx k18 hk18 _ _ _ _)
      · refine EJ_iconst 1266 (dk_3 (bt bc_Lw_law_39 17 rfl)) rfl (v := 0) kI_0 ?_
        exact EJ_zret rfl (by decide) (dk_172 (bt bc_Lw_law_39 18 rfl))
    refine EJ_case 30 1267 ds_Lw_law_33 (by decide) rfl (by decide) (fun _ => ?_) (fun hc33_30 => ?_)
    · refine EJ_aload_n 1268 1 (dk_43 (bt bc_Lw_law_39 19 rfl)) rfl rfl ?_
      refine EJ_aload_n 1269 0 (dk_42 (bt bc_Lw_law_39 20 rfl)) rfl rfl ?_
      refine EJ_iload_n 1270 3 (dk_29 (bt bc_Lw_law_39 21 rfl)) rfl rfl ?_
      refine EJ_iconst 1271 (dk_4 (bt bc_Lw_law_39 22 rfl)) rfl (v := 1) kI_1 ?_
      refine EJ_iadd 1272 (dk_96 (bt bc_Lw_law_39 23 rfl)) rfl ?_
      refine EJ_ck (fun h313 => ?_)
      refine EJ_sld (Y := Y_Lw_law) hxs hnx 1273 h313 (dk_46 (bt bc_Lw_law_39 24 rfl)) rfl ?_
      refine EJ_aload_n 1274 0 (dk_42 (bt bc_Lw_law_39 25 rfl)) rfl rfl ?_
      refine EJ_iload_n 1275 3 (dk_29 (bt bc_Lw_law_39 26 rfl)) rfl rfl ?_
      refine EJ_iconst 1276 (dk_5 (bt bc_Lw_law_39 27 rfl)) rfl (v := 2) kI_2 ?_
      refine EJ_iadd 1277 (dk_96 (bt bc_Lw_law_39 28 rfl)) rfl ?_
      refine EJ_ck (fun h314 => ?_)
      refine EJ_sld (Y := Y_Lw_law) hxs hnx 1278 h314 (dk_46 (bt bc_Lw_law_39 29 rfl)) rfl ?_
      refine EJ_ck (fun h315 => ?_)
      refine EJ_callVi (Y2 := Y_Hall_session) 1281 cf11 (s_Hall_session G _ _ _ _) (of_decide_eq_true h315) rfl (dk_182 (bt bc_Lw_law_39 30 rfl) (bt bc_Lw_law_39 31 rfl) (bt bc_Lw_law_40 0 rfl) (n := 147) rfl) rfl tw_1096 tw_1097 tw_1098 tw_1099 hd_Hall_session rfl (by decide) (Nat.le_of_ble_eq_true rfl) (fun r316 M317 => ?_)
      refine EJ_aload_n 1282 2 (dk_44 (bt bc_Lw_law_40 1 rfl)) rfl rfl ?_
      refine EJ_aload_n 1283 0 (dk_42 (bt bc_Lw_law_40 2 rfl)) rfl rfl ?_
      refine EJ_iload_n 1284 3 (dk_29 (bt bc_Lw_law_40 3 rfl)) rfl rfl ?_
      refine EJ_iconst 1285 (dk_4 (bt bc_Lw_law_40 4 rfl)) rfl (v := 1) kI_1 ?_
      refine EJ_iadd 1286 (dk_96 (bt bc_Lw_law_40 5 rfl)) rfl ?_
      refine EJ_ck (fun h318 => ?_)
      refine EJ_sld (Y := Y_Lw_law) hxs hnx 1287 h318 (dk_46 (bt bc_Lw_law_40 6 rfl)) rfl ?_
      refine EJ_aload_n 1288 0 (dk_42 (bt bc_Lw_law_40 7 rfl)) rfl rfl ?_
      refine EJ_iload_n 1289 3 (dk_29 (bt bc_Lw_law_40 8 rfl)) rfl rfl ?_
      refine EJ_iconst 1290 (dk_5 (bt bc_Lw_law_40 9 rfl)) rfl (v := 2) kI_2 ?_
      refine EJ_iadd 1291 (dk_96 (bt bc_Lw_law_40 10 rfl)) rfl ?_
      refine EJ_ck (fun h319 => ?_)
      refine EJ_sld (Y := Y_Lw_law) hxs hnx 1292 h319 (dk_46 (bt bc_Lw_law_40 11 rfl)) rfl ?_
      refine EJ_ck (fun h320 => ?_)
      refine EJ_callVi (Y2 := Y_Mod_session) 1295 cf12 (s_Mod_session G _ _ _ _) (of_decide_eq_true h320) rfl (dk_182 (bt bc_Lw_law_40 12 rfl) (bt bc_Lw_law_40 13 rfl) (bt bc_Lw_law_40 14 rfl) (n := 150) rfl) rfl tw_1845 tw_1846 tw_1847 tw_1848 hd_Mod_session rfl (by decide) (Nat.le_of_ble_eq_true rfl) (fun r321 M322 => ?_)
      refine EJ_icmp_eq 1588 1298 (dk_159 (bt bc_Lw_law_40 15 rfl) (bt bc_Lw_law_40 16 rfl) (bt bc_Lw_law_40 17 rfl) (n := 293) rfl) (by decide) rfl (fun _ => ?_) (fun _ => ?_)
      · exact EJ_pick (lv2 := [(0, .ref 3), (1, .ref _), (2, .ref _), (3, .int _)]) [0, 1, 2, 3] rfl (e_Lw_law_J1588 hxs hnx k18 hk18 _ _ _ _)
      · refine EJ_iconst 1299 (dk_3 (bt bc_Lw_law_40 18 rfl)) rfl (v := 0) kI_0 ?_
        exact EJ_zret rfl (by decide) (dk_172 (bt bc_Lw_law_40 19 rfl))
    refine EJ_case 31 1300 ds_Lw_law_33 (by decide) rfl (by decide) (fun _ => ?_) (fun hc33_31 => ?_)
    · refine EJ_aload_n 1301 1 (dk_43 (bt bc_Lw_law_40 20 rfl)) rfl rfl ?_
      refine EJ_aload_n 1302 0 (dk_42 (bt bc_Lw_law_40 21 rfl)) rfl rfl ?_
      refine EJ_iload_n 1303 3 (dk_29 (bt bc_Lw_law_40 22 rfl)) rfl rfl ?_
      refine EJ_iconst 1304 (dk_4 (bt bc_Lw_law_40 23 rfl)) rfl (v := 1) kI_1 ?_
      refine EJ_iadd 1305 (dk_96 (bt bc_Lw_law_40 24 rfl)) rfl ?_
      refine EJ_ck (fun h323 => ?_)
      refine EJ_sld (Y := Y_Lw_law) hxs hnx 1306 h323 (dk_46 (bt bc_Lw_law_40 25 rfl)) rfl ?_
      refine EJ_aload_n 1307 0 (dk_42 (bt bc_Lw_law_40 26 rfl)) rfl rfl ?_
      refine EJ_iload_n 1308 3 (dk_29 (bt bc_Lw_law_40 27 rfl)) rfl rfl ?_
      refine EJ_iconst 1309 (dk_5 (bt bc_Lw_law_40 28 rfl)) rfl (v := 2) kI_2 ?_
      refine EJ_iadd 1310 (dk_96 (bt bc_Lw_law_40 29 rfl)) rfl ?_
      refine EJ_ck (fun h324 => ?_)
      refine EJ_sld (Y := Y_Lw_law) hxs hnx 1311 h324 (dk_46 (bt bc_Lw_law_40 30 rfl)) rfl ?_
      refine EJ_aload_n 1312 0 (dk_42 (bt bc_Lw_law_40 31 rfl)) rfl rfl ?_
      refine EJ_iload_n 1313 3 (dk_29 (bt bc_Lw_law_41 0 rfl)) rfl rfl ?_
      refine EJ_iconst 1314 (dk_6 (bt bc_Lw_law_41 1 rfl)) rfl (v := 3) kI_3 ?_
      refine EJ_iadd 1315 (dk_96 (bt bc_Lw_law_41 2 rfl)) rfl ?_
      refine EJ_ck (fun h325 => ?_)
      refine EJ_sld (Y := Y_Lw_law) hxs hnx 1316 h325 (dk_46 (bt bc_Lw_law_41 3 rfl)) rfl ?_
      refine EJ_ck (fun h326 => ?_)
      refine EJ_callVi (Y2 := Y_Hall_bargain) 1319 cf11 (s_Hall_bargain G _ _ _ _ _) (of_decide_eq_true h326) rfl (dk_182 (bt bc_Lw_law_41 4 rfl) (bt bc_Lw_law_41 5 rfl) (bt bc_Lw_law_41 6 rfl) (n := 151) rfl) rfl tw_1104 tw_1105 tw_1106 tw_1107 hd_Hall_bargain rfl (by decide) (Nat.le_of_ble_eq_true rfl) (fun r327 M328 => ?_)
      refine EJ_aload_n 1320 2 (dk_44 (bt bc_Lw_law_41 7 rfl)) rfl rfl ?_
      refine EJ_aload_n 1321 0 (dk_42 (bt bc_Lw_law_41 8 rfl)) rfl rfl ?_
      refine EJ_iload_n 1322 3 (dk_29 (bt bc_Lw_law_41 9 rfl)) rfl rfl ?_
      refine EJ_iconst 1323 (dk_4 (bt bc_Lw_law_41 10 rfl)) rfl (v := 1) kI_1 ?_
      refine EJ_iadd 1324 (dk_96 (bt bc_Lw_law_41 11 rfl)) rfl ?_
      refine EJ_ck (fun h329 => ?_)
      refine EJ_sld (Y := Y_Lw_law) hxs hnx 1325 h329 (dk_46 (bt bc_Lw_law_41 12 rfl)) rfl ?_
      refine EJ_aload_n 1326 0 (dk_42 (bt bc_Lw_law_41 13 rfl)) rfl rfl ?_
      refine EJ_iload_n 1327 3 (dk_29 (bt bc_Lw_law_41 14 rfl)) rfl rfl ?_
      refine EJ_iconst 1328 (dk_5 (bt bc_Lw_law_41 15 rfl)) rfl (v := 2) kI_2 ?_
      refine EJ_iadd 1329 (dk_96 (bt bc_Lw_law_41 16 rfl)) rfl ?_
      refine EJ_ck (fun h330 => ?_)
      refine EJ_sld (Y := Y_Lw_law) hxs hnx 1330 h330 (dk_46 (bt bc_Lw_law_41 17 rfl)) rfl ?_
      refine EJ_aload_n 1331 0 (dk_42 (bt bc_Lw_law_41 18 rfl)) rfl rfl ?_
      refine EJ_iload_n 1332 3 (dk_29 (bt bc_Lw_law_41 19 rfl)) rfl rfl ?_
      refine EJ_iconst 1333 (dk_6 (bt bc_Lw_law_41 20 rfl)) rfl (v := 3) kI_3 ?_
      refine EJ_iadd 1334 (dk_96 (bt bc_Lw_law_41 21 rfl)) rfl ?_
      refine EJ_ck (fun h331 => ?_)
      refine EJ_sld (Y := Y_Lw_law) hxs hnx 1335 h331 (dk_46 (bt bc_Lw_law_41 22 rfl)) rfl ?_
      refine EJ_ck (fun h332 => ?_)
      refine EJ_callVi (Y2 := Y_Mod_bargain) 1338 cf12 (s_Mod_bargain G _ _ _ _ _) (of_decide_eq_true h332) rfl (dk_182 (bt bc_Lw_law_41 23 rfl) (bt bc_Lw_law_41 24 rfl) (bt bc_Lw_law_41 25 rfl) (n := 154) rfl) rfl tw_1849 tw_1850 tw_1851 tw_1852 hd_Mod_bargain rfl (by decide) (Nat.le_of_ble_eq_true rfl) (fun r333 M334 => ?_)
      refine EJ_icmp_eq 1588 1341 (dk_159 (bt bc_Lw_law_41 26 rfl) (bt bc_Lw_law_41 27 rfl) (bt bc_Lw_law_41 28 rfl) (n := 250) rfl) (by decide) rfl (fun _ => ?_) (fun _ => ?_)
      · exact EJ_pick (lv2 := [(0, .ref 3), (1, .ref _), (2, .ref _), (3, .int _)]) [0, 1, 2, 3] rfl (e_Lw_law_J1588 hxs hnx k18 hk18 _ _ _ _)
      · refine EJ_iconst 1342 (dk_3 (bt bc_Lw_law_41 29 rfl)) rfl (v := 0) kI_0 ?_
        exact EJ_zret rfl (by decide) (dk_172 (bt bc_Lw_law_41 30 rfl))
    refine EJ_case 32 1343 ds_Lw_law_33 (by decide) rfl (by decide) (fun _ => ?_) (fun hc33_32 => ?_)
    · refine EJ_aload_n 1344 1 (dk_43 (bt bc_Lw_law_41 31 rfl)) rfl rfl ?_
      refine EJ_aload_n 1345 0 (dk_42 (bt bc_Lw_law_42 0 rfl)) rfl rfl ?_
      refine EJ_iload_n 1346 3 (dk_29 (bt bc_Lw_law_42 1 rfl)) rfl rfl ?_
      refine EJ_iconst 1347 (dk_4 (bt bc_Lw_law_42 2 rfl)) rfl (v := 1) kI_1 ?_
      refine EJ_iadd 1348 (dk_96 (bt bc_Lw_law_42 3 rfl)) rfl ?_
      refine EJ_ck (fun h335 => ?_)
      refine EJ_sld (Y := Y_Lw_law) hxs hnx 1349 h335 (dk_46 (bt bc_Lw_law_42 4 rfl)) rfl ?_
      refine EJ_ck (fun h336 => ?_)
      refine EJ_callVi (Y2 := Y_Hall_best) 1352 cf11 (s_Hall_best G _ _ _) (of_decide_eq_true h336) rfl (dk_182 (bt bc_Lw_law_42 5 rfl) (bt bc_Lw_law_42 6 rfl) (bt bc_Lw_law_42 7 rfl) (n := 155) rfl) rfl tw_1109 tw_1110 tw_1111 tw_1112 hd_Hall_best rfl (by decide) (Nat.le_of_ble_eq_true rfl) (fun r337 M338 => ?_)
      refine EJ_aload_n 1353 2 (dk_44 (bt bc_Lw_law_42 8 rfl)) rfl rfl ?_
      refine EJ_aload_n 1354 0 (dk_42 (bt bc_Lw_law_42 9 rfl)) rfl rfl ?_
      refine EJ_iload_n 1355 3 (dk_29 (bt bc_Lw_law_42 10 rfl)) rfl rfl ?_
      refine EJ_iconst 1356 (dk_4 (bt bc_Lw_law_42 11 rfl)) rfl (v := 1) kI_1 ?_
      refine EJ_iadd 1357 (dk_96 (bt bc_Lw_law_42 12 rfl)) rfl ?_
      refine EJ_ck (fun h339 => ?_)
      refine EJ_sld (Y := Y_Lw_law) hxs hnx 1358 h339 (dk_46 (bt bc_Lw_law_42 13 rfl)) rfl ?_
      refine EJ_ck (fun h340 => ?_)
      refine EJ_callVi (Y2 := Y_Mod_best) 1361 cf12 (s_Mod_best G _ _ _) (of_decide_eq_true h340) rfl (dk_182 (bt bc_Lw_law_42 14 rfl) (bt bc_Lw_law_42 15 rfl) (bt bc_Lw_law_42 16 rfl) (n := 158) rfl) rfl tw_1853 tw_1854 tw_1855 tw_1856 hd_Mod_best rfl (by decide) (Nat.le_of_ble_eq_true rfl) (fun r341 M342 => ?_)
      refine EJ_icmp_eq 1588 1364 (dk_159 (bt bc_Lw_law_42 17 rfl) (bt bc_Lw_law_42 18 rfl) (bt bc_Lw_law_42 19 rfl) (n := 227) rfl) (by decide) rfl (fun _ => ?_) (fun _ => ?_)
      · exact EJ_pick (lv2 := [(0, .ref 3), (1, .ref _), (2, .ref _), (3, .int _)]) [0, 1, 2, 3] rfl (e_Lw_law_J1588 hxs hnx k18 hk18 _ _ _ _)
      · refine EJ_iconst 1365 (dk_3 (bt bc_Lw_law_42 20 rfl)) rfl (v := 0) kI_0 ?_
        exact EJ_zret rfl (by decide) (dk_172 (bt bc_Lw_law_42 21 rfl))
    refine EJ_case 33 1366 ds_Lw_law_33 (by decide) rfl (by decide) (fun _ => ?_) (fun hc33_33 => ?_)
    · refine EJ_aload_n 1367 1 (dk_43 (bt bc_Lw_law_42 22 rfl)) rfl rfl ?_
      refine EJ_aload_n 1368 0 (dk_42 (bt bc_Lw_law_42 23 rfl)) rfl rfl ?_
      refine EJ_iload_n 1369 3 (dk_29 (bt bc_Lw_law_42 24 rfl)) rfl rfl ?_
      refine EJ_iconst 1370 (dk_4 (bt bc_Lw_law_42 25 rfl)) rfl (v := 1) kI_1 ?_
      refine EJ_iadd 1371 (dk_96 (bt bc_Lw_law_42 26 rfl)) rfl ?_
      refine EJ_ck (fun h343 => ?_)
      refine EJ_sld (Y := Y_Lw_law) hxs hnx 1372 h343 (dk_46 (bt bc_Lw_law_42 27 rfl)) rfl ?_
      refine EJ_aload_n 1373 0 (dk_42 (bt bc_Lw_law_42 28 rfl)) rfl rfl ?_
      refine EJ_iload_n 1374 3 (dk_29 (bt bc_Lw_law_42 29 rfl)) rfl rfl ?_
      refine EJ_iconst 1375 (dk_5 (bt bc_Lw_law_42 30 rfl)) rfl (v := 2) kI_2 ?_
      refine EJ_iadd 1376 (dk_96 (bt bc_Lw_law_42 31 rfl)) rfl ?_
      refine EJ_ck (fun h344 => ?_)
      refine EJ_sld (Y := Y_Lw_law) hxs hnx 1377 h344 (dk_46 (bt bc_Lw_law_43 0 rfl)) rfl ?_
      refine EJ_aload_n 1378 0 (dk_42 (bt bc_Lw_law_43 1 rfl)) rfl rfl ?_
      refine EJ_iload_n 1379 3 (dk_29 (bt bc_Lw_law_43 2 rfl)) rfl rfl ?_
      refine EJ_iconst 1380 (dk_6 (bt bc_Lw_law_43 3 rfl)) rfl (v := 3) kI_3 ?_
      refine EJ_iadd 1381 (dk_96 (bt bc_Lw_law_43 4 rfl)) rfl ?_
      refine EJ_ck (fun h345 => ?_)
      refine EJ_sld (Y := Y_Lw_law) hxs hnx 1382 h345 (dk_46 (bt bc_Lw_law_43 5 rfl)) rfl ?_
      refine EJ_ck (fun h346 => ?_)
      refine EJ_callVi (Y2 := Y_Hall_owe) 1385 cf11 (s_Hall_owe G _ _ _ _ _) (of_decide_eq_true h346) rfl (dk_182 (bt bc_Lw_law_43 6 rfl) (bt bc_Lw_law_43 7 rfl) (bt bc_Lw_law_43 8 rfl) (n := 159) rfl) rfl tw_1121 tw_1122 tw_1123 tw_1124 hd_Hall_owe rfl (by decide) (Nat.le_of_ble_eq_true rfl) (fun r347 M348 => ?_)
      refine EJ_aload_n 1386 2 (dk_44 (bt bc_Lw_law_43 9 rfl)) rfl rfl ?_
      refine EJ_aload_n 1387 0 (dk_42 (bt bc_Lw_law_43 10 rfl)) rfl rfl ?_
      refine EJ_iload_n 1388 3 (dk_29 (bt bc_Lw_law_43 11 rfl)) rfl rfl ?_
      refine EJ_iconst 1389 (dk_4 (bt bc_Lw_law_43 12 rfl)) rfl (v := 1) kI_1 ?_
      refine EJ_iadd 1390 (dk_96 (bt bc_Lw_law_43 13 rfl)) rfl ?_
      refine EJ_ck (fun h349 => ?_)
      refine EJ_sld (Y := Y_Lw_law) hxs hnx 1391 h349 (dk_46 (bt bc_Lw_law_43 14 rfl)) rfl ?_
      refine EJ_aload_n 1392 0 (dk_42 (bt bc_Lw_law_43 15 rfl)) rfl rfl ?_
      refine EJ_iload_n 1393 3 (dk_29 (bt bc_Lw_law_43 16 rfl)) rfl rfl ?_
      refine EJ_iconst 1394 (dk_5 (bt bc_Lw_law_43 17 rfl)) rfl (v := 2) kI_2 ?_
      refine EJ_iadd 1395 (dk_96 (bt bc_Lw_law_43 18 rfl)) rfl ?_
      refine EJ_ck (fun h350 => ?_)
      refine EJ_sld (Y := Y_Lw_law) hxs hnx 1396 h350 (dk_46 (bt bc_Lw_law_43 19 rfl)) rfl ?_
      refine EJ_aload_n 1397 0 (dk_42 (bt bc_Lw_law_43 20 rfl)) rfl rfl ?_
      refine EJ_iload_n 1398 3 (dk_29 (bt bc_Lw_law_43 21 rfl)) rfl rfl ?_
      refine EJ_iconst 1399 (dk_6 (bt bc_Lw_law_43 22 rfl)) rfl (v := 3) kI_3 ?_
      refine EJ_iadd 1400 (dk_96 (bt bc_Lw_law_43 23 rfl)) rfl ?_
      refine EJ_ck (fun h351 => ?_)
      refine EJ_sld (Y := Y_Lw_law) hxs hnx 1401 h351 (dk_46 (bt bc_Lw_law_43 24 rfl)) rfl ?_
      refine EJ_ck (fun h352 => ?_)
      refine EJ_callVi (Y2 := Y_Mod_owe) 1404 cf12 (s_Mod_owe G _ _ _ _ _) (of_decide_eq_true h352) rfl (dk_182 (bt bc_Lw_law_43 25 rfl) (bt bc_Lw_law_43 26 rfl) (bt bc_Lw_law_43 27 rfl) (n := 162) rfl) rfl tw_1857 tw_1858 tw_1859 tw_1860 hd_Mod_owe rfl (by decide) (Nat.le_of_ble_eq_true rfl) (fun r353 M354 => ?_)
      refine EJ_icmp_eq 1588 1407 (dk_159 (bt bc_Lw_law_43 28 rfl) (bt bc_Lw_law_43 29 rfl) (bt bc_Lw_law_43 30 rfl) (n := 184) rfl) (by decide) rfl (fun _ => ?_) (fun _ => ?_)
      · exact EJ_pick (lv2 := [(0, .ref 3), (1, .ref _), (2, .ref _), (3, .int _)]) [0, 1, 2, 3] rfl (e_Lw_law_J1588 hxs hnx k18 hk18 _ _ _ _)
      · refine EJ_iconst 1408 (dk_3 (bt bc_Lw_law_43 31 rfl)) rfl (v := 0) kI_0 ?_
        exact EJ_zret rfl (by decide) (dk_172 (bt bc_Lw_law_44 0 rfl))
    refine EJ_case 34 1409 ds_Lw_law_33 (by decide) rfl (by decide) (fun _ => ?_) (fun hc33_34 => ?_)
    · refine EJ_aload_n 1410 1 (dk_43 (bt bc_Lw_law_44 1 rfl)) rfl rfl ?_
      refine EJ_aload_n 1411 0 (dk_42 (bt bc_Lw_law_44 2 rfl)) rfl rfl ?_
      refine EJ_iload_n 1412 3 (dk_29 (bt bc_Lw_law_44 3 rfl)) rfl rfl ?_
      refine EJ_iconst 1413 (dk_4 (bt bc_Lw_law_44 4 rfl)) rfl (v := 1) kI_1 ?_
      refine EJ_iadd 1414 (dk_96 (bt bc_Lw_law_44 5 rfl)) rfl ?_
      refine EJ_ck (fun h355 => ?_)
      refine EJ_sld (Y := Y_Lw_law) hxs hnx 1415 h355 (dk_46 (bt bc_Lw_law_44 6 rfl)) rfl ?_
      refine EJ_aload_n 1416 0 (dk_42 (bt bc_Lw_law_44 7 rfl)) rfl rfl ?_
      refine EJ_iload_n 1417 3 (dk_29 (bt bc_Lw_law_44 8 rfl)) rfl rfl ?_
      refine EJ_iconst 1418 (dk_5 (bt bc_Lw_law_44 9 rfl)) rfl (v := 2) kI_2 ?_
      refine EJ_iadd 1419 (dk_96 (bt bc_Lw_law_44 10 rfl)) rfl ?_
      refine EJ_ck (fun h356 => ?_)
      refine EJ_sld (Y := Y_Lw_law) hxs hnx 1420 h356 (dk_46 (bt bc_Lw_law_44 11 rfl)) rfl ?_
      refine EJ_ck (fun h357 => ?_)
      refine EJ_callVi (Y2 := Y_Hall_fails) 1423 cf11 (s_Hall_fails G _ _ _ _) (of_decide_eq_true h357) rfl (dk_182 (bt bc_Lw_law_44 12 rfl) (bt bc_Lw_law_44 13 rfl) (bt bc_Lw_law_44 14 rfl) (n := 163) rfl) rfl tw_1125 tw_1126 tw_1127 tw_1128 hd_Hall_fails rfl (by decide) (Nat.le_of_ble_eq_true rfl) (fun r358 M359 => ?_)
      refine EJ_aload_n 1424 2 (dk_44 (bt bc_Lw_law_44 15 rfl)) rfl rfl ?_
      refine EJ_aload_n 1425 0 (dk_42 (bt bc_Lw_law_44 16 rfl)) rfl rfl ?_
      refine EJ_iload_n 1426 3 (dk_29 (bt bc_Lw_law_44 17 rfl)) rfl rfl ?_
      refine EJ_iconst 1427 (dk_4 (bt bc_Lw_law_44 18 rfl)) rfl (v := 1) kI_1 ?_
      refine EJ_iadd 1428 (dk_96 (bt bc_Lw_law_44 19 rfl)) rfl ?_
      refine EJ_ck (fun h360 => ?_)
      refine EJ_sld (Y := Y_Lw_law) hxs hnx 1429 h360 (dk_46 (bt bc_Lw_law_44 20 rfl)) rfl ?_
      refine EJ_aload_n 1430 0 (dk_42 (bt bc_Lw_law_44 21 rfl)) rfl rfl ?_
      refine EJ_iload_n 1431 3 (dk_29 (bt bc_Lw_law_44 22 rfl)) rfl rfl ?_
      refine EJ_iconst 1432 (dk_5 (bt bc_Lw_law_44 23 rfl)) rfl (v := 2) kI_2 ?_
      refine EJ_iadd 1433 (dk_96 (bt bc_Lw_law_44 24 rfl)) rfl ?_
      refine EJ_ck (fun h361 => ?_)
      refine EJ_sld (Y := Y_Lw_law) hxs hnx 1434 h361 (dk_46 (bt bc_Lw_law_44 25 rfl)) rfl ?_
      refine EJ_ck (fun h362 => ?_)
      refine EJ_callVi (Y2 := Y_Mod_fails) 1437 cf12 (s_Mod_fails G _ _ _ _) (of_decide_eq_true h362) rfl (dk_182 (bt bc_Lw_law_44 26 rfl) (bt bc_Lw_law_44 27 rfl) (bt bc_Lw_law_44 28 rfl) (n := 166) rfl) rfl tw_1861 tw_1862 tw_1863 tw_1864 hd_Mod_fails rfl (by decide) (Nat.le_of_ble_eq_true rfl) (fun r363 M364 => ?_)
      refine EJ_icmp_eq 1588 1440 (dk_159 (bt bc_Lw_law_44 29 rfl) (bt bc_Lw_law_44 30 rfl) (bt bc_Lw_law_44 31 rfl) (n := 151) rfl) (by decide) rfl (fun _ => ?_) (fun _ => ?_)
      · exact EJ_pick (lv2 := [(0, .ref 3), (1, .ref _), (2, .ref _), (3, .int _)]) [0, 1, 2, 3] rfl (e_Lw_law_J1588 hxs hnx k18 hk18 _ _ _ _)
      · refine EJ_iconst 1441 (dk_3 (bt bc_Lw_law_45 0 rfl)) rfl (v := 0) kI_0 ?_
        exact EJ_zret rfl (by decide) (dk_172 (bt bc_Lw_law_45 1 rfl))
    refine EJ_case 35 1442 ds_Lw_law_33 (by decide) rfl (by decide) (fun _ => ?_) (fun hc33_35 => ?_)
    · refine EJ_aload_n 1443 1 (dk_43 (bt bc_Lw_law_45 2 rfl)) rfl rfl ?_
      refine EJ_aload_n 1444 0 (dk_42 (bt bc_Lw_law_45 3 rfl)) rfl rfl ?_
      refine EJ_iload_n 1445 3 (dk_29 (bt bc_Lw_law_45 4 rfl)) rfl rfl ?_
      refine EJ_iconst 1446 (dk_4 (bt bc_Lw_law_45 5 rfl)) rfl (v := 1) kI_1 ?_
      refine EJ_iadd 1447 (dk_96 (bt bc_Lw_law_45 6 rfl)) rfl ?_
      refine EJ_ck (fun h365 => ?_)
      refine EJ_sld (Y := Y_Lw_law) hxs hnx 1448 h365 (dk_46 (bt bc_Lw_law_45 7 rfl)) rfl ?_
      refine EJ_aload_n 1449 0 (dk_42 (bt bc_Lw_law_45 8 rfl)) rfl rfl ?_
      refine EJ_iload_n 1450 3 (dk_29 (bt bc_Lw_law_45 9 rfl)) rfl rfl ?_
      refine EJ_iconst 1451 (dk_5 (bt bc_Lw_law_45 10 rfl)) rfl (v := 2) kI_2 ?_
      refine EJ_iadd 1452 (dk_96 (bt bc_Lw_law_45 11 rfl)) rfl ?_
      refine EJ_ck (fun h366 => ?_)
      refine EJ_sld (Y := Y_Lw_law) hxs hnx 1453 h366 (dk_46 (bt bc_Lw_law_45 12 rfl)) rfl ?_
      refine EJ_aload_n 1454 0 (dk_42 (bt bc_Lw_law_45 13 rfl)) rfl rfl ?_
      refine EJ_iload_n 1455 3 (dk_29 (bt bc_Lw_law_45 14 rfl)) rfl rfl ?_
      refine EJ_iconst 1456 (dk_6 (bt bc_Lw_law_45 15 rfl)) rfl (v := 3) kI_3 ?_
      refine EJ_iadd 1457 (dk_96 (bt bc_Lw_law_45 16 rfl)) rfl ?_
      refine EJ_ck (fun h367 => ?_)
      refine EJ_sld (Y := Y_Lw_law) hxs hnx 1458 h367 (dk_46 (bt bc_Lw_law_45 17 rfl)) rfl ?_
      refine EJ_ck (fun h368 => ?_)
      refine EJ_callVi (Y2 := Y_Hall_other) 1461 cf11 (s_Hall_other G _ _ _ _ _) (of_decide_eq_true h368) rfl (dk_182 (bt bc_Lw_law_45 18 rfl) (bt bc_Lw_law_45 19 rfl) (bt bc_Lw_law_45 20 rfl) (n := 167) rfl) rfl tw_1147 tw_1148 tw_1149 tw_1150 hd_Hall_other rfl (by decide) (Nat.le_of_ble_eq_true rfl) (fun r369 M370 => ?_)
      refine EJ_aload_n 1462 2 (dk_44 (bt bc_Lw_law_45 21 rfl)) rfl rfl ?_
      refine EJ_aload_n 1463 0 (dk_42 (bt bc_Lw_law_45 22 rfl)) rfl rfl ?_
      refine EJ_iload_n 1464 3 (dk_29 (bt bc_Lw_law_45 23 rfl)) rfl rfl ?_
      refine EJ_iconst 1465 (dk_4 (bt bc_Lw_law_45 24 rfl)) rfl (v := 1) kI_1 ?_
      refine EJ_iadd 1466 (dk_96 (bt bc_Lw_law_45 25 rfl)) rfl ?_
      refine EJ_ck (fun h371 => ?_)
      refine EJ_sld (Y := Y_Lw_law) hxs hnx 1467 h371 (dk_46 (bt bc_Lw_law_45 26 rfl)) rfl ?_
      refine EJ_aload_n 1468 0 (dk_42 (bt bc_Lw_law_45 27 rfl)) rfl rfl ?_
      refine EJ_iload_n 1469 3 (dk_29 (bt bc_Lw_law_45 28 rfl)) rfl rfl ?_
      refine EJ_iconst 1470 (dk_5 (bt bc_Lw_law_45 29 rfl)) rfl (v := 2) kI_2 ?_
      refine EJ_iadd 1471 (dk_96 (bt bc_Lw_law_45 30 rfl)) rfl ?_
      refine EJ_ck (fun h372 => ?_)
      refine EJ_sld (Y := Y_Lw_law) hxs hnx 1472 h372 (dk_46 (bt bc_Lw_law_45 31 rfl)) rfl ?_
      refine EJ_aload_n 1473 0 (dk_42 (bt bc_Lw_law_46 0 rfl)) rfl rfl ?_
      refine EJ_iload_n 1474 3 (dk_29 (bt bc_Lw_law_46 1 rfl)) rfl rfl ?_
      refine EJ_iconst 1475 (dk_6 (bt bc_Lw_law_46 2 rfl)) rfl (v := 3) kI_3 ?_
      refine EJ_iadd 1476 (dk_96 (bt bc_Lw_law_46 3 rfl)) rfl ?_
      refine EJ_ck (fun h373 => ?_)
      refine EJ_sld (Y := Y_Lw_law) hxs hnx 1477 h373 (dk_46 (bt bc_Lw_law_46 4 rfl)) rfl ?_
      refine EJ_ck (fun h374 => ?_)
      refine EJ_callVi (Y2 := Y_Mod_other) 1480 cf12 (s_Mod_other G _ _ _ _ _) (of_decide_eq_true h374) rfl (dk_182 (bt bc_Lw_law_46 5 rfl) (bt bc_Lw_law_46 6 rfl) (bt bc_Lw_law_46 7 rfl) (n := 170) rfl) rfl tw_1873 tw_1874 tw_1875 tw_1876 hd_Mod_other rfl (by decide) (Nat.le_of_ble_eq_true rfl) (fun r375 M376 => ?_)
      refine EJ_icmp_eq 1588 1483 (dk_159 (bt bc_Lw_law_46 8 rfl) (bt bc_Lw_law_46 9 rfl) (bt bc_Lw_law_46 10 rfl) (n := 108) rfl) (by decide) rfl (fun _ => ?_) (fun _ => ?_)
      · exact EJ_pick (lv2 := [(0, .ref 3), (1, .ref _), (2, .ref _), (3, .int _)]) [0, 1, 2, 3] rfl (e_Lw_law_J1588 hxs hnx k18 hk18 _ _ _ _)
      · refine EJ_iconst 1484 (dk_3 (bt bc_Lw_law_46 11 rfl)) rfl (v := 0) kI_0 ?_
        exact EJ_zret rfl (by decide) (dk_172 (bt bc_Lw_law_46 12 rfl))
    refine EJ_case 36 1485 ds_Lw_law_33 (by decide) rfl (by decide) (fun _ => ?_) (fun hc33_36 => ?_)
    · refine EJ_aload_n 1486 1 (dk_43 (bt bc_Lw_law_46 13 rfl)) rfl rfl ?_
      refine EJ_aload_n 1487 0 (dk_42 (bt bc_Lw_law_46 14 rfl)) rfl rfl ?_
      refine EJ_iload_n 1488 3 (dk_29 (bt bc_Lw_law_46 15 rfl)) rfl rfl ?_
      refine EJ_iconst 1489 (dk_4 (bt bc_Lw_law_46 16 rfl)) rfl (v := 1) kI_1 ?_
      refine EJ_iadd 1490 (dk_96 (bt bc_Lw_law_46 17 rfl)) rfl ?_
      refine EJ_ck (fun h377 => ?_)
      refine EJ_sld (Y := Y_Lw_law) hxs hnx 1491 h377 (dk_46 (bt bc_Lw_law_46 18 rfl)) rfl ?_
      refine EJ_ck (fun h378 => ?_)
      refine EJ_callVi (Y2 := Y_Hall_least) 1494 cf11 (s_Hall_least G _ _ _) (of_decide_eq_true h378) rfl (dk_182 (bt bc_Lw_law_46 19 rfl) (bt bc_Lw_law_46 20 rfl) (bt bc_Lw_law_46 21 rfl) (n := 171) rfl) rfl tw_1164 tw_1165 tw_1166 tw_1167 hd_Hall_least rfl (by decide) (Nat.le_of_ble_eq_true rfl) (fun r379 M380 => ?_)
      refine EJ_aload_n 1495 2 (dk_44 (bt bc_Lw_law_46 22 rfl)) rfl rfl ?_
      refine EJ_aload_n 1496 0 (dk_42 (bt bc_Lw_law_46 23 rfl)) rfl rfl ?_
      refine EJ_iload_n 1497 3 (dk_29 (bt bc_Lw_law_46 24 rfl)) rfl rfl ?_
      refine EJ_iconst 1498 (dk_4 (bt bc_Lw_law_46 25 rfl)) rfl (v := 1) kI_1 ?_
      refine EJ_iadd 1499 (dk_96 (bt bc_Lw_law_46 26 rfl)) rfl ?_
      refine EJ_ck (fun h381 => ?_)
      refine EJ_sld (Y := Y_Lw_law) hxs hnx 1500 h381 (dk_46 (bt bc_Lw_law_46 27 rfl)) rfl ?_
      refine EJ_ck (fun h382 => ?_)
      refine EJ_callVi (Y2 := Y_Mod_least) 1503 cf12 (s_Mod_least G _ _ _) (of_decide_eq_true h382) rfl (dk_182 (bt bc_Lw_law_46 28 rfl) (bt bc_Lw_law_46 29 rfl) (bt bc_Lw_law_46 30 rfl) (n := 174) rfl) rfl tw_1877 tw_1878 tw_1879 tw_1880 hd_Mod_least rfl (by decide) (Nat.le_of_ble_eq_true rfl) (fun r383 M384 => ?_)
      refine EJ_icmp_eq 1588 1506 (dk_159 (bt bc_Lw_law_46 31 rfl) (bt bc_Lw_law_47 0 rfl) (bt bc_Lw_law_47 1 rfl) (n := 85) rfl) (by decide) rfl (fun _ => ?_) (fun _ => ?_)
      · exact EJ_pick (lv2 := [(0, .ref 3), (1, .ref _), (2, .ref _), (3, .int _)]) [0, 1, 2, 3] rfl (e_Lw_law_J1588 hxs hnx k18 hk18 _ _ _ _)
      · refine EJ_iconst 1507 (dk_3 (bt bc_Lw_law_47 2 rfl)) rfl (v := 0) kI_0 ?_
        exact EJ_zret rfl (by decide) (dk_172 (bt bc_Lw_law_47 3 rfl))
    refine EJ_case 37 1508 ds_Lw_law_33 (by decide) rfl (by decide) (fun _ => ?_) (fun hc33_37 => ?_)
    · refine EJ_aload_n 1509 1 (dk_43 (bt bc_Lw_law_47 4 rfl)) rfl rfl ?_
      refine EJ_aload_n 1510 0 (dk_42 (bt bc_Lw_law_47 5 rfl)) rfl rfl ?_
      refine EJ_iload_n 1511 3 (dk_29 (bt bc_Lw_law_47 6 rfl)) rfl rfl ?_
      refine EJ_iconst 1512 (dk_4 (bt bc_Lw_law_47 7 rfl)) rfl (v := 1) kI_1 ?_
      refine EJ_iadd 1513 (dk_96 (bt bc_Lw_law_47 8 rfl)) rfl ?_
      refine EJ_ck (fun h385 => ?_)
      refine EJ_sld (Y := Y_Lw_law) hxs hnx 1514 h385 (dk_46 (bt bc_Lw_law_47 9 rfl)) rfl ?_
      refine EJ_aload_n 1515 0 (dk_42 (bt bc_Lw_law_47 10 rfl)) rfl rfl ?_
      refine EJ_iload_n 1516 3 (dk_29 (bt bc_Lw_law_47 11 rfl)) rfl rfl ?_
      refine EJ_iconst 1517 (dk_5 (bt bc_Lw_law_47 12 rfl)) rfl (v := 2) kI_2 ?_
      refine EJ_iadd 1518 (dk_96 (bt bc_Lw_law_47 13 rfl)) rfl ?_
      refine EJ_ck (fun h386 => ?_)
      refine EJ_sld (Y := Y_Lw_law) hxs hnx 1519 h386 (dk_46 (bt bc_Lw_law_47 14 rfl)) rfl ?_
      refine EJ_ck (fun h387 => ?_)
      refine EJ_callVi (Y2 := Y_Hall_judged) 1522 cf11 (s_Hall_judged G _ _ _ _) (of_decide_eq_true h387) rfl (dk_182 (bt bc_Lw_law_47 15 rfl) (bt bc_Lw_law_47 16 rfl) (bt bc_Lw_law_47 17 rfl) (n := 175) rfl) rfl tw_1175 tw_1176 tw_1177 tw_1178 hd_Hall_judged rfl (by decide) (Nat.le_of_ble_eq_true rfl) (fun r388 M389 => ?_)
      refine EJ_aload_n 1523 2 (dk_44 (bt bc_Lw_law_47 18 rfl)) rfl rfl ?_
      refine EJ_aload_n 1524 0 (dk_42 (bt bc_Lw_law_47 19 rfl)) rfl rfl ?_
      refine EJ_iload_n 1525 3 (dk_29 (bt bc_Lw_law_47 20 rfl)) rfl rfl ?_
      refine EJ_iconst 1526 (dk_4 (bt bc_Lw_law_47 21 rfl)) rfl (v := 1) kI_1 ?_
      refine EJ_iadd 1527 (dk_96 (bt bc_Lw_law_47 22 rfl)) rfl ?_
      refine EJ_ck (fun h390 => ?_)
      refine EJ_sld (Y := Y_Lw_law) hxs hnx 1528 h390 (dk_46 (bt bc_Lw_law_47 23 rfl)) rfl ?_
      refine EJ_aload_n 1529 0 (dk_42 (bt bc_Lw_law_47 24 rfl)) rfl rfl ?_
      refine EJ_iload_n 1530 3 (dk_29 (bt bc_Lw_law_47 25 rfl)) rfl rfl ?_
      refine EJ_iconst 1531 (dk_5 (bt bc_Lw_law_47 26 rfl)) rfl (v := 2) kI_2 ?_
      refine EJ_iadd 1532 (dk_96 (bt bc_Lw_law_47 27 rfl)) rfl ?_
      refine EJ_ck (fun h391 => ?_)
      refine EJ_sld (Y := Y_Lw_law) hxs hnx 1533 h391 (dk_46 (bt bc_Lw_law_47 28 rfl)) rfl ?_
      refine EJ_ck (fun h392 => ?_)
      refine EJ_callVi (Y2 := Y_Mod_judged) 1536 cf12 (s_Mod_judged G _ _ _ _) (of_decide_eq_true h392) rfl (dk_182 (bt bc_Lw_law_47 29 rfl) (bt bc_Lw_law_47 30 rfl) (bt bc_Lw_law_47 31 rfl) (n := 178) rfl) rfl tw_1881 tw_1882 tw_1883 tw_1884 hd_Mod_judged rfl (by decide) (Nat.le_of_ble_eq_true rfl) (fun r393 M394 => ?_)
      refine EJ_icmp_eq 1588 1539 (dk_159 (bt bc_Lw_law_48 0 rfl) (bt bc_Lw_law_48 1 rfl) (bt bc_Lw_law_48 2 rfl) (n := 52) rfl) (by decide) rfl (fun _ => ?_) (fun _ => ?_)
      · exact EJ_pick (lv2 := [(0, .ref 3), (1, .ref _), (2, .ref _), (3, .int _)]) [0, 1, 2, 3] rfl (e_Lw_law_J1588 hxs hnx k18 hk18 _ _ _ _)
      · refine EJ_iconst 1540 (dk_3 (bt bc_Lw_law_48 3 rfl)) rfl (v := 0) kI_0 ?_
        exact EJ_zret rfl (by decide) (dk_172 (bt bc_Lw_law_48 4 rfl))
    refine EJ_case 38 1541 ds_Lw_law_33 (by decide) rfl (by decide) (fun _ => ?_) (fun hc33_38 => ?_)
    · refine EJ_aload_n 1542 1 (dk_43 (bt bc_Lw_law_48 5 rfl)) rfl rfl ?_
      refine EJ_aload_n 1543 0 (dk_42 (bt bc_Lw_law_48 6 rfl)) rfl rfl ?_
      refine EJ_iload_n 1544 3 (dk_29 (bt bc_Lw_law_48 7 rfl)) rfl rfl ?_
      refine EJ_iconst 1545 (dk_4 (bt bc_Lw_law_48 8 rfl)) rfl (v := 1) kI_1 ?_
      refine EJ_iadd 1546 (dk_96 (bt bc_Lw_law_48 9 rfl)) rfl ?_
      refine EJ_ck (fun h395 => ?_)
      refine EJ_sld (Y := Y_Lw_law) hxs hnx 1547 h395 (dk_46 (bt bc_Lw_law_48 10 rfl)) rfl ?_
      refine EJ_ck (fun h396 => ?_)
      refine EJ_callVi (Y2 := Y_Hall_count) 1550 cf11 (s_Hall_count G _ _ _) (of_decide_eq_true h396) rfl (dk_182 (bt bc_Lw_law_48 11 rfl) (bt bc_Lw_law_48 12 rfl) (bt bc_Lw_law_48 13 rfl) (n := 179) rfl) rfl tw_1179 tw_1180 tw_1181 tw_1182 hd_Hall_count rfl (by decide) (Nat.le_of_ble_eq_true rfl) (fun r397 M398 => ?_)
      refine EJ_aload_n 1551 2 (dk_44 (bt bc_Lw_law_48 14 rfl)) rfl rfl ?_
      refine EJ_aload_n 1552 0 (dk_42 (bt bc_Lw_law_48 15 rfl)) rfl rfl ?_
      refine EJ_iload_n 1553 3 (dk_29 (bt bc_Lw_law_48 16 rfl)) rfl rfl ?_
      refine EJ_iconst 1554 (dk_4 (bt bc_Lw_law_48 17 rfl)) rfl (v := 1) kI_1 ?_
      refine EJ_iadd 1555 (dk_96 (bt bc_Lw_law_48 18 rfl)) rfl ?_
      refine EJ_ck (fun h399 => ?_)
      refine EJ_sld (Y := Y_Lw_law) hxs hnx 1556 h399 (dk_46 (bt bc_Lw_law_48 19 rfl)) rfl ?_
      refine EJ_ck (fun h400 => ?_)
      refine EJ_callVi (Y2 := Y_Mod_count) 1559 cf12 (s_Mod_count G _ _ _) (of_decide_eq_true h400) rfl (dk_182 (bt bc_Lw_law_48 20 rfl) (bt bc_Lw_law_48 21 rfl) (bt bc_Lw_law_48 22 rfl) (n := 182) rfl) rfl tw_1885 tw_1886 tw_1887 tw_1888 hd_Mod_count rfl (by decide) (Nat.le_of_ble_eq_true rfl) (fun r401 M402 => ?_)
      refine EJ_icmp_eq 1588 1562 (dk_159 (bt bc_Lw_law_48 23 rfl) (bt bc_Lw_law_48 24 rfl) (bt bc_Lw_law_48 25 rfl) (n := 29) rfl) (by decide) rfl (fun _ => ?_) (fun _ => ?_)
      · exact EJ_pick (lv2 := [(0, .ref 3), (1, .ref _), (2, .ref _), (3, .int _)]) [0, 1, 2, 3] rfl (e_Lw_law_J1588 hxs hnx k18 hk18 _ _ _ _)
      · refine EJ_iconst 1563 (dk_3 (bt bc_Lw_law_48 26 rfl)) rfl (v := 0) kI_0 ?_
        exact EJ_zret rfl (by decide) (dk_172 (bt bc_Lw_law_48 27 rfl))
    refine EJ_case 39 1564 ds_Lw_law_33 (by decide) rfl (by decide) (fun _ => ?_) (fun hc33_39 => ?_)
    · refine EJ_aload_n 1565 1 (dk_43 (bt bc_Lw_law_48 28 rfl)) rfl rfl ?_
      refine EJ_aload_n 1566 0 (dk_42 (bt bc_Lw_law_48 29 rfl)) rfl rfl ?_
      refine EJ_iload_n 1567 3 (dk_29 (bt bc_Lw_law_48 30 rfl)) rfl rfl ?_
      refine EJ_iconst 1568 (dk_4 (bt bc_Lw_law_48 31 rfl)) rfl (v := 1) kI_1 ?_
      refine EJ_iadd 1569 (dk_96 (bt bc_Lw_law_49 0 rfl)) rfl ?_
      refine EJ_ck (fun h403 => ?_)
      refine EJ_sld (Y := Y_Lw_law) hxs hnx 1570 h403 (dk_46 (bt bc_Lw_law_49 1 rfl)) rfl ?_
      refine EJ_ck (fun h404 => ?_)
      refine EJ_callVl (Y2 := Y_Hall_sum) 1573 cf11 (s_Hall_sum G _ _ _) (of_decide_eq_true h404) rfl (dk_182 (bt bc_Lw_law_49 2 rfl) (bt bc_Lw_law_49 3 rfl) (bt bc_Lw_law_49 4 rfl) (n := 183) rfl) rfl tw_1183 tw_1184 tw_1185 tw_1186 hd_Hall_sum rfl (by decide) (Nat.le_of_ble_eq_true rfl) (fun r405 M406 => ?_)
      refine EJ_aload_n 1574 2 (dk_44 (bt bc_Lw_law_49 5 rfl)) rfl rfl ?_
      refine EJ_aload_n 1575 0 (dk_42 (bt bc_Lw_law_49 6 rfl)) rfl rfl ?_
      refine EJ_iload_n 1576 3 (dk_29 (bt bc_Lw_law_49 7 rfl)) rfl rfl ?_
      refine EJ_iconst 1577 (dk_4 (bt bc_Lw_law_49 8 rfl)) rfl (v := 1) kI_1 ?_
      refine EJ_iadd 1578 (dk_96 (bt bc_Lw_law_49 9 rfl)) rfl ?_
      refine EJ_ck (fun h407 => ?_)
      refine EJ_sld (Y := Y_Lw_law) hxs hnx 1579 h407 (dk_46 (bt bc_Lw_law_49 10 rfl)) rfl ?_
      refine EJ_ck (fun h408 => ?_)
      refine EJ_callVl (Y2 := Y_Mod_sum) 1582 cf12 (s_Mod_sum G _ _ _) (of_decide_eq_true h408) rfl (dk_182 (bt bc_Lw_law_49 11 rfl) (bt bc_Lw_law_49 12 rfl) (bt bc_Lw_law_49 13 rfl) (n := 186) rfl) rfl tw_1889 tw_1890 tw_1891 tw_1892 hd_Mod_sum rfl (by decide) (Nat.le_of_ble_eq_true rfl) (fun r409 M410 => ?_)
      refine EJ_lcmp_eq 1588 1586 (dk_148 (bt bc_Lw_law_49 14 rfl)) (dk_153 (bt bc_Lw_law_49 15 rfl) (bt bc_Lw_law_49 16 rfl) (bt bc_Lw_law_49 17 rfl) (n := 5) rfl) (by decide) rfl (fun _ => ?_) (fun _ => ?_)
      · exact EJ_pick (lv2 := [(0, .ref 3), (1, .ref _), (2, .ref _), (3, .int _)]) [0, 1, 2, 3] rfl (e_Lw_law_J1588 hxs hnx k18 hk18 _ _ _ _)
      · refine EJ_iconst 1587 (dk_3 (bt bc_Lw_law_49 18 rfl)) rfl (v := 0) kI_0 ?_
        exact EJ_zret rfl (by decide) (dk_172 (bt bc_Lw_law_49 19 rfl))
    refine EJ_tabOut 1588 ds_Lw_law_33 (tabOut (fun k k1 k2 => by
        rcases (show k = 0 ∨ k = 1 ∨ k = 2 ∨ k = 3 ∨ k = 4 ∨ k = 5 ∨ k = 6 ∨ k = 7 ∨ k = 8 ∨ k = 9 ∨ k = 10 ∨ k = 11 ∨ k = 12 ∨ k = 13 ∨ k = 14 ∨ k = 15 ∨ k = 16 ∨ k = 17 ∨ k = 18 ∨ k = 19 ∨ k = 20 ∨ k = 21 ∨ k = 22 ∨ k = 23 ∨ k = 24 ∨ k = 25 ∨ k = 26 ∨ k = 27 ∨ k = 28 ∨ k = 29 ∨ k = 30 ∨ k = 31 ∨ k = 32 ∨ k = 33 ∨ k = 34 ∨ k = 35 ∨ k = 36 ∨ k = 37 ∨ k = 38 ∨ k = 39 by omega) with rfl | rfl | rfl | rfl | rfl | rfl | rfl | rfl | rfl | rfl | rfl | rfl | rfl | rfl | rfl | rfl | rfl | rfl | rfl | rfl | rfl | rfl | rfl | rfl | rfl | rfl | rfl | rfl | rfl | rfl | rfl | rfl | rfl | rfl | rfl | rfl | rfl | rfl | rfl | rfl
        · exact hc33_0
        · exact hc33_1
        · exact hc33_2
        · exact hc33_3
        · exact hc33_4
        · exact hc33_5
        · exact hc33_6
        · exact hc33_7
        · exact hc33_8
        · exact hc33_9
        · exact hc33_10
        · exact hc33_11
        · exact hc33_12
        · exact hc33_13
        · exact hc33_14
        · exact hc33_15
        · exact hc33_16
        · exact hc33_17
        · exact hc33_18
        · exact hc33_19
        · exact hc33_20
        · exact hc33_21
        · exact hc33_22
        · exact hc33_23
        · exact hc33_24
        · exact hc33_25
        · exact hc33_26
        · exact hc33_27
        · exact hc33_28
        · exact hc33_29
        · exact hc33_30
        · exact hc33_31
        · exact hc33_32
        · exact hc33_33
        · exact hc33_34
        · exact hc33_35
        · exact hc33_36
        · exact hc33_37
        · exact hc33_38
        · exact hc33_39)) (by decide) ?_
    exact EJ_pick (lv2 := [(0, .ref 3), (1, .ref _), (2, .ref _), (3, .int _)]) [0, 1, 2, 3] rfl (e_Lw_law_J1588 hxs hnx k18 hk18 _ _ _ _)
def Lw_law_L18 (xs : Nat → Int32) (nx : Nat) (n : Nat) : Nat → Nat → Int32 → Mm → Option (Int32 × Mm) :=
  match n with
  | 0 => fun _ _ _ _ => none
  | n + 1 => Lw_law_B18 xs nx (Lw_law_L18 xs nx n)
theorem e_Lw_law_L18 {G : Gx} {xs : Nat → Int32} {nx : Nat} (hxs : gS G = xs) (hnx : gN G = nx) : ∀ (n : Nat) (x1 : Nat) (x2 : Nat) (x3 : Int32) (M : Mm), EJ G Y_Lw_law cvI 50 18 [(0, .ref 3), (1, .ref x1), (2, .ref x2), (3, .int x3)] [] M (Lw_law_L18 xs nx n x1 x2 x3 M) := by
  intro n
  induction n with
  | zero => intros; exact EJ_none
  | succ n ih => intro x1 x2 x3 M; exact e_Lw_law_B18 hxs hnx _ ih x1 x2 x3 M
def Lw_law (xs : Nat → Int32) (nx : Nat) (M : Mm) : Option (Int32 × Mm) :=
  let M1 := nw M 11 18
  bd (Hall_new M1 (mZ M)) (fun _ M3 =>
  let M4 := nw M3 12 107
  bd (Mod_new M4 (mZ M3)) (fun _ M6 =>
  Lw_law_L18 xs nx fu (mZ M) (mZ M3) 0 M6))
set_option maxRecDepth 100000 in
set_option maxHeartbeats 4000000 in
theorem e_Lw_law {G : Gx} {xs : Nat → Int32} {nx : Nat} (hxs : gS G = xs) (hnx : gN G = nx) (M : Mm) : EJ G Y_Lw_law cvI 50 0 [(0, .ref 3)] [] M (Lw_law xs nx M) := by
  unfold Lw_law
  refine EJ_new cf11 3 tw_21 (dk_187 (bt bc_Lw_law_0 0 rfl) (bt bc_Lw_law_0 1 rfl) (bt bc_Lw_law_0 2 rfl) (n := 7) rfl) rfl ?_
  refine EJ_dup 4 (dk_89 (bt bc_Lw_law_0 3 rfl)) rfl rfl ?_
  refine EJ_callIv (Y2 := Y_Hall_new) 7 (s_Hall_new G _ _) rfl (dk_183 (bt bc_Lw_law_0 4 rfl) (bt bc_Lw_law_0 5 rfl) (bt bc_Lw_law_0 6 rfl) (n := 9) rfl) rfl rfl tw_23 tw_24 tw_1 tw_25 rfl hd_Hall_new rfl (by decide) (Nat.le_of_ble_eq_true rfl) (fun _ M3 => ?_)
  refine EJ_astore_n 8 (lv2 := [(1, .ref _), (0, .ref _)]) (dk_76 (bt bc_Lw_law_0 7 rfl)) rfl (by decide) rfl ?_
  refine EJ_new cf12 11 tw_1192 (dk_187 (bt bc_Lw_law_0 8 rfl) (bt bc_Lw_law_0 9 rfl) (bt bc_Lw_law_0 10 rfl) (n := 10) rfl) rfl ?_
  refine EJ_dup 12 (dk_89 (bt bc_Lw_law_0 11 rfl)) rfl rfl ?_
  refine EJ_callIv (Y2 := Y_Mod_new) 15 (s_Mod_new G _ _) rfl (dk_183 (bt bc_Lw_law_0 12 rfl) (bt bc_Lw_law_0 13 rfl) (bt bc_Lw_law_0 14 rfl) (n := 12) rfl) rfl rfl tw_1194 tw_1195 tw_8 tw_1196 rfl hd_Mod_new rfl (by decide) (Nat.le_of_ble_eq_true rfl) (fun _ M6 => ?_)
  refine EJ_astore_n 16 (lv2 := [(2, .ref _), (1, .ref _), (0, .ref _)]) (dk_77 (bt bc_Lw_law_0 15 rfl)) rfl (by decide) rfl ?_
  refine EJ_iconst 17 (dk_3 (bt bc_Lw_law_0 16 rfl)) rfl (v := 0) kI_0 ?_
  refine EJ_istore_n 18 (lv2 := [(3, .int _), (2, .ref _), (1, .ref _), (0, .ref _)]) (dk_62 (bt bc_Lw_law_0 17 rfl)) rfl (by decide) rfl ?_
  exact EJ_pick (lv2 := [(0, .ref 3), (1, .ref _), (2, .ref _), (3, .int _)]) [3, 2, 1, 0] rfl (e_Lw_law_L18 hxs hnx fu _ _ _ _)
