abbrev Y_Mod_new : Ym := (⟨"RiceHallModel", "<init>", "()V"⟩, prog_14_method_1_code, 2, none)
theorem bc_Mod_new_0 : bts prog_14_method_1_code 0 [42, 183, 0, 1, 42, 4, 181, 0, 7, 42, 16, 10, 188, 10, 181, 0, 13, 42, 16, 10, 188, 10, 181, 0, 17, 42, 16, 100, 188, 10, 181, 0] := bts_of (by decide +kernel)
theorem bc_Mod_new_1 : bts prog_14_method_1_code 32 [20, 42, 16, 100, 188, 10, 181, 0, 23, 42, 16, 10, 188, 10, 181, 0, 26, 42, 16, 10, 188, 4, 181, 0, 29, 42, 16, 16, 188, 10, 181, 0] := bts_of (by decide +kernel)
theorem bc_Mod_new_2 : bts prog_14_method_1_code 64 [33, 42, 16, 16, 188, 10, 181, 0, 36, 42, 16, 16, 188, 10, 181, 0, 39, 42, 16, 16, 188, 10, 181, 0, 42, 42, 16, 16, 188, 10, 181, 0] := bts_of (by decide +kernel)
theorem bc_Mod_new_3 : bts prog_14_method_1_code 96 [45, 42, 16, 16, 188, 10, 181, 0, 48, 42, 16, 16, 188, 11, 181, 0, 51, 42, 16, 64, 188, 10, 181, 0, 55, 42, 7, 188, 10, 181, 0, 58] := bts_of (by decide +kernel)
theorem bc_Mod_new_4 : bts prog_14_method_1_code 128 [42, 7, 188, 10, 181, 0, 61, 42, 7, 188, 10, 181, 0, 64, 42, 7, 188, 10, 181, 0, 67, 42, 7, 188, 10, 181, 0, 70, 42, 16, 60, 188] := bts_of (by decide +kernel)
theorem bc_Mod_new_5 : bts prog_14_method_1_code 160 [10, 181, 0, 73, 42, 16, 60, 188, 10, 181, 0, 76, 42, 16, 60, 188, 10, 181, 0, 79, 42, 16, 60, 188, 10, 181, 0, 82, 42, 16, 60, 188] := bts_of (by decide +kernel)
theorem bc_Mod_new_6 : bts prog_14_method_1_code 192 [10, 181, 0, 85, 42, 16, 60, 188, 10, 181, 0, 88, 42, 16, 60, 188, 10, 181, 0, 91, 42, 16, 8, 188, 10, 181, 0, 94, 42, 16, 8, 188] := bts_of (by decide +kernel)
theorem bc_Mod_new_7 : bts prog_14_method_1_code 224 [10, 181, 0, 97, 42, 16, 8, 188, 10, 181, 0, 100, 42, 17, 0, 200, 188, 10, 181, 0, 103, 42, 17, 0, 200, 188, 10, 181, 0, 106, 42, 17] := bts_of (by decide +kernel)
theorem bc_Mod_new_8 : bts prog_14_method_1_code 256 [0, 200, 188, 10, 181, 0, 109, 42, 17, 0, 200, 188, 10, 181, 0, 112, 42, 17, 0, 200, 188, 10, 181, 0, 115, 42, 17, 8, 52, 188, 10, 181] := bts_of (by decide +kernel)
theorem bc_Mod_new_9 : bts prog_14_method_1_code 288 [0, 118, 42, 17, 8, 52, 188, 10, 181, 0, 121, 42, 17, 8, 52, 188, 10, 181, 0, 124, 42, 17, 8, 52, 188, 10, 181, 0, 127, 42, 17, 8] := bts_of (by decide +kernel)
theorem bc_Mod_new_10 : bts prog_14_method_1_code 320 [52, 188, 4, 181, 0, 130, 42, 17, 1, 244, 188, 8, 181, 0, 133, 42, 2, 181, 0, 137, 42, 16, 100, 188, 10, 181, 0, 140, 42, 16, 100, 188] := bts_of (by decide +kernel)
theorem bc_Mod_new_11 : bts prog_14_method_1_code 352 [10, 181, 0, 143, 42, 16, 100, 188, 10, 181, 0, 146, 42, 16, 24, 188, 10, 181, 0, 149, 42, 16, 24, 188, 10, 181, 0, 152, 42, 16, 24, 188] := bts_of (by decide +kernel)
theorem bc_Mod_new_12 : bts prog_14_method_1_code 384 [10, 181, 0, 155, 42, 16, 24, 188, 10, 181, 0, 158, 42, 16, 24, 188, 10, 181, 0, 161, 42, 16, 24, 188, 10, 181, 0, 164, 42, 16, 24, 188] := bts_of (by decide +kernel)
theorem bc_Mod_new_13 : bts prog_14_method_1_code 416 [10, 181, 0, 167, 42, 16, 24, 188, 10, 181, 0, 170, 42, 16, 24, 188, 10, 181, 0, 173, 42, 17, 5, 160, 188, 10, 181, 0, 176, 42, 17, 5] := bts_of (by decide +kernel)
theorem bc_Mod_new_14 : bts prog_14_method_1_code 448 [160, 188, 10, 181, 0, 179, 42, 17, 5, 160, 188, 10, 181, 0, 182, 42, 17, 5, 160, 188, 10, 181, 0, 185, 42, 17, 11, 64, 188, 10, 181, 0] := bts_of (by decide +kernel)
theorem bc_Mod_new_15 : bts prog_14_method_1_code 480 [188, 42, 17, 5, 160, 188, 4, 181, 0, 191, 42, 17, 5, 160, 188, 10, 181, 0, 194, 42, 17, 5, 160, 188, 10, 181, 0, 197, 42, 17, 5, 160] := bts_of (by decide +kernel)
theorem bc_Mod_new_16 : bts prog_14_method_1_code 512 [188, 10, 181, 0, 200, 42, 17, 5, 160, 188, 10, 181, 0, 203, 42, 17, 5, 160, 188, 10, 181, 0, 206, 42, 17, 5, 160, 188, 10, 181, 0, 209] := bts_of (by decide +kernel)
theorem bc_Mod_new_17 : bts prog_14_method_1_code 544 [42, 17, 5, 160, 188, 10, 181, 0, 212, 42, 17, 5, 160, 188, 10, 181, 0, 215, 42, 17, 5, 160, 188, 10, 181, 0, 218, 42, 17, 11, 64, 188] := bts_of (by decide +kernel)
theorem bc_Mod_new_18 : bts prog_14_method_1_code 576 [10, 181, 0, 221, 42, 17, 11, 64, 188, 10, 181, 0, 224, 42, 16, 60, 188, 10, 181, 0, 227, 42, 16, 16, 188, 11, 181, 0, 230, 42, 16, 16] := bts_of (by decide +kernel)
theorem bc_Mod_new_19 : bts prog_14_method_1_code 608 [188, 11, 181, 0, 233, 42, 17, 1, 0, 188, 10, 181, 0, 236, 42, 16, 16, 188, 10, 181, 0, 239, 42, 16, 16, 188, 10, 181, 0, 242, 42, 16] := bts_of (by decide +kernel)
theorem bc_Mod_new_20 : bts prog_14_method_1_code 640 [60, 188, 10, 181, 0, 245, 3, 60, 27, 16, 10, 162, 0, 16, 42, 180, 0, 13, 27, 2, 79, 132, 1, 1, 167, 255, 240, 177] := bts_of (by decide +kernel)
theorem hd_Mod_new : Y_Mod_new.1.cls ≠ "java/lang/invoke/MethodHandle" ∧ Y_Mod_new.1.cls ≠ "java/lang/invoke/VarHandle" ∧ (parseMethodDescriptor Y_Mod_new.1.desc).map (fun d => d.parameters.length) = some 0 := by decide +kernel
def Mod_new_B648 (k648 : Nat → Int32 → Mm → Option (Unit × Mm)) (x0 : Nat) (x1 : Int32) (M : Mm) : Option (Unit × Mm) :=
  if 10 ≤ x1 then (
    some ((), M))
  else (
    ck (kO M x0 12 107) (
    nn (mR M x0 3) (fun b233 =>
    ck (kA M b233 20 x1) (
    let M235 := sI M b233 (ix x1) (-1)
    let v236 : Int32 := x1 + 1
    k648 x0 v236 M235))))
set_option maxRecDepth 100000 in
set_option maxHeartbeats 4000000 in
theorem e_Mod_new_B648 {G : Gx} (k648 : Nat → Int32 → Mm → Option (Unit × Mm)) (hk648 : ∀ (x0 : Nat) (x1 : Int32) (M : Mm), EJ G Y_Mod_new cvV 1 648 [(0, .ref x0), (1, .int x1)] [] M (k648 x0 x1 M)) (x0 : Nat) (x1 : Int32) (M : Mm) : EJ G Y_Mod_new cvV 1 648 [(0, .ref x0), (1, .int x1)] [] M (Mod_new_B648 k648 x0 x1 M) := by
  unfold Mod_new_B648
  refine EJ_iload_n 649 1 (dk_27 (bt bc_Mod_new_20 8 rfl)) rfl rfl ?_
  refine EJ_bipush 651 (dk_16 (bt bc_Mod_new_20 9 rfl) (bt bc_Mod_new_20 10 rfl) (n := 10) rfl) rfl (v := 10) kB_10 ?_
  refine EJ_icmp_ge 667 654 (dk_162 (bt bc_Mod_new_20 11 rfl) (bt bc_Mod_new_20 12 rfl) (bt bc_Mod_new_20 13 rfl) (n := 16) rfl) (by decide) rfl (fun _ => ?_) (fun _ => ?_)
  · exact EJ_vret rfl (dk_177 (bt bc_Mod_new_20 27 rfl))
  · refine EJ_aload_n 655 0 (dk_42 (bt bc_Mod_new_20 14 rfl)) rfl rfl ?_
    refine EJ_ck (fun h232 => ?_)
    refine EJ_getR cf12 3 (by decide) 658 tw_1201 (fun _ _ _ => rfl) (dk_180 (bt bc_Mod_new_20 15 rfl) (bt bc_Mod_new_20 16 rfl) (bt bc_Mod_new_20 17 rfl) (n := 13) rfl) rfl (of_decide_eq_true h232) (fun b233 => ?_)
    refine EJ_iload_n 659 1 (dk_27 (bt bc_Mod_new_20 18 rfl)) rfl rfl ?_
    refine EJ_iconst 660 (dk_2 (bt bc_Mod_new_20 19 rfl)) rfl (v := (-1)) kI_m1 ?_
    refine EJ_ck (fun h234 => ?_)
    refine EJ_iast 661 h234 (dk_79 (bt bc_Mod_new_20 20 rfl)) rfl ?_
    refine EJ_iinc 664 1 (lv2 := [(1, .int _), (0, .ref _)]) (dk_132 (bt bc_Mod_new_20 21 rfl) (bt bc_Mod_new_20 22 rfl) (bt bc_Mod_new_20 23 rfl) (n := 1) rfl) rfl (by decide) rfl (v := 1) kI_1 rfl ?_
    refine EJ_goto 648 (dk_167 (bt bc_Mod_new_20 24 rfl) (bt bc_Mod_new_20 25 rfl) (bt bc_Mod_new_20 26 rfl) (n := -16) rfl) (by decide) ?_
    exact EJ_pick (lv2 := [(0, .ref _), (1, .int _)]) [1, 0] rfl (hk648 _ _ _)
def Mod_new_L648 (n : Nat) : Nat → Int32 → Mm → Option (Unit × Mm) :=
  match n with
  | 0 => fun _ _ _ => none
  | n + 1 => Mod_new_B648 (Mod_new_L648 n)
theorem e_Mod_new_L648 {G : Gx} : ∀ (n : Nat) (x0 : Nat) (x1 : Int32) (M : Mm), EJ G Y_Mod_new cvV 1 648 [(0, .ref x0), (1, .int x1)] [] M (Mod_new_L648 n x0 x1 M) := by
  intro n
  induction n with
  | zero => intros; exact EJ_none
  | succ n ih => intro x0 x1 M; exact e_Mod_new_B648 _ ih x0 x1 M
def Mod_new (M : Mm) (a0 : Nat) : Option (Unit × Mm) :=
  ck (kO M a0 12 107) (
  let M2 := sI M a0 2 1
  let M3 := nw M2 20 10
  ck (kO M3 a0 12 107) (
  let M5 := sR M3 a0 3 (some (mZ M2))
  let M6 := nw M5 20 10
  ck (kO M6 a0 12 107) (
  let M8 := sR M6 a0 4 (some (mZ M5))
  let M9 := nw M8 20 100
  ck (kO M9 a0 12 107) (
  let M11 := sR M9 a0 5 (some (mZ M8))
  let M12 := nw M11 20 100
  ck (kO M12 a0 12 107) (
  let M14 := sR M12 a0 6 (some (mZ M11))
  let M15 := nw M14 20 10
  ck (kO M15 a0 12 107) (
  let M17 := sR M15 a0 7 (some (mZ M14))
  let M18 := nw M17 22 10
  ck (kO M18 a0 12 107) (
  let M20 := sR M18 a0 8 (some (mZ M17))
  let M21 := nw M20 20 16
  ck (kO M21 a0 12 107) (
  let M23 := sR M21 a0 10 (some (mZ M20))
  let M24 := nw M23 20 16
  ck (kO M24 a0 12 107) (
  let M26 := sR M24 a0 11 (some (mZ M23))
  let M27 := nw M26 20 16
  ck (kO M27 a0 12 107) (
  let M29 := sR M27 a0 12 (some (mZ M26))
  let M30 := nw M29 20 16
  ck (kO M30 a0 12 107) (
  let M32 := sR M30 a0 13 (some (mZ M29))
  let M33 := nw M32 20 16
  ck (kO M33 a0 12 107) (
  let M35 := sR M33 a0 14 (some (mZ M32))
  let M36 := nw M35 20 16
  ck (kO M36 a0 12 107) (
  let M38 := sR M36 a0 15 (some (mZ M35))
  let M39 := nw M38 23 16
  ck (kO M39 a0 12 107) (
  let M41 := sR M39 a0 16 (some (mZ M38))
  let M42 := nw M41 20 64
  ck (kO M42 a0 12 107) (
  let M44 := sR M42 a0 17 (some (mZ M41))
  let M45 := nw M44 20 4
  ck (kO M45 a0 12 107) (
  let M47 := sR M45 a0 25 (some (mZ M44))
  let M48 := nw M47 20 4
  ck (kO M48 a0 12 107) (
  let M50 := sR M48 a0 26 (some (mZ M47))
  let M51 := nw M50 20 4
  ck (kO M51 a0 12 107) (
  let M53 := sR M51 a0 27 (some (mZ M50))
  let M54 := nw M53 20 4
  ck (kO M54 a0 12 107) (
  let M56 := sR M54 a0 28 (some (mZ M53))
  let M57 := nw M56 20 4
  ck (kO M57 a0 12 107) (
  let M59 := sR M57 a0 29 (some (mZ M56))
  let M60 := nw M59 20 60
  ck (kO M60 a0 12 107) (
  let M62 := sR M60 a0 30 (some (mZ M59))
  let M63 := nw M62 20 60
  ck (kO M63 a0 12 107) (
  let M65 := sR M63 a0 31 (some (mZ M62))
  let M66 := nw M65 20 60
  ck (kO M66 a0 12 107) (
  let M68 := sR M66 a0 32 (some (mZ M65))
  let M69 := nw M68 20 60
  ck (kO M69 a0 12 107) (
  let M71 := sR M69 a0 33 (some (mZ M68))
  let M72 := nw M71 20 60
  ck (kO M72 a0 12 107) (
  let M74 := sR M72 a0 34 (some (mZ M71))
  let M75 := nw M74 20 60
  ck (kO M75 a0 12 107) (
  let M77 := sR M75 a0 35 (some (mZ M74))
  let M78 := nw M77 20 60
  ck (kO M78 a0 12 107) (
  let M80 := sR M78 a0 36 (some (mZ M77))
  let M81 := nw M80 20 8
  ck (kO M81 a0 12 107) (
  let M83 := sR M81 a0 38 (some (mZ M80))
  let M84 := nw M83 20 8
  ck (kO M84 a0 12 107) (
  let M86 := sR M84 a0 39 (some (mZ M83))
  let M87 := nw M86 20 8
  ck (kO M87 a0 12 107) (
  let M89 := sR M87 a0 40 (some (mZ M86))
  let M90 := nw M89 20 200
  ck (kO M90 a0 12 107) (
  let M92 := sR M90 a0 41 (some (mZ M89))
  let M93 := nw M92 20 200
  ck (kO M93 a0 12 107) (
  let M95 := sR M93 a0 42 (some (mZ M92))
  let M96 := nw M95 20 200
  ck (kO M96 a0 12 107) (
  let M98 := sR M96 a0 43 (some (mZ M95))
  let M99 := nw M98 20 200
  ck (kO M99 a0 12 107) (
  let M101 := sR M99 a0 44 (some (mZ M98))
  let M102 := nw M101 20 200
  ck (kO M102 a0 12 107) (
  let M104 := sR M102 a0 45 (some (mZ M101))
  let M105 := nw M104 20 2100
  ck (kO M105 a0 12 107) (
  let M107 := sR M105 a0 47 (some (mZ M104))
  let M108 := nw M107 20 2100
  ck (kO M108 a0 12 107) (
  let M110 := sR M108 a0 48 (some (mZ M107))
  let M111 := nw M110 20 2100
  ck (kO M111 a0 12 107) (
  let M113 := sR M111 a0 49 (some (mZ M110))
  let M114 := nw M113 20 2100
  ck (kO M114 a0 12 107) (
  let M116 := sR M114 a0 50 (some (mZ M113))
  let M117 := nw M116 22 2100
  ck (kO M117 a0 12 107) (
  let M119 := sR M117 a0 51 (some (mZ M116))
  let M120 := nw M119 21 500
  ck (kO M120 a0 12 107) (
  let M122 := sR M120 a0 53 (some (mZ M119))
  let M123 := sI M122 a0 55 (-1)
  let M124 := nw M123 20 100
  ck (kO M124 a0 12 107) (
  let M126 := sR M124 a0 66 (some (mZ M123))
  let M127 := nw M126 20 100
  ck (kO M127 a0 12 107) (
  let M129 := sR M127 a0 67 (some (mZ M126))
  let M130 := nw M129 20 100
  ck (kO M130 a0 12 107) (
  let M132 := sR M130 a0 68 (some (mZ M129))
  let M133 := nw M132 20 24
  ck (kO M133 a0 12 107) (
  let M135 := sR M133 a0 74 (some (mZ M132))
  let M136 := nw M135 20 24
  ck (kO M136 a0 12 107) (
  let M138 := sR M136 a0 75 (some (mZ M135))
  let M139 := nw M138 20 24
  ck (kO M139 a0 12 107) (
  let M141 := sR M139 a0 76 (some (mZ M138))
  let M142 := nw M141 20 24
  ck (kO M142 a0 12 107) (
  let M144 := sR M142 a0 77 (some (mZ M141))
  let M145 := nw M144 20 24
  ck (kO M145 a0 12 107) (
  let M147 := sR M145 a0 78 (some (mZ M144))
  let M148 := nw M147 20 24
  ck (kO M148 a0 12 107) (
  let M150 := sR M148 a0 79 (some (mZ M147))
  let M151 := nw M150 20 24
  ck (kO M151 a0 12 107) (
  let M153 := sR M151 a0 80 (some (mZ M150))
  let M154 := nw M153 20 24
  ck (kO M154 a0 12 107) (
  let M156 := sR M154 a0 81 (some (mZ M153))
  let M157 := nw M156 20 24
  ck (kO M157 a0 12 107) (
  let M159 := sR M157 a0 82 (some (mZ M156))
  let M160 := nw M159 20 1440
  ck (kO M160 a0 12 107) (
  let M162 := sR M160 a0 83 (some (mZ M159))
  let M163 := nw M162 20 1440
  ck (kO M163 a0 12 107) (
  let M165 := sR M163 a0 84 (some (mZ M162))
  let M166 := nw M165 20 1440
  ck (kO M166 a0 12 107) (
  let M168 := sR M166 a0 85 (some (mZ M165))
  let M169 := nw M168 20 1440
  ck (kO M169 a0 12 107) (
  let M171 := sR M169 a0 86 (some (mZ M168))
  let M172 := nw M171 20 2880
  ck (kO M172 a0 12 107) (
  let M174 := sR M172 a0 87 (some (mZ M171))
  let M175 := nw M174 22 1440
  ck (kO M175 a0 12 107) (
  let M177 := sR M175 a0 88 (some (mZ M174))
  let M178 := nw M177 20 1440
  ck (kO M178 a0 12 107) (
  let M180 := sR M178 a0 89 (some (mZ M177))
  let M181 := nw M180 20 1440
  ck (kO M181 a0 12 107) (
  let M183 := sR M181 a0 90 (some (mZ M180))
  let M184 := nw M183 20 1440
  ck (kO M184 a0 12 107) (
  let M186 := sR M184 a0 91 (some (mZ M183))
  let M187 := nw M186 20 1440
  ck (kO M187 a0 12 107) (
  let M189 := sR M187 a0 92 (some (mZ M186))
  let M190 := nw M189 20 1440
  ck (kO M190 a0 12 107) (
  let M192 := sR M190 a0 93 (some (mZ M189))
  let M193 := nw M192 20 1440
  ck (kO M193 a0 12 107) (
  let M195 := sR M193 a0 94 (some (mZ M192))
  let M196 := nw M195 20 1440
  ck (kO M196 a0 12 107) (
  let M198 := sR M196 a0 95 (some (mZ M195))
  let M199 := nw M198 20 1440
  ck (kO M199 a0 12 107) (
  let M201 := sR M199 a0 96 (some (mZ M198))
  let M202 := nw M201 20 1440
  ck (kO M202 a0 12 107) (
  let M204 := sR M202 a0 97 (some (mZ M201))
  let M205 := nw M204 20 2880
  ck (kO M205 a0 12 107) (
  let M207 := sR M205 a0 98 (some (mZ M204))
  let M208 := nw M207 20 2880
  ck (kO M208 a0 12 107) (
  let M210 := sR M208 a0 99 (some (mZ M207))
  let M211 := nw M210 20 60
  ck (kO M211 a0 12 107) (
  let M213 := sR M211 a0 100 (some (mZ M210))
  let M214 := nw M213 23 16
  ck (kO M214 a0 12 107) (
  let M216 := sR M214 a0 101 (some (mZ M213))
  let M217 := nw M216 23 16
  ck (kO M217 a0 12 107) (
  let M219 := sR M217 a0 102 (some (mZ M216))
  let M220 := nw M219 20 256
  ck (kO M220 a0 12 107) (
  let M222 := sR M220 a0 103 (some (mZ M219))
  let M223 := nw M222 20 16
  ck (kO M223 a0 12 107) (
  let M225 := sR M223 a0 104 (some (mZ M222))
  let M226 := nw M225 20 16
  ck (kO M226 a0 12 107) (
  let M228 := sR M226 a0 105 (some (mZ M225))
  let M229 := nw M228 20 60
  ck (kO M229 a0 12 107) (
  let M231 := sR M229 a0 106 (some (mZ M228))
  Mod_new_L648 fu a0 0 M231)))))))))))))))))))))))))))))))))))))))))))))))))))))))))))))))))))))))))))))
set_option maxRecDepth 100000 in
set_option maxHeartbeats 4000000 in
theorem s_Mod_new (G : Gx) (M : Mm) (a0 : Nat) : FnS G Y_Mod_new cvV 1 [.ref a0] M (Mod_new M a0) := by
  refine FnS.ofE (by decide) (Nat.le_of_ble_eq_true rfl) ?_
  show EJ G Y_Mod_new cvV 1 0 [(0, .ref a0)] [] M _
  unfold Mod_new
  refine EJ_aload_n 1 0 (dk_42 (bt bc_Mod_new_0 0 rfl)) rfl rfl ?_
  refine EJ_obj 4 (dk_183 (bt bc_Mod_new_0 1 rfl) (bt bc_Mod_new_0 2 rfl) (bt bc_Mod_new_0 3 rfl) (n := 1) rfl) rfl tw_1197 tw_27 tw_28 (by decide) (Nat.le_of_ble_eq_true rfl) ?_
  refine EJ_aload_n 5 0 (dk_42 (bt bc_Mod_new_0 4 rfl)) rfl rfl ?_
  refine EJ_iconst 6 (dk_4 (bt bc_Mod_new_0 5 rfl)) rfl (v := 1) kI_1 ?_
  refine EJ_ck (fun h1 => ?_)
  refine EJ_putI cf12 2 (by decide) 9 tw_1200 rfl (Or.inl rfl) (dk_181 (bt bc_Mod_new_0 6 rfl) (bt bc_Mod_new_0 7 rfl) (bt bc_Mod_new_0 8 rfl) (n := 7) rfl) rfl (of_decide_eq_true h1) ?_
  refine EJ_aload_n 10 0 (dk_42 (bt bc_Mod_new_0 9 rfl)) rfl rfl ?_
  refine EJ_bipush 12 (dk_16 (bt bc_Mod_new_0 10 rfl) (bt bc_Mod_new_0 11 rfl) (n := 10) rfl) rfl (v := 10) kB_10 ?_
  refine EJ_newa' 0 14 (c := 20) (N := 10) (by decide) rfl tw_61 rfl (by decide) (by decide) (dk_188_10 (bt bc_Mod_new_0 12 rfl) (bt bc_Mod_new_0 13 rfl)) rfl ?_
  refine EJ_ck (fun h4 => ?_)
  refine EJ_putR cf12 3 (by decide) 17 tw_1201 (fun _ _ _ => rfl) (fun _ => rfl) (fun _ => rfl) (Or.inr ⟨rfl, rfl⟩) (dk_181 (bt bc_Mod_new_0 14 rfl) (bt bc_Mod_new_0 15 rfl) (bt bc_Mod_new_0 16 rfl) (n := 13) rfl) rfl (of_decide_eq_true h4) ?_
  refine EJ_aload_n 18 0 (dk_42 (bt bc_Mod_new_0 17 rfl)) rfl rfl ?_
  refine EJ_bipush 20 (dk_16 (bt bc_Mod_new_0 18 rfl) (bt bc_Mod_new_0 19 rfl) (n := 10) rfl) rfl (v := 10) kB_10 ?_
  refine EJ_newa' 0 22 (c := 20) (N := 10) (by decide) rfl tw_61 rfl (by decide) (by decide) (dk_188_10 (bt bc_Mod_new_0 20 rfl) (bt bc_Mod_new_0 21 rfl)) rfl ?_
  refine EJ_ck (fun h7 => ?_)
  refine EJ_putR cf12 4 (by decide) 25 tw_1202 (fun _ _ _ => rfl) (fun _ => rfl) (fun _ => rfl) (Or.inr ⟨rfl, rfl⟩) (dk_181 (bt bc_Mod_new_0 22 rfl) (bt bc_Mod_new_0 23 rfl) (bt bc_Mod_new_0 24 rfl) (n := 17) rfl) rfl (of_decide_eq_true h7) ?_
  refine EJ_aload_n 26 0 (dk_42 (bt bc_Mod_new_0 25 rfl)) rfl rfl ?_
  refine EJ_bipush 28 (dk_16 (bt bc_Mod_new_0 26 rfl) (bt bc_Mod_new_0 27 rfl) (n := 100) rfl) rfl (v := 100) kB_100 ?_
  refine EJ_newa' 0 30 (c := 20) (N := 100) (by decide) rfl tw_61 rfl (by decide) (by decide) (dk_188_10 (bt bc_Mod_new_0 28 rfl) (bt bc_Mod_new_0 29 rfl)) rfl ?_
  refine EJ_ck (fun h10 => ?_)
  refine EJ_putR cf12 5 (by decide) 33 tw_1203 (fun _ _ _ => rfl) (fun _ => rfl) (fun _ => rfl) (Or.inr ⟨rfl, rfl⟩) (dk_181 (bt bc_Mod_new_0 30 rfl) (bt bc_Mod_new_0 31 rfl) (bt bc_Mod_new_1 0 rfl) (n := 20) rfl) rfl (of_decide_eq_true h10) ?_
  refine EJ_aload_n 34 0 (dk_42 (bt bc_Mod_new_1 1 rfl)) rfl rfl ?_
  refine EJ_bipush 36 (dk_16 (bt bc_Mod_new_1 2 rfl) (bt bc_Mod_new_1 3 rfl) (n := 100) rfl) rfl (v := 100) kB_100 ?_
  refine EJ_newa' 0 38 (c := 20) (N := 100) (by decide) rfl tw_61 rfl (by decide) (by decide) (dk_188_10 (bt bc_Mod_new_1 4 rfl) (bt bc_Mod_new_1 5 rfl)) rfl ?_
  refine EJ_ck (fun h13 => ?_)
  refine EJ_putR cf12 6 (by decide) 41 tw_1204 (fun _ _ _ => rfl) (fun _ => rfl) (fun _ => rfl) (Or.inr ⟨rfl, rfl⟩) (dk_181 (bt bc_Mod_new_1 6 rfl) (bt bc_Mod_new_1 7 rfl) (bt bc_Mod_new_1 8 rfl) (n := 23) rfl) rfl (of_decide_eq_true h13) ?_
  refine EJ_aload_n 42 0 (dk_42 (bt bc_Mod_new_1 9 rfl)) rfl rfl ?_
  refine EJ_bipush 44 (dk_16 (bt bc_Mod_new_1 10 rfl) (bt bc_Mod_new_1 11 rfl) (n := 10) rfl) rfl (v := 10) kB_10 ?_
  refine EJ_newa' 0 46 (c := 20) (N := 10) (by decide) rfl tw_61 rfl (by decide) (by decide) (dk_188_10 (bt bc_Mod_new_1 12 rfl) (bt bc_Mod_new_1 13 rfl)) rfl ?_
  refine EJ_ck (fun h16 => ?_)
  refine EJ_putR cf12 7 (by decide) 49 tw_1205 (fun _ _ _ => rfl) (fun _ => rfl) (fun _ => rfl) (Or.inr ⟨rfl, rfl⟩) (dk_181 (bt bc_Mod_new_1 14 rfl) (bt bc_Mod_new_1 15 rfl) (bt bc_Mod_new_1 16 rfl) (n := 26) rfl) rfl (of_decide_eq_true h16) ?_
  refine EJ_aload_n 50 0 (dk_42 (bt bc_Mod_new_1 17 rfl)) rfl rfl ?_
  refine EJ_bipush 52 (dk_16 (bt bc_Mod_new_1 18 rfl) (bt bc_Mod_new_1 19 rfl) (n := 10) rfl) rfl (v := 10) kB_10 ?_
  refine EJ_newa' 2 54 (c := 22) (N := 10) (by decide) rfl tw_62 rfl (by decide) (by decide) (dk_188_4 (bt bc_Mod_new_1 20 rfl) (bt bc_Mod_new_1 21 rfl)) rfl ?_
  refine EJ_ck (fun h19 => ?_)
  refine EJ_putR cf12 8 (by decide) 57 tw_1206 (fun _ _ _ => rfl) (fun _ => rfl) (fun _ => rfl) (Or.inr ⟨rfl, rfl⟩) (dk_181 (bt bc_Mod_new_1 22 rfl) (bt bc_Mod_new_1 23 rfl) (bt bc_Mod_new_1 24 rfl) (n := 29) rfl) rfl (of_decide_eq_true h19) ?_
  refine EJ_aload_n 58 0 (dk_42 (bt bc_Mod_new_1 25 rfl)) rfl rfl ?_
  refine EJ_bipush 60 (dk_16 (bt bc_Mod_new_1 26 rfl) (bt bc_Mod_new_1 27 rfl) (n := 16) rfl) rfl (v := 16) kB_16 ?_
  refine EJ_newa' 0 62 (c := 20) (N := 16) (by decide) rfl tw_61 rfl (by decide) (by decide) (dk_188_10 (bt bc_Mod_new_1 28 rfl) (bt bc_Mod_new_1 29 rfl)) rfl ?_
  refine EJ_ck (fun h22 => ?_)
  refine EJ_putR cf12 10 (by decide) 65 tw_1208 (fun _ _ _ => rfl) (fun _ => rfl) (fun _ => rfl) (Or.inr ⟨rfl, rfl⟩) (dk_181 (bt bc_Mod_new_1 30 rfl) (bt bc_Mod_new_1 31 rfl) (bt bc_Mod_new_2 0 rfl) (n := 33) rfl) rfl (of_decide_eq_true h22) ?_
  refine EJ_aload_n 66 0 (dk_42 (bt bc_Mod_new_2 1 rfl)) rfl rfl ?_
  refine EJ_bipush 68 (dk_16 (bt bc_Mod_new_2 2 rfl) (bt bc_Mod_new_2 3 rfl) (n := 16) rfl) rfl (v := 16) kB_16 ?_
  refine EJ_newa' 0 70 (c := 20) (N := 16) (by decide) rfl tw_61 rfl (by decide) (by decide) (dk_188_10 (bt bc_Mod_new_2 4 rfl) (bt bc_Mod_new_2 5 rfl)) rfl ?_
  refine EJ_ck (fun h25 => ?_)
  refine EJ_putR cf12 11 (by decide) 73 tw_1209 (fun _ _ _ => rfl) (fun _ => rfl) (fun _ => rfl) (Or.inr ⟨rfl, rfl⟩) (dk_181 (bt bc_Mod_new_2 6 rfl) (bt bc_Mod_new_2 7 rfl) (bt bc_Mod_new_2 8 rfl) (n := 36) rfl) rfl (of_decide_eq_true h25) ?_
  refine EJ_aload_n 74 0 (dk_42 (bt bc_Mod_new_2 9 rfl)) rfl rfl ?_
  refine EJ_bipush 76 (dk_16 (bt bc_Mod_new_2 10 rfl) (bt bc_Mod_new_2 11 rfl) (n := 16) rfl) rfl (v := 16) kB_16 ?_
  refine EJ_newa' 0 78 (c := 20) (N := 16) (by decide) rfl tw_61 rfl (by decide) (by decide) (dk_188_10 (bt bc_Mod_new_2 12 rfl) (bt bc_Mod_new_2 13 rfl)) rfl ?_
  refine EJ_ck (fun h28 => ?_)
  refine EJ_putR cf12 12 (by decide) 81 tw_1210 (fun _ _ _ => rfl) (fun _ => rfl) (fun _ => rfl) (Or.inr ⟨rfl, rfl⟩) (dk_181 (bt bc_Mod_new_2 14 rfl) (bt bc_Mod_new_2 15 rfl) (bt bc_Mod_new_2 16 rfl) (n := 39) rfl) rfl (of_decide_eq_true h28) ?_
  refine EJ_aload_n 82 0 (dk_42 (bt bc_Mod_new_2 17 rfl)) rfl rfl ?_
  refine EJ_bipush 84 (dk_16 (bt bc_Mod_new_2 18 rfl) (bt bc_Mod_new_2 19 rfl) (n := 16) rfl) rfl (v := 16) kB_16 ?_
  refine EJ_newa' 0 86 (c := 20) (N := 16) (by decide) rfl tw_61 rfl (by decide) (by decide) (dk_188_10 (bt bc_Mod_new_2 20 rfl) (bt bc_Mod_new_2 21 rfl)) rfl ?_
  refine EJ_ck (fun h31 => ?_)
  refine EJ_putR cf12 13 (by decide) 89 tw_1211 (fun _ _ _ => rfl) (fun _ => rfl) (fun _ => rfl) (Or.inr ⟨rfl, rfl⟩) (dk_181 (bt bc_Mod_new_2 22 rfl) (bt bc_Mod_new_2 23 rfl) (bt bc_Mod_new_2 24 rfl) (n := 42) rfl) rfl (of_decide_eq_true h31) ?_
  refine EJ_aload_n 90 0 (dk_42 (bt bc_Mod_new_2 25 rfl)) rfl rfl ?_
  refine EJ_bipush 92 (dk_16 (bt bc_Mod_new_2 26 rfl) (bt bc_Mod_new_2 27 rfl) (n := 16) rfl) rfl (v := 16) kB_16 ?_
  refine EJ_newa' 0 94 (c := 20) (N := 16) (by decide) rfl tw_61 rfl (by decide) (by decide) (dk_188_10 (bt bc_Mod_new_2 28 rfl) (bt bc_Mod_new_2 29 rfl)) rfl ?_
  refine EJ_ck (fun h34 => ?_)
  refine EJ_putR cf12 14 (by decide) 97 tw_1212 (fun _ _ _ => rfl) (fun _ => rfl) (fun _ => rfl) (Or.inr ⟨rfl, rfl⟩) (dk_181 (bt bc_Mod_new_2 30 rfl) (bt bc_Mod_new_2 31 rfl) (bt bc_Mod_new_3 0 rfl) (n := 45) rfl) rfl (of_decide_eq_true h34) ?_
  refine EJ_aload_n 98 0 (dk_42 (bt bc_Mod_new_3 1 rfl)) rfl rfl ?_
  refine EJ_bipush 100 (dk_16 (bt bc_Mod_new_3 2 rfl) (bt bc_Mod_new_3 3 rfl) (n := 16) rfl) rfl (v := 16) kB_16 ?_
  refine EJ_newa' 0 102 (c := 20) (N := 16) (by decide) rfl tw_61 rfl (by decide) (by decide) (dk_188_10 (bt bc_Mod_new_3 4 rfl) (bt bc_Mod_new_3 5 rfl)) rfl ?_
  refine EJ_ck (fun h37 => ?_)
  refine EJ_putR cf12 15 (by decide) 105 tw_1213 (fun _ _ _ => rfl) (fun _ => rfl) (fun _ => rfl) (Or.inr ⟨rfl, rfl⟩) (dk_181 (bt bc_Mod_new_3 6 rfl) (bt bc_Mod_new_3 7 rfl) (bt bc_Mod_new_3 8 rfl) (n := 48) rfl) rfl (of_decide_eq_true h37) ?_
  refine EJ_aload_n 106 0 (dk_42 (bt bc_Mod_new_3 9 rfl)) rfl rfl ?_
  refine EJ_bipush 108 (dk_16 (bt bc_Mod_new_3 10 rfl) (bt bc_Mod_new_3 11 rfl) (n := 16) rfl) rfl (v := 16) kB_16 ?_
  refine EJ_newa' 3 110 (c := 23) (N := 16) (by decide) rfl tw_171 rfl (by decide) (by decide) (dk_188_11 (bt bc_Mod_new_3 12 rfl) (bt bc_Mod_new_3 13 rfl)) rfl ?_
  refine EJ_ck (fun h40 => ?_)
  refine EJ_putR cf12 16 (by decide) 113 tw_1214 (fun _ _ _ => rfl) (fun _ => rfl) (fun _ => rfl) (Or.inr ⟨rfl, rfl⟩) (dk_181 (bt bc_Mod_new_3 14 rfl) (bt bc_Mod_new_3 15 rfl) (bt bc_Mod_new_3 16 rfl) (n := 51) rfl) rfl (of_decide_eq_true h40) ?_
  refine EJ_aload_n 114 0 (dk_42 (bt bc_Mod_new_3 17 rfl)) rfl rfl ?_
  refine EJ_bipush 116 (dk_16 (bt bc_Mod_new_3 18 rfl) (bt bc_Mod_new_3 19 rfl) (n := 64) rfl) rfl (v := 64) kB_64 ?_
  refine EJ_newa' 0 118 (c := 20) (N := 64) (by decide) rfl tw_61 rfl (by decide) (by decide) (dk_188_10 (bt bc_Mod_new_3 20 rfl) (bt bc_Mod_new_3 21 rfl)) rfl ?_
  refine EJ_ck (fun h43 => ?_)
  refine EJ_putR cf12 17 (by decide) 121 tw_1215 (fun _ _ _ => rfl) (fun _ => rfl) (fun _ => rfl) (Or.inr ⟨rfl, rfl⟩) (dk_181 (bt bc_Mod_new_3 22 rfl) (bt bc_Mod_new_3 23 rfl) (bt bc_Mod_new_3 24 rfl) (n := 55) rfl) rfl (of_decide_eq_true h43) ?_
  refine EJ_aload_n 122 0 (dk_42 (bt bc_Mod_new_3 25 rfl)) rfl rfl ?_
  refine EJ_iconst 123 (dk_7 (bt bc_Mod_new_3 26 rfl)) rfl (v := 4) kI_4 ?_
  refine EJ_newa' 0 125 (c := 20) (N := 4) (by decide) rfl tw_61 rfl (by decide) (by decide) (dk_188_10 (bt bc_Mod_new_3 27 rfl) (bt bc_Mod_new_3 28 rfl)) rfl ?_
  refine EJ_ck (fun h46 => ?_)
  refine EJ_putR cf12 25 (by decide) 128 tw_1223 (fun _ _ _ => rfl) (fun _ => rfl) (fun _ => rfl) (Or.inr ⟨rfl, rfl⟩) (dk_181 (bt bc_Mod_new_3 29 rfl) (bt bc_Mod_new_3 30 rfl) (bt bc_Mod_new_3 31 rfl) (n := 58) rfl) rfl (of_decide_eq_true h46) ?_
  refine EJ_aload_n 129 0 (dk_42 (bt bc_Mod_new_4 0 rfl)) rfl rfl ?_
  refine EJ_iconst 130 (dk_7 (bt bc_Mod_new_4 1 rfl)) rfl (v := 4) kI_4 ?_
  refine EJ_newa' 0 132 (c := 20) (N := 4) (by decide) rfl tw_61 rfl (by decide) (by decide) (dk_188_10 (bt bc_Mod_new_4 2 rfl) (bt bc_Mod_new_4 3 rfl)) rfl ?_
  refine EJ_ck (fun h49 => ?_)
  refine EJ_putR cf12 26 (by decide) 135 tw_1224 (fun _ _ _ => rfl) (fun _ => rfl) (fun _ => rfl) (Or.inr ⟨rfl, rfl⟩) (dk_181 (bt bc_Mod_new_4 4 rfl) (bt bc_Mod_new_4 5 rfl) (bt bc_Mod_new_4 6 rfl) (n := 61) rfl) rfl (of_decide_eq_true h49) ?_
  refine EJ_aload_n 136 0 (dk_42 (bt bc_Mod_new_4 7 rfl)) rfl rfl ?_
  refine EJ_iconst 137 (dk_7 (bt bc_Mod_new_4 8 rfl)) rfl (v := 4) kI_4 ?_
  refine EJ_newa' 0 139 (c := 20) (N := 4) (by decide) rfl tw_61 rfl (by decide) (by decide) (dk_188_10 (bt bc_Mod_new_4 9 rfl) (bt bc_Mod_new_4 10 rfl)) rfl ?_
  refine EJ_ck (fun h52 => ?_)
  refine EJ_putR cf12 27 (by decide) 142 tw_1225 (fun _ _ _ => rfl) (fun _ => rfl) (fun _ => rfl) (Or.inr ⟨rfl, rfl⟩) (dk_181 (bt bc_Mod_new_4 11 rfl) (bt bc_Mod_new_4 12 rfl) (bt bc_Mod_new_4 13 rfl) (n := 64) rfl) rfl (of_decide_eq_true h52) ?_
  refine EJ_aload_n 143 0 (dk_42 (bt bc_Mod_new_4 14 rfl)) rfl rfl ?_
  refine EJ_iconst 144 (dk_7 (bt bc_Mod_new_4 15 rfl)) rfl (v := 4) kI_4 ?_
  refine EJ_newa' 0 146 (c := 20) (N := 4) (by decide) rfl tw_61 rfl (by decide) (by decide) (dk_188_10 (bt bc_Mod_new_4 16 rfl) (bt bc_Mod_new_4 17 rfl)) rfl ?_
  refine EJ_ck (fun h55 => ?_)
  refine EJ_putR cf12 28 (by decide) 149 tw_1226 (fun _ _ _ => rfl) (fun _ => rfl) (fun _ => rfl) (Or.inr ⟨rfl, rfl⟩) (dk_181 (bt bc_Mod_new_4 18 rfl) (bt bc_Mod_new_4 19 rfl) (bt bc_Mod_new_4 20 rfl) (n := 67) rfl) rfl (of_decide_eq_true h55) ?_
  refine EJ_aload_n 150 0 (dk_42 (bt bc_Mod_new_4 21 rfl)) rfl rfl ?_
  refine EJ_iconst 151 (dk_7 (bt bc_Mod_new_4 22 rfl)) rfl (v := 4) kI_4 ?_
  refine EJ_newa' 0 153 (c := 20) (N := 4) (by decide) rfl tw_61 rfl (by decide) (by decide) (dk_188_10 (bt bc_Mod_new_4 23 rfl) (bt bc_Mod_new_4 24 rfl)) rfl ?_
  refine EJ_ck (fun h58 => ?_)
  refine EJ_putR cf12 29 (by decide) 156 tw_1227 (fun _ _ _ => rfl) (fun _ => rfl) (fun _ => rfl) (Or.inr ⟨rfl, rfl⟩) (dk_181 (bt bc_Mod_new_4 25 rfl) (bt bc_Mod_new_4 26 rfl) (bt bc_Mod_new_4 27 rfl) (n := 70) rfl) rfl (of_decide_eq_true h58) ?_
  refine EJ_aload_n 157 0 (dk_42 (bt bc_Mod_new_4 28 rfl)) rfl rfl ?_
  refine EJ_bipush 159 (dk_16 (bt bc_Mod_new_4 29 rfl) (bt bc_Mod_new_4 30 rfl) (n := 60) rfl) rfl (v := 60) kB_60 ?_
  refine EJ_newa' 0 161 (c := 20) (N := 60) (by decide) rfl tw_61 rfl (by decide) (by decide) (dk_188_10 (bt bc_Mod_new_4 31 rfl) (bt bc_Mod_new_5 0 rfl)) rfl ?_
  refine EJ_ck (fun h61 => ?_)
  refine EJ_putR cf12 30 (by decide) 164 tw_1228 (fun _ _ _ => rfl) (fun _ => rfl) (fun _ => rfl) (Or.inr ⟨rfl, rfl⟩) (dk_181 (bt bc_Mod_new_5 1 rfl) (bt bc_Mod_new_5 2 rfl) (bt bc_Mod_new_5 3 rfl) (n := 73) rfl) rfl (of_decide_eq_true h61) ?_
  refine EJ_aload_n 165 0 (dk_42 (bt bc_Mod_new_5 4 rfl)) rfl rfl ?_
  refine EJ_bipush 167 (dk_16 (bt bc_Mod_new_5 5 rfl) (bt bc_Mod_new_5 6 rfl) (n := 60) rfl) rfl (v := 60) kB_60 ?_
  refine EJ_newa' 0 169 (c := 20) (N := 60) (by decide) rfl tw_61 rfl (by decide) (by decide) (dk_188_10 (bt bc_Mod_new_5 7 rfl) (bt bc_Mod_new_5 8 rfl)) rfl ?_
  refine EJ_ck (fun h64 => ?_)
  refine EJ_putR cf12 31 (by decide) 172 tw_1229 (fun _ _ _ => rfl) (fun _ => rfl) (fun _ => rfl) (Or.inr ⟨rfl, rfl⟩) (dk_181 (bt bc_Mod_new_5 9 rfl) (bt bc_Mod_new_5 10 rfl) (bt bc_Mod_new_5 11 rfl) (n := 76) rfl) rfl (of_decide_eq_true h64) ?_
  refine EJ_aload_n 173 0 (dk_42 (bt bc_Mod_new_5 12 rfl)) rfl rfl ?_
  refine EJ_bipush 175 (dk_16 (bt bc_Mod_new_5 13 rfl) (bt bc_Mod_new_5 14 rfl) (n := 60) rfl) rfl (v := 60) kB_60 ?_
  refine EJ_newa' 0 177 (c := 20) (N := 60) (by decide) rfl tw_61 rfl (by decide) (by decide) (dk_188_10 (bt bc_Mod_new_5 15 rfl) (bt bc_Mod_new_5 16 rfl)) rfl ?_
  refine EJ_ck (fun h67 => ?_)
  refine EJ_putR cf12 32 (by decide) 180 tw_1230 (fun _ _ _ => rfl) (fun _ => rfl) (fun _ => rfl) (Or.inr ⟨rfl, rfl⟩) (dk_181 (bt bc_Mod_new_5 17 rfl) (bt bc_Mod_new_5 18 rfl) (bt bc_Mod_new_5 19 rfl) (n := 79) rfl) rfl (of_decide_eq_true h67) ?_
  refine EJ_aload_n 181 0 (dk_42 (bt bc_Mod_new_5 20 rfl)) rfl rfl ?_
  refine EJ_bipush 183 (dk_16 (bt bc_Mod_new_5 21 rfl) (bt bc_Mod_new_5 22 rfl) (n := 60) rfl) rfl (v := 60) kB_60 ?_
  refine EJ_newa' 0 185 (c := 20) (N := 60) (by decide) rfl tw_61 rfl (by decide) (by decide) (dk_188_10 (bt bc_Mod_new_5 23 rfl) (bt bc_Mod_new_5 24 rfl)) rfl ?_
  refine EJ_ck (fun h70 => ?_)
  refine EJ_putR cf12 33 (by decide) 188 tw_1231 (fun _ _ _ => rfl) (fun _ => rfl) (fun _ => rfl) (Or.inr ⟨rfl, rfl⟩) (dk_181 (bt bc_Mod_new_5 25 rfl) (bt bc_Mod_new_5 26 rfl) (bt bc_Mod_new_5 27 rfl) (n := 82) rfl) rfl (of_decide_eq_true h70) ?_
  refine EJ_aload_n 189 0 (dk_42 (bt bc_Mod_new_5 28 rfl)) rfl rfl ?_
  refine EJ_bipush 191 (dk_16 (bt bc_Mod_new_5 29 rfl) (bt bc_Mod_new_5 30 rfl) (n := 60) rfl) rfl (v := 60) kB_60 ?_
  refine EJ_newa' 0 193 (c := 20) (N := 60) (by decide) rfl tw_61 rfl (by decide) (by decide) (dk_188_10 (bt bc_Mod_new_5 31 rfl) (bt bc_Mod_new_6 0 rfl)) rfl ?_
  refine EJ_ck (fun h73 => ?_)
  refine EJ_putR cf12 34 (by decide) 196 tw_1232 (fun _ _ _ => rfl) (fun _ => rfl) (fun _ => rfl) (Or.inr ⟨rfl, rfl⟩) (dk_181 (bt bc_Mod_new_6 1 rfl) (bt bc_Mod_new_6 2 rfl) (bt bc_Mod_new_6 3 rfl) (n := 85) rfl) rfl (of_decide_eq_true h73) ?_
  refine EJ_aload_n 197 0 (dk_42 (bt bc_Mod_new_6 4 rfl)) rfl rfl ?_
  refine EJ_bipush 199 (dk_16 (bt bc_Mod_new_6 5 rfl) (bt bc_Mod_new_6 6 rfl) (n := 60) rfl) rfl (v := 60) kB_60 ?_
  refine EJ_newa' 0 201 (c := 20) (N := 60) (by decide) rfl tw_61 rfl (by decide) (by decide) (dk_188_10 (bt bc_Mod_new_6 7 rfl) (bt bc_Mod_new_6 8 rfl)) rfl ?_
  refine EJ_ck (fun h76 => ?_)
  refine EJ_putR cf12 35 (by decide) 204 tw_1233 (fun _ _ _ => rfl) (fun _ => rfl) (fun _ => rfl) (Or.inr ⟨rfl, rfl⟩) (dk_181 (bt bc_Mod_new_6 9 rfl) (bt bc_Mod_new_6 10 rfl) (bt bc_Mod_new_6 11 rfl) (n := 88) rfl) rfl (of_decide_eq_true h76) ?_
  refine EJ_aload_n 205 0 (dk_42 (bt bc_Mod_new_6 12 rfl)) rfl rfl ?_
  refine EJ_bipush 207 (dk_16 (bt bc_Mod_new_6 13 rfl) (bt bc_Mod_new_6 14 rfl) (n := 60) rfl) rfl (v := 60) kB_60 ?_
  refine EJ_newa' 0 209 (c := 20) (N := 60) (by decide) rfl tw_61 rfl (by decide) (by decide) (dk_188_10 (bt bc_Mod_new_6 15 rfl) (bt bc_Mod_new_6 16 rfl)) rfl ?_
  refine EJ_ck (fun h79 => ?_)
  refine EJ_putR cf12 36 (by decide) 212 tw_1234 (fun _ _ _ => rfl) (fun _ => rfl) (fun _ => rfl) (Or.inr ⟨rfl, rfl⟩) (dk_181 (bt bc_Mod_new_6 17 rfl) (bt bc_Mod_new_6 18 rfl) (bt bc_Mod_new_6 19 rfl) (n := 91) rfl) rfl (of_decide_eq_true h79) ?_
  refine EJ_aload_n 213 0 (dk_42 (bt bc_Mod_new_6 20 rfl)) rfl rfl ?_
  refine EJ_bipush 215 (dk_16 (bt bc_Mod_new_6 21 rfl) (bt bc_Mod_new_6 22 rfl) (n := 8) rfl) rfl (v := 8) kB_8 ?_
  refine EJ_newa' 0 217 (c := 20) (N := 8) (by decide) rfl tw_61 rfl (by decide) (by decide) (dk_188_10 (bt bc_Mod_new_6 23 rfl) (bt bc_Mod_new_6 24 rfl)) rfl ?_
  refine EJ_ck (fun h82 => ?_)
  refine EJ_putR cf12 38 (by decide) 220 tw_1236 (fun _ _ _ => rfl) (fun _ => rfl) (fun _ => rfl) (Or.inr ⟨rfl, rfl⟩) (dk_181 (bt bc_Mod_new_6 25 rfl) (bt bc_Mod_new_6 26 rfl) (bt bc_Mod_new_6 27 rfl) (n := 94) rfl) rfl (of_decide_eq_true h82) ?_
  refine EJ_aload_n 221 0 (dk_42 (bt bc_Mod_new_6 28 rfl)) rfl rfl ?_
  refine EJ_bipush 223 (dk_16 (bt bc_Mod_new_6 29 rfl) (bt bc_Mod_new_6 30 rfl) (n := 8) rfl) rfl (v := 8) kB_8 ?_
  refine EJ_newa' 0 225 (c := 20) (N := 8) (by decide) rfl tw_61 rfl (by decide) (by decide) (dk_188_10 (bt bc_Mod_new_6 31 rfl) (bt bc_Mod_new_7 0 rfl)) rfl ?_
  refine EJ_ck (fun h85 => ?_)
  refine EJ_putR cf12 39 (by decide) 228 tw_1237 (fun _ _ _ => rfl) (fun _ => rfl) (fun _ => rfl) (Or.inr ⟨rfl, rfl⟩) (dk_181 (bt bc_Mod_new_7 1 rfl) (bt bc_Mod_new_7 2 rfl) (bt bc_Mod_new_7 3 rfl) (n := 97) rfl) rfl (of_decide_eq_true h85) ?_
  refine EJ_aload_n 229 0 (dk_42 (bt bc_Mod_new_7 4 rfl)) rfl rfl ?_
  refine EJ_bipush 231 (dk_16 (bt bc_Mod_new_7 5 rfl) (bt bc_Mod_new_7 6 rfl) (n := 8) rfl) rfl (v := 8) kB_8 ?_
  refine EJ_newa' 0 233 (c := 20) (N := 8) (by decide) rfl tw_61 rfl (by decide) (by decide) (dk_188_10 (bt bc_Mod_new_7 7 rfl) (bt bc_Mod_new_7 8 rfl)) rfl ?_
  refine EJ_ck (fun h88 => ?_)
  refine EJ_putR cf12 40 (by decide) 236 tw_1238 (fun _ _ _ => rfl) (fun _ => rfl) (fun _ => rfl) (Or.inr ⟨rfl, rfl⟩) (dk_181 (bt bc_Mod_new_7 9 rfl) (bt bc_Mod_new_7 10 rfl) (bt bc_Mod_new_7 11 rfl) (n := 100) rfl) rfl (of_decide_eq_true h88) ?_
  refine EJ_aload_n 237 0 (dk_42 (bt bc_Mod_new_7 12 rfl)) rfl rfl ?_
  refine EJ_sipush 240 (dk_17 (bt bc_Mod_new_7 13 rfl) (bt bc_Mod_new_7 14 rfl) (bt bc_Mod_new_7 15 rfl) (n := 200) rfl) rfl (v := 200) kS_200 ?_
  refine EJ_newa' 0 242 (c := 20) (N := 200) (by decide) rfl tw_61 rfl (by decide) (by decide) (dk_188_10 (bt bc_Mod_new_7 16 rfl) (bt bc_Mod_new_7 17 rfl)) rfl ?_
  refine EJ_ck (fun h91 => ?_)
  refine EJ_putR cf12 41 (by decide) 245 tw_1239 (fun _ _ _ => rfl) (fun _ => rfl) (fun _ => rfl) (Or.inr ⟨rfl, rfl⟩) (dk_181 (bt bc_Mod_new_7 18 rfl) (bt bc_Mod_new_7 19 rfl) (bt bc_Mod_new_7 20 rfl) (n := 103) rfl) rfl (of_decide_eq_true h91) ?_
  refine EJ_aload_n 246 0 (dk_42 (bt bc_Mod_new_7 21 rfl)) rfl rfl ?_
  refine EJ_sipush 249 (dk_17 (bt bc_Mod_new_7 22 rfl) (bt bc_Mod_new_7 23 rfl) (bt bc_Mod_new_7 24 rfl) (n := 200) rfl) rfl (v := 200) kS_200 ?_
  refine EJ_newa' 0 251 (c := 20) (N := 200) (by decide) rfl tw_61 rfl (by decide) (by decide) (dk_188_10 (bt bc_Mod_new_7 25 rfl) (bt bc_Mod_new_7 26 rfl)) rfl ?_
  refine EJ_ck (fun h94 => ?_)
  refine EJ_putR cf12 42 (by decide) 254 tw_1240 (fun _ _ _ => rfl) (fun _ => rfl) (fun _ => rfl) (Or.inr ⟨rfl, rfl⟩) (dk_181 (bt bc_Mod_new_7 27 rfl) (bt bc_Mod_new_7 28 rfl) (bt bc_Mod_new_7 29 rfl) (n := 106) rfl) rfl (of_decide_eq_true h94) ?_
  refine EJ_aload_n 255 0 (dk_42 (bt bc_Mod_new_7 30 rfl)) rfl rfl ?_
  refine EJ_sipush 258 (dk_17 (bt bc_Mod_new_7 31 rfl) (bt bc_Mod_new_8 0 rfl) (bt bc_Mod_new_8 1 rfl) (n := 200) rfl) rfl (v := 200) kS_200 ?_
  refine EJ_newa' 0 260 (c := 20) (N := 200) (by decide) rfl tw_61 rfl (by decide) (by decide) (dk_188_10 (bt bc_Mod_new_8 2 rfl) (bt bc_Mod_new_8 3 rfl)) rfl ?_
  refine EJ_ck (fun h97 => ?_)
  refine EJ_putR cf12 43 (by decide) 263 tw_1241 (fun _ _ _ => rfl) (fun _ => rfl) (fun _ => rfl) (Or.inr ⟨rfl, rfl⟩) (dk_181 (bt bc_Mod_new_8 4 rfl) (bt bc_Mod_new_8 5 rfl) (bt bc_Mod_new_8 6 rfl) (n := 109) rfl) rfl (of_decide_eq_true h97) ?_
  refine EJ_aload_n 264 0 (dk_42 (bt bc_Mod_new_8 7 rfl)) rfl rfl ?_
  refine EJ_sipush 267 (dk_17 (bt bc_Mod_new_8 8 rfl) (bt bc_Mod_new_8 9 rfl) (bt bc_Mod_new_8 10 rfl) (n := 200) rfl) rfl (v := 200) kS_200 ?_
  refine EJ_newa' 0 269 (c := 20) (N := 200) (by decide) rfl tw_61 rfl (by decide) (by decide) (dk_188_10 (bt bc_Mod_new_8 11 rfl) (bt bc_Mod_new_8 12 rfl)) rfl ?_
  refine EJ_ck (fun h100 => ?_)
  refine EJ_putR cf12 44 (by decide) 272 tw_1242 (fun _ _ _ => rfl) (fun _ => rfl) (fun _ => rfl) (Or.inr ⟨rfl, rfl⟩) (dk_181 (bt bc_Mod_new_8 13 rfl) (bt bc_Mod_new_8 14 rfl) (bt bc_Mod_new_8 15 rfl) (n := 112) rfl) rfl (of_decide_eq_true h100) ?_
  refine EJ_aload_n 273 0 (dk_42 (bt bc_Mod_new_8 16 rfl)) rfl rfl ?_
  refine EJ_sipush 276 (dk_17 (bt bc_Mod_new_8 17 rfl) (bt bc_Mod_new_8 18 rfl) (bt bc_Mod_new_8 19 rfl) (n := 200) rfl) rfl (v := 200) kS_200 ?_
  refine EJ_newa' 0 278 (c := 20) (N := 200) (by decide) rfl tw_61 rfl (by decide) (by decide) (dk_188_10 (bt bc_Mod_new_8 20 rfl) (bt bc_Mod_new_8 21 rfl)) rfl ?_
  refine EJ_ck (fun h103 => ?_)
  refine EJ_putR cf12 45 (by decide) 281 tw_1243 (fun _ _ _ => rfl) (fun _ => rfl) (fun _ => rfl) (Or.inr ⟨rfl, rfl⟩) (dk_181 (bt bc_Mod_new_8 22 rfl) (bt bc_Mod_new_8 23 rfl) (bt bc_Mod_new_8 24 rfl) (n := 115) rfl) rfl (of_decide_eq_true h103) ?_
  refine EJ_aload_n 282 0 (dk_42 (bt bc_Mod_new_8 25 rfl)) rfl rfl ?_
  refine EJ_sipush 285 (dk_17 (bt bc_Mod_new_8 26 rfl) (bt bc_Mod_new_8 27 rfl) (bt bc_Mod_new_8 28 rfl) (n := 2100) rfl) rfl (v := 2100) kS_2100 ?_
  refine EJ_newa' 0 287 (c := 20) (N := 2100) (by decide) rfl tw_61 rfl (by decide) (by decide) (dk_188_10 (bt bc_Mod_new_8 29 rfl) (bt bc_Mod_new_8 30 rfl)) rfl ?_
  refine EJ_ck (fun h106 => ?_)
  refine EJ_putR cf12 47 (by decide) 290 tw_1245 (fun _ _ _ => rfl) (fun _ => rfl) (fun _ => rfl) (Or.inr ⟨rfl, rfl⟩) (dk_181 (bt bc_Mod_new_8 31 rfl) (bt bc_Mod_new_9 0 rfl) (bt bc_Mod_new_9 1 rfl) (n := 118) rfl) rfl (of_decide_eq_true h106) ?_
  refine EJ_aload_n 291 0 (dk_42 (bt bc_Mod_new_9 2 rfl)) rfl rfl ?_
  refine EJ_sipush 294 (dk_17 (bt bc_Mod_new_9 3 rfl) (bt bc_Mod_new_9 4 rfl) (bt bc_Mod_new_9 5 rfl) (n := 2100) rfl) rfl (v := 2100) kS_2100 ?_
  refine EJ_newa' 0 296 (c := 20) (N := 2100) (by decide) rfl tw_61 rfl (by decide) (by decide) (dk_188_10 (bt bc_Mod_new_9 6 rfl) (bt bc_Mod_new_9 7 rfl)) rfl ?_
  refine EJ_ck (fun h109 => ?_)
  refine EJ_putR cf12 48 (by decide) 299 tw_1246 (fun _ _ _ => rfl) (fun _ => rfl) (fun _ => rfl) (Or.inr ⟨rfl, rfl⟩) (dk_181 (bt bc_Mod_new_9 8 rfl) (bt bc_Mod_new_9 9 rfl) (bt bc_Mod_new_9 10 rfl) (n := 121) rfl) rfl (of_decide_eq_true h109) ?_
  refine EJ_aload_n 300 0 (dk_42 (bt bc_Mod_new_9 11 rfl)) rfl rfl ?_
  refine EJ_sipush 303 (dk_17 (bt bc_Mod_new_9 12 rfl) (bt bc_Mod_new_9 13 rfl) (bt bc_Mod_new_9 14 rfl) (n := 2100) rfl) rfl (v := 2100) kS_2100 ?_
  refine EJ_newa' 0 305 (c := 20) (N := 2100) (by decide) rfl tw_61 rfl (by decide) (by decide) (dk_188_10 (bt bc_Mod_new_9 15 rfl) (bt bc_Mod_new_9 16 rfl)) rfl ?_
  refine EJ_ck (fun h112 => ?_)
  refine EJ_putR cf12 49 (by decide) 308 tw_1247 (fun _ _ _ => rfl) (fun _ => rfl) (fun _ => rfl) (Or.inr ⟨rfl, rfl⟩) (dk_181 (bt bc_Mod_new_9 17 rfl) (bt bc_Mod_new_9 18 rfl) (bt bc_Mod_new_9 19 rfl) (n := 124) rfl) rfl (of_decide_eq_true h112) ?_
  refine EJ_aload_n 309 0 (dk_42 (bt bc_Mod_new_9 20 rfl)) rfl rfl ?_
  refine EJ_sipush 312 (dk_17 (bt bc_Mod_new_9 21 rfl) (bt bc_Mod_new_9 22 rfl) (bt bc_Mod_new_9 23 rfl) (n := 2100) rfl) rfl (v := 2100) kS_2100 ?_
  refine EJ_newa' 0 314 (c := 20) (N := 2100) (by decide) rfl tw_61 rfl (by decide) (by decide) (dk_188_10 (bt bc_Mod_new_9 24 rfl) (bt bc_Mod_new_9 25 rfl)) rfl ?_
  refine EJ_ck (fun h115 => ?_)
  refine EJ_putR cf12 50 (by decide) 317 tw_1248 (fun _ _ _ => rfl) (fun _ => rfl) (fun _ => rfl) (Or.inr ⟨rfl, rfl⟩) (dk_181 (bt bc_Mod_new_9 26 rfl) (bt bc_Mod_new_9 27 rfl) (bt bc_Mod_new_9 28 rfl) (n := 127) rfl) rfl (of_decide_eq_true h115) ?_
  refine EJ_aload_n 318 0 (dk_42 (bt bc_Mod_new_9 29 rfl)) rfl rfl ?_
  refine EJ_sipush 321 (dk_17 (bt bc_Mod_new_9 30 rfl) (bt bc_Mod_new_9 31 rfl) (bt bc_Mod_new_10 0 rfl) (n := 2100) rfl) rfl (v := 2100) kS_2100 ?_
  refine EJ_newa' 2 323 (c := 22) (N := 2100) (by decide) rfl tw_62 rfl (by decide) (by decide) (dk_188_4 (bt bc_Mod_new_10 1 rfl) (bt bc_Mod_new_10 2 rfl)) rfl ?_
  refine EJ_ck (fun h118 => ?_)
  refine EJ_putR cf12 51 (by decide) 326 tw_1249 (fun _ _ _ => rfl) (fun _ => rfl) (fun _ => rfl) (Or.inr ⟨rfl, rfl⟩) (dk_181 (bt bc_Mod_new_10 3 rfl) (bt bc_Mod_new_10 4 rfl) (bt bc_Mod_new_10 5 rfl) (n := 130) rfl) rfl (of_decide_eq_true h118) ?_
  refine EJ_aload_n 327 0 (dk_42 (bt bc_Mod_new_10 6 rfl)) rfl rfl ?_
  refine EJ_sipush 330 (dk_17 (bt bc_Mod_new_10 7 rfl) (bt bc_Mod_new_10 8 rfl) (bt bc_Mod_new_10 9 rfl) (n := 500) rfl) rfl (v := 500) kS_500 ?_
  refine EJ_newa' 1 332 (c := 21) (N := 500) (by decide) rfl tw_119 rfl (by decide) (by decide) (dk_188_8 (bt bc_Mod_new_10 10 rfl) (bt bc_Mod_new_10 11 rfl)) rfl ?_
  refine EJ_ck (fun h121 => ?_)
  refine EJ_putR cf12 53 (by decide) 335 tw_1251 (fun _ _ _ => rfl) (fun _ => rfl) (fun _ => rfl) (Or.inr ⟨rfl, rfl⟩) (dk_181 (bt bc_Mod_new_10 12 rfl) (bt bc_Mod_new_10 13 rfl) (bt bc_Mod_new_10 14 rfl) (n := 133) rfl) rfl (of_decide_eq_true h121) ?_
  refine EJ_aload_n 336 0 (dk_42 (bt bc_Mod_new_10 15 rfl)) rfl rfl ?_
  refine EJ_iconst 337 (dk_2 (bt bc_Mod_new_10 16 rfl)) rfl (v := (-1)) kI_m1 ?_
  refine EJ_putI cf12 55 (by decide) 340 tw_1253 rfl (Or.inl rfl) (dk_181 (bt bc_Mod_new_10 17 rfl) (bt bc_Mod_new_10 18 rfl) (bt bc_Mod_new_10 19 rfl) (n := 137) rfl) rfl (kp_R (of_decide_eq_true h121)) ?_
  refine EJ_aload_n 341 0 (dk_42 (bt bc_Mod_new_10 20 rfl)) rfl rfl ?_
  refine EJ_bipush 343 (dk_16 (bt bc_Mod_new_10 21 rfl) (bt bc_Mod_new_10 22 rfl) (n := 100) rfl) rfl (v := 100) kB_100 ?_
  refine EJ_newa' 0 345 (c := 20) (N := 100) (by decide) rfl tw_61 rfl (by decide) (by decide) (dk_188_10 (bt bc_Mod_new_10 23 rfl) (bt bc_Mod_new_10 24 rfl)) rfl ?_
  refine EJ_ck (fun h125 => ?_)
  refine EJ_putR cf12 66 (by decide) 348 tw_1264 (fun _ _ _ => rfl) (fun _ => rfl) (fun _ => rfl) (Or.inr ⟨rfl, rfl⟩) (dk_181 (bt bc_Mod_new_10 25 rfl) (bt bc_Mod_new_10 26 rfl) (bt bc_Mod_new_10 27 rfl) (n := 140) rfl) rfl (of_decide_eq_true h125) ?_
  refine EJ_aload_n 349 0 (dk_42 (bt bc_Mod_new_10 28 rfl)) rfl rfl ?_
  refine EJ_bipush 351 (dk_16 (bt bc_Mod_new_10 29 rfl) (bt bc_Mod_new_10 30 rfl) (n := 100) rfl) rfl (v := 100) kB_100 ?_
  refine EJ_newa' 0 353 (c := 20) (N := 100) (by decide) rfl tw_61 rfl (by decide) (by decide) (dk_188_10 (bt bc_Mod_new_10 31 rfl) (bt bc_Mod_new_11 0 rfl)) rfl ?_
  refine EJ_ck (fun h128 => ?_)
  refine EJ_putR cf12 67 (by decide) 356 tw_1265 (fun _ _ _ => rfl) (fun _ => rfl) (fun _ => rfl) (Or.inr ⟨rfl, rfl⟩) (dk_181 (bt bc_Mod_new_11 1 rfl) (bt bc_Mod_new_11 2 rfl) (bt bc_Mod_new_11 3 rfl) (n := 143) rfl) rfl (of_decide_eq_true h128) ?_
  refine EJ_aload_n 357 0 (dk_42 (bt bc_Mod_new_11 4 rfl)) rfl rfl ?_
  refine EJ_bipush 359 (dk_16 (bt bc_Mod_new_11 5 rfl) (bt bc_Mod_new_11 6 rfl) (n := 100) rfl) rfl (v := 100) kB_100 ?_
  refine EJ_newa' 0 361 (c := 20) (N := 100) (by decide) rfl tw_61 rfl (by decide) (by decide) (dk_188_10 (bt bc_Mod_new_11 7 rfl) (bt bc_Mod_new_11 8 rfl)) rfl ?_
  refine EJ_ck (fun h131 => ?_)
  refine EJ_putR cf12 68 (by decide) 364 tw_1266 (fun _ _ _ => rfl) (fun _ => rfl) (fun _ => rfl) (Or.inr ⟨rfl, rfl⟩) (dk_181 (bt bc_Mod_new_11 9 rfl) (bt bc_Mod_new_11 10 rfl) (bt bc_Mod_new_11 11 rfl) (n := 146) rfl) rfl (of_decide_eq_true h131) ?_
  refine EJ_aload_n 365 0 (dk_42 (bt bc_Mod_new_11 12 rfl)) rfl rfl ?_
  refine EJ_bipush 367 (dk_16 (bt bc_Mod_new_11 13 rfl) (bt bc_Mod_new_11 14 rfl) (n := 24) rfl) rfl (v := 24) kB_24 ?_
  refine EJ_newa' 0 369 (c := 20) (N := 24) (by decide) rfl tw_61 rfl (by decide) (by decide) (dk_188_10 (bt bc_Mod_new_11 15 rfl) (bt bc_Mod_new_11 16 rfl)) rfl ?_
  refine EJ_ck (fun h134 => ?_)
  refine EJ_putR cf12 74 (by decide) 372 tw_1272 (fun _ _ _ => rfl) (fun _ => rfl) (fun _ => rfl) (Or.inr ⟨rfl, rfl⟩) (dk_181 (bt bc_Mod_new_11 17 rfl) (bt bc_Mod_new_11 18 rfl) (bt bc_Mod_new_11 19 rfl) (n := 149) rfl) rfl (of_decide_eq_true h134) ?_
  refine EJ_aload_n 373 0 (dk_42 (bt bc_Mod_new_11 20 rfl)) rfl rfl ?_
  refine EJ_bipush 375 (dk_16 (bt bc_Mod_new_11 21 rfl) (bt bc_Mod_new_11 22 rfl) (n := 24) rfl) rfl (v := 24) kB_24 ?_
  refine EJ_newa' 0 377 (c := 20) (N := 24) (by decide) rfl tw_61 rfl (by decide) (by decide) (dk_188_10 (bt bc_Mod_new_11 23 rfl) (bt bc_Mod_new_11 24 rfl)) rfl ?_
  refine EJ_ck (fun h137 => ?_)
  refine EJ_putR cf12 75 (by decide) 380 tw_1273 (fun _ _ _ => rfl) (fun _ => rfl) (fun _ => rfl) (Or.inr ⟨rfl, rfl⟩) (dk_181 (bt bc_Mod_new_11 25 rfl) (bt bc_Mod_new_11 26 rfl) (bt bc_Mod_new_11 27 rfl) (n := 152) rfl) rfl (of_decide_eq_true h137) ?_
  refine EJ_aload_n 381 0 (dk_42 (bt bc_Mod_new_11 28 rfl)) rfl rfl ?_
  refine EJ_bipush 383 (dk_16 (bt bc_Mod_new_11 29 rfl) (bt bc_Mod_new_11 30 rfl) (n := 24) rfl) rfl (v := 24) kB_24 ?_
  refine EJ_newa' 0 385 (c := 20) (N := 24) (by decide) rfl tw_61 rfl (by decide) (by decide) (dk_188_10 (bt bc_Mod_new_11 31 rfl) (bt bc_Mod_new_12 0 rfl)) rfl ?_
  refine EJ_ck (fun h140 => ?_)
  refine EJ_putR cf12 76 (by decide) 388 tw_1274 (fun _ _ _ => rfl) (fun _ => rfl) (fun _ => rfl) (Or.inr ⟨rfl, rfl⟩) (dk_181 (bt bc_Mod_new_12 1 rfl) (bt bc_Mod_new_12 2 rfl) (bt bc_Mod_new_12 3 rfl) (n := 155) rfl) rfl (of_decide_eq_true h140) ?_
  refine EJ_aload_n 389 0 (dk_42 (bt bc_Mod_new_12 4 rfl)) rfl rfl ?_
  refine EJ_bipush 391 (dk_16 (bt bc_Mod_new_12 5 rfl) (bt bc_Mod_new_12 6 rfl) (n := 24) rfl) rfl (v := 24) kB_24 ?_
  refine EJ_newa' 0 393 (c := 20) (N := 24) (by decide) rfl tw_61 rfl (by decide) (by decide) (dk_188_10 (bt bc_Mod_new_12 7 rfl) (bt bc_Mod_new_12 8 rfl)) rfl ?_
  refine EJ_ck (fun h143 => ?_)
  refine EJ_putR cf12 77 (by decide) 396 tw_1275 (fun _ _ _ => rfl) (fun _ => rfl) (fun _ => rfl) (Or.inr ⟨rfl, rfl⟩) (dk_181 (bt bc_Mod_new_12 9 rfl) (bt bc_Mod_new_12 10 rfl) (bt bc_Mod_new_12 11 rfl) (n := 158) rfl) rfl (of_decide_eq_true h143) ?_
  refine EJ_aload_n 397 0 (dk_42 (bt bc_Mod_new_12 12 rfl)) rfl rfl ?_
  refine EJ_bipush 399 (dk_16 (bt bc_Mod_new_12 13 rfl) (bt bc_Mod_new_12 14 rfl) (n := 24) rfl) rfl (v := 24) kB_24 ?_
  refine EJ_newa' 0 401 (c := 20) (N := 24) (by decide) rfl tw_61 rfl (by decide) (by decide) (dk_188_10 (bt bc_Mod_new_12 15 rfl) (bt bc_Mod_new_12 16 rfl)) rfl ?_
  refine EJ_ck (fun h146 => ?_)
  refine EJ_putR cf12 78 (by decide) 404 tw_1276 (fun _ _ _ => rfl) (fun _ => rfl) (fun _ => rfl) (Or.inr ⟨rfl, rfl⟩) (dk_181 (bt bc_Mod_new_12 17 rfl) (bt bc_Mod_new_12 18 rfl) (bt bc_Mod_new_12 19 rfl) (n := 161) rfl) rfl (of_decide_eq_true h146) ?_
  refine EJ_aload_n 405 0 (dk_42 (bt bc_Mod_new_12 20 rfl)) rfl rfl ?_
  refine EJ_bipush 407 (dk_16 (bt bc_Mod_new_12 21 rfl) (bt bc_Mod_new_12 22 rfl) (n := 24) rfl) rfl (v := 24) kB_24 ?_
  refine EJ_newa' 0 409 (c := 20) (N := 24) (by decide) rfl tw_61 rfl (by decide) (by decide) (dk_188_10 (bt bc_Mod_new_12 23 rfl) (bt bc_Mod_new_12 24 rfl)) rfl ?_
  refine EJ_ck (fun h149 => ?_)
  refine EJ_putR cf12 79 (by decide) 412 tw_1277 (fun _ _ _ => rfl) (fun _ => rfl) (fun _ => rfl) (Or.inr ⟨rfl, rfl⟩) (dk_181 (bt bc_Mod_new_12 25 rfl) (bt bc_Mod_new_12 26 rfl) (bt bc_Mod_new_12 27 rfl) (n := 164) rfl) rfl (of_decide_eq_true h149) ?_
  refine EJ_aload_n 413 0 (dk_42 (bt bc_Mod_new_12 28 rfl)) rfl rfl ?_
  refine EJ_bipush 415 (dk_16 (bt bc_Mod_new_12 29 rfl) (bt bc_Mod_new_12 30 rfl) (n := 24) rfl) rfl (v := 24) kB_24 ?_
  refine EJ_newa' 0 417 (c := 20) (N := 24) (by decide) rfl tw_61 rfl (by decide) (by decide) (dk_188_10 (bt bc_Mod_new_12 31 rfl) (bt bc_Mod_new_13 0 rfl)) rfl ?_
  refine EJ_ck (fun h152 => ?_)
  refine EJ_putR cf12 80 (by decide) 420 tw_1278 (fun _ _ _ => rfl) (fun _ => rfl) (fun _ => rfl) (Or.inr ⟨rfl, rfl⟩) (dk_181 (bt bc_Mod_new_13 1 rfl) (bt bc_Mod_new_13 2 rfl) (bt bc_Mod_new_13 3 rfl) (n := 167) rfl) rfl (of_decide_eq_true h152) ?_
  refine EJ_aload_n 421 0 (dk_42 (bt bc_Mod_new_13 4 rfl)) rfl rfl ?_
  refine EJ_bipush 423 (dk_16 (bt bc_Mod_new_13 5 rfl) (bt bc_Mod_new_13 6 rfl) (n := 24) rfl) rfl (v := 24) kB_24 ?_
  refine EJ_newa' 0 425 (c := 20) (N := 24) (by decide) rfl tw_61 rfl (by decide) (by decide) (dk_188_10 (bt bc_Mod_new_13 7 rfl) (bt bc_Mod_new_13 8 rfl)) rfl ?_
  refine EJ_ck (fun h155 => ?_)
  refine EJ_putR cf12 81 (by decide) 428 tw_1279 (fun _ _ _ => rfl) (fun _ => rfl) (fun _ => rfl) (Or.inr ⟨rfl, rfl⟩) (dk_181 (bt bc_Mod_new_13 9 rfl) (bt bc_Mod_new_13 10 rfl) (bt bc_Mod_new_13 11 rfl) (n := 170) rfl) rfl (of_decide_eq_true h155) ?_
  refine EJ_aload_n 429 0 (dk_42 (bt bc_Mod_new_13 12 rfl)) rfl rfl ?_
  refine EJ_bipush 431 (dk_16 (bt bc_Mod_new_13 13 rfl) (bt bc_Mod_new_13 14 rfl) (n := 24) rfl) rfl (v := 24) kB_24 ?_
  refine EJ_newa' 0 433 (c := 20) (N := 24) (by decide) rfl tw_61 rfl (by decide) (by decide) (dk_188_10 (bt bc_Mod_new_13 15 rfl) (bt bc_Mod_new_13 16 rfl)) rfl ?_
  refine EJ_ck (fun h158 => ?_)
  refine EJ_putR cf12 82 (by decide) 436 tw_1280 (fun _ _ _ => rfl) (fun _ => rfl) (fun _ => rfl) (Or.inr ⟨rfl, rfl⟩) (dk_181 (bt bc_Mod_new_13 17 rfl) (bt bc_Mod_new_13 18 rfl) (bt bc_Mod_new_13 19 rfl) (n := 173) rfl) rfl (of_decide_eq_true h158) ?_
  refine EJ_aload_n 437 0 (dk_42 (bt bc_Mod_new_13 20 rfl)) rfl rfl ?_
  refine EJ_sipush 440 (dk_17 (bt bc_Mod_new_13 21 rfl) (bt bc_Mod_new_13 22 rfl) (bt bc_Mod_new_13 23 rfl) (n := 1440) rfl) rfl (v := 1440) kS_1440 ?_
  refine EJ_newa' 0 442 (c := 20) (N := 1440) (by decide) rfl tw_61 rfl (by decide) (by decide) (dk_188_10 (bt bc_Mod_new_13 24 rfl) (bt bc_Mod_new_13 25 rfl)) rfl ?_
  refine EJ_ck (fun h161 => ?_)
  refine EJ_putR cf12 83 (by decide) 445 tw_1281 (fun _ _ _ => rfl) (fun _ => rfl) (fun _ => rfl) (Or.inr ⟨rfl, rfl⟩) (dk_181 (bt bc_Mod_new_13 26 rfl) (bt bc_Mod_new_13 27 rfl) (bt bc_Mod_new_13 28 rfl) (n := 176) rfl) rfl (of_decide_eq_true h161) ?_
  refine EJ_aload_n 446 0 (dk_42 (bt bc_Mod_new_13 29 rfl)) rfl rfl ?_
  refine EJ_sipush 449 (dk_17 (bt bc_Mod_new_13 30 rfl) (bt bc_Mod_new_13 31 rfl) (bt bc_Mod_new_14 0 rfl) (n := 1440) rfl) rfl (v := 1440) kS_1440 ?_
  refine EJ_newa' 0 451 (c := 20) (N := 1440) (by decide) rfl tw_61 rfl (by decide) (by decide) (dk_188_10 (bt bc_Mod_new_14 1 rfl) (bt bc_Mod_new_14 2 rfl)) rfl ?_
  refine EJ_ck (fun h164 => ?_)
  refine EJ_putR cf12 84 (by decide) 454 tw_1282 (fun _ _ _ => rfl) (fun _ => rfl) (fun _ => rfl) (Or.inr ⟨rfl, rfl⟩) (dk_181 (bt bc_Mod_new_14 3 rfl) (bt bc_Mod_new_14 4 rfl) (bt bc_Mod_new_14 5 rfl) (n := 179) rfl) rfl (of_decide_eq_true h164) ?_
  refine EJ_aload_n 455 0 (dk_42 (bt bc_Mod_new_14 6 rfl)) rfl rfl ?_
  refine EJ_sipush 458 (dk_17 (bt bc_Mod_new_14 7 rfl) (bt bc_Mod_new_14 8 rfl) (bt bc_Mod_new_14 9 rfl) (n := 1440) rfl) rfl (v := 1440) kS_1440 ?_
  refine EJ_newa' 0 460 (c := 20) (N := 1440) (by decide) rfl tw_61 rfl (by decide) (by decide) (dk_188_10 (bt bc_Mod_new_14 10 rfl) (bt bc_Mod_new_14 11 rfl)) rfl ?_
  refine EJ_ck (fun h167 => ?_)
  refine EJ_putR cf12 85 (by decide) 463 tw_1283 (fun _ _ _ => rfl) (fun _ => rfl) (fun _ => rfl) (Or.inr ⟨rfl, rfl⟩) (dk_181 (bt bc_Mod_new_14 12 rfl) (bt bc_Mod_new_14 13 rfl) (bt bc_Mod_new_14 14 rfl) (n := 182) rfl) rfl (of_decide_eq_true h167) ?_
  refine EJ_aload_n 464 0 (dk_42 (bt bc_Mod_new_14 15 rfl)) rfl rfl ?_
  refine EJ_sipush 467 (dk_17 (bt bc_Mod_new_14 16 rfl) (bt bc_Mod_new_14 17 rfl) (bt bc_Mod_new_14 18 rfl) (n := 1440) rfl) rfl (v := 1440) kS_1440 ?_
  refine EJ_newa' 0 469 (c := 20) (N := 1440) (by decide) rfl tw_61 rfl (by decide) (by decide) (dk_188_10 (bt bc_Mod_new_14 19 rfl) (bt bc_Mod_new_14 20 rfl)) rfl ?_
  refine EJ_ck (fun h170 => ?_)
  refine EJ_putR cf12 86 (by decide) 472 tw_1284 (fun _ _ _ => rfl) (fun _ => rfl) (fun _ => rfl) (Or.inr ⟨rfl, rfl⟩) (dk_181 (bt bc_Mod_new_14 21 rfl) (bt bc_Mod_new_14 22 rfl) (bt bc_Mod_new_14 23 rfl) (n := 185) rfl) rfl (of_decide_eq_true h170) ?_
  refine EJ_aload_n 473 0 (dk_42 (bt bc_Mod_new_14 24 rfl)) rfl rfl ?_
  refine EJ_sipush 476 (dk_17 (bt bc_Mod_new_14 25 rfl) (bt bc_Mod_new_14 26 rfl) (bt bc_Mod_new_14 27 rfl) (n := 2880) rfl) rfl (v := 2880) kS_2880 ?_
  refine EJ_newa' 0 478 (c := 20) (N := 2880) (by decide) rfl tw_61 rfl (by decide) (by decide) (dk_188_10 (bt bc_Mod_new_14 28 rfl) (bt bc_Mod_new_14 29 rfl)) rfl ?_
  refine EJ_ck (fun h173 => ?_)
  refine EJ_putR cf12 87 (by decide) 481 tw_1285 (fun _ _ _ => rfl) (fun _ => rfl) (fun _ => rfl) (Or.inr ⟨rfl, rfl⟩) (dk_181 (bt bc_Mod_new_14 30 rfl) (bt bc_Mod_new_14 31 rfl) (bt bc_Mod_new_15 0 rfl) (n := 188) rfl) rfl (of_decide_eq_true h173) ?_
  refine EJ_aload_n 482 0 (dk_42 (bt bc_Mod_new_15 1 rfl)) rfl rfl ?_
  refine EJ_sipush 485 (dk_17 (bt bc_Mod_new_15 2 rfl) (bt bc_Mod_new_15 3 rfl) (bt bc_Mod_new_15 4 rfl) (n := 1440) rfl) rfl (v := 1440) kS_1440 ?_
  refine EJ_newa' 2 487 (c := 22) (N := 1440) (by decide) rfl tw_62 rfl (by decide) (by decide) (dk_188_4 (bt bc_Mod_new_15 5 rfl) (bt bc_Mod_new_15 6 rfl)) rfl ?_
  refine EJ_ck (fun h176 => ?_)
  refine EJ_putR cf12 88 (by decide) 490 tw_1286 (fun _ _ _ => rfl) (fun _ => rfl) (fun _ => rfl) (Or.inr ⟨rfl, rfl⟩) (dk_181 (bt bc_Mod_new_15 7 rfl) (bt bc_Mod_new_15 8 rfl) (bt bc_Mod_new_15 9 rfl) (n := 191) rfl) rfl (of_decide_eq_true h176) ?_
  refine EJ_aload_n 491 0 (dk_42 (bt bc_Mod_new_15 10 rfl)) rfl rfl ?_
  refine EJ_sipush 494 (dk_17 (bt bc_Mod_new_15 11 rfl) (bt bc_Mod_new_15 12 rfl) (bt bc_Mod_new_15 13 rfl) (n := 1440) rfl) rfl (v := 1440) kS_1440 ?_
  refine EJ_newa' 0 496 (c := 20) (N := 1440) (by decide) rfl tw_61 rfl (by decide) (by decide) (dk_188_10 (bt bc_Mod_new_15 14 rfl) (bt bc_Mod_new_15 15 rfl)) rfl ?_
  refine EJ_ck (fun h179 => ?_)
  refine EJ_putR cf12 89 (by decide) 499 tw_1287 (fun _ _ _ => rfl) (fun _ => rfl) (fun _ => rfl) (Or.inr ⟨rfl, rfl⟩) (dk_181 (bt bc_Mod_new_15 16 rfl) (bt bc_Mod_new_15 17 rfl) (bt bc_Mod_new_15 18 rfl) (n := 194) rfl) rfl (of_decide_eq_true h179) ?_
  refine EJ_aload_n 500 0 (dk_42 (bt bc_Mod_new_15 19 rfl)) rfl rfl ?_
  refine EJ_sipush 503 (dk_17 (bt bc_Mod_new_15 20 rfl) (bt bc_Mod_new_15 21 rfl) (bt bc_Mod_new_15 22 rfl) (n := 1440) rfl) rfl (v := 1440) kS_1440 ?_
  refine EJ_newa' 0 505 (c := 20) (N := 1440) (by decide) rfl tw_61 rfl (by decide) (by decide) (dk_188_10 (bt bc_Mod_new_15 23 rfl) (bt bc_Mod_new_15 24 rfl)) rfl ?_
  refine EJ_ck (fun h182 => ?_)
  refine EJ_putR cf12 90 (by decide) 508 tw_1288 (fun _ _ _ => rfl) (fun _ => rfl) (fun _ => rfl) (Or.inr ⟨rfl, rfl⟩) (dk_181 (bt bc_Mod_new_15 25 rfl) (bt bc_Mod_new_15 26 rfl) (bt bc_Mod_new_15 27 rfl) (n := 197) rfl) rfl (of_decide_eq_true h182) ?_
  refine EJ_aload_n 509 0 (dk_42 (bt bc_Mod_new_15 28 rfl)) rfl rfl ?_
  refine EJ_sipush 512 (dk_17 (bt bc_Mod_new_15 29 rfl) (bt bc_Mod_new_15 30 rfl) (bt bc_Mod_new_15 31 rfl) (n := 1440) rfl) rfl (v := 1440) kS_1440 ?_
  refine EJ_newa' 0 514 (c := 20) (N := 1440) (by decide) rfl tw_61 rfl (by decide) (by decide) (dk_188_10 (bt bc_Mod_new_16 0 rfl) (bt bc_Mod_new_16 1 rfl)) rfl ?_
  refine EJ_ck (fun h185 => ?_)
  refine EJ_putR cf12 91 (by decide) 517 tw_1289 (fun _ _ _ => rfl) (fun _ => rfl) (fun _ => rfl) (Or.inr ⟨rfl, rfl⟩) (dk_181 (bt bc_Mod_new_16 2 rfl) (bt bc_Mod_new_16 3 rfl) (bt bc_Mod_new_16 4 rfl) (n := 200) rfl) rfl (of_decide_eq_true h185) ?_
  refine EJ_aload_n 518 0 (dk_42 (bt bc_Mod_new_16 5 rfl)) rfl rfl ?_
  refine EJ_sipush 521 (dk_17 (bt bc_Mod_new_16 6 rfl) (bt bc_Mod_new_16 7 rfl) (bt bc_Mod_new_16 8 rfl) (n := 1440) rfl) rfl (v := 1440) kS_1440 ?_
  refine EJ_newa' 0 523 (c := 20) (N := 1440) (by decide) rfl tw_61 rfl (by decide) (by decide) (dk_188_10 (bt bc_Mod_new_16 9 rfl) (bt bc_Mod_new_16 10 rfl)) rfl ?_
  refine EJ_ck (fun h188 => ?_)
  refine EJ_putR cf12 92 (by decide) 526 tw_1290 (fun _ _ _ => rfl) (fun _ => rfl) (fun _ => rfl) (Or.inr ⟨rfl, rfl⟩) (dk_181 (bt bc_Mod_new_16 11 rfl) (bt bc_Mod_new_16 12 rfl) (bt bc_Mod_new_16 13 rfl) (n := 203) rfl) rfl (of_decide_eq_true h188) ?_
  refine EJ_aload_n 527 0 (dk_42 (bt bc_Mod_new_16 14 rfl)) rfl rfl ?_
  refine EJ_sipush 530 (dk_17 (bt bc_Mod_new_16 15 rfl) (bt bc_Mod_new_16 16 rfl) (bt bc_Mod_new_16 17 rfl) (n := 1440) rfl) rfl (v := 1440) kS_1440 ?_
  refine EJ_newa' 0 532 (c := 20) (N := 1440) (by decide) rfl tw_61 rfl (by decide) (by decide) (dk_188_10 (bt bc_Mod_new_16 18 rfl) (bt bc_Mod_new_16 19 rfl)) rfl ?_
  refine EJ_ck (fun h191 => ?_)
  refine EJ_putR cf12 93 (by decide) 535 tw_1291 (fun _ _ _ => rfl) (fun _ => rfl) (fun _ => rfl) (Or.inr ⟨rfl, rfl⟩) (dk_181 (bt bc_Mod_new_16 20 rfl) (bt bc_Mod_new_16 21 rfl) (bt bc_Mod_new_16 22 rfl) (n := 206) rfl) rfl (of_decide_eq_true h191) ?_
  refine EJ_aload_n 536 0 (dk_42 (bt bc_Mod_new_16 23 rfl)) rfl rfl ?_
  refine EJ_sipush 539 (dk_17 (bt bc_Mod_new_16 24 rfl) (bt bc_Mod_new_16 25 rfl) (bt bc_Mod_new_16 26 rfl) (n := 1440) rfl) rfl (v := 1440) kS_1440 ?_
  refine EJ_newa' 0 541 (c := 20) (N := 1440) (by decide) rfl tw_61 rfl (by decide) (by decide) (dk_188_10 (bt bc_Mod_new_16 27 rfl) (bt bc_Mod_new_16 28 rfl)) rfl ?_
  refine EJ_ck (fun h194 => ?_)
  refine EJ_putR cf12 94 (by decide) 544 tw_1292 (fun _ _ _ => rfl) (fun _ => rfl) (fun _ => rfl) (Or.inr ⟨rfl, rfl⟩) (dk_181 (bt bc_Mod_new_16 29 rfl) (bt bc_Mod_new_16 30 rfl) (bt bc_Mod_new_16 31 rfl) (n := 209) rfl) rfl (of_decide_eq_true h194) ?_
  refine EJ_aload_n 545 0 (dk_42 (bt bc_Mod_new_17 0 rfl)) rfl rfl ?_
  refine EJ_sipush 548 (dk_17 (bt bc_Mod_new_17 1 rfl) (bt bc_Mod_new_17 2 rfl) (bt bc_Mod_new_17 3 rfl) (n := 1440) rfl) rfl (v := 1440) kS_1440 ?_
  refine EJ_newa' 0 550 (c := 20) (N := 1440) (by decide) rfl tw_61 rfl (by decide) (by decide) (dk_188_10 (bt bc_Mod_new_17 4 rfl) (bt bc_Mod_new_17 5 rfl)) rfl ?_
  refine EJ_ck (fun h197 => ?_)
  refine EJ_putR cf12 95 (by decide) 553 tw_1293 (fun _ _ _ => rfl) (fun _ => rfl) (fun _ => rfl) (Or.inr ⟨rfl, rfl⟩) (dk_181 (bt bc_Mod_new_17 6 rfl) (bt bc_Mod_new_17 7 rfl) (bt bc_Mod_new_17 8 rfl) (n := 212) rfl) rfl (of_decide_eq_true h197) ?_
  refine EJ_aload_n 554 0 (dk_42 (bt bc_Mod_new_17 9 rfl)) rfl rfl ?_
  refine EJ_sipush 557 (dk_17 (bt bc_Mod_new_17 10 rfl) (bt bc_Mod_new_17 11 rfl) (bt bc_Mod_new_17 12 rfl) (n := 1440) rfl) rfl (v := 1440) kS_1440 ?_
  refine EJ_newa' 0 559 (c := 20) (N := 1440) (by decide) rfl tw_61 rfl (by decide) (by decide) (dk_188_10 (bt bc_Mod_new_17 13 rfl) (bt bc_Mod_new_17 14 rfl)) rfl ?_
  refine EJ_ck (fun h200 => ?_)
  refine EJ_putR cf12 96 (by decide) 562 tw_1294 (fun _ _ _ => rfl) (fun _ => rfl) (fun _ => rfl) (Or.inr ⟨rfl, rfl⟩) (dk_181 (bt bc_Mod_new_17 15 rfl) (bt bc_Mod_new_17 16 rfl) (bt bc_Mod_new_17 17 rfl) (n := 215) rfl) rfl (of_decide_eq_true h200) ?_
  refine EJ_aload_n 563 0 (dk_42 (bt bc_Mod_new_17 18 rfl)) rfl rfl ?_
  refine EJ_sipush 566 (dk_17 (bt bc_Mod_new_17 19 rfl) (bt bc_Mod_new_17 20 rfl) (bt bc_Mod_new_17 21 rfl) (n := 1440) rfl) rfl (v := 1440) kS_1440 ?_
  refine EJ_newa' 0 568 (c := 20) (N := 1440) (by decide) rfl tw_61 rfl (by decide) (by decide) (dk_188_10 (bt bc_Mod_new_17 22 rfl) (bt bc_Mod_new_17 23 rfl)) rfl ?_
  refine EJ_ck (fun h203 => ?_)
  refine EJ_putR cf12 97 (by decide) 571 tw_1295 (fun _ _ _ => rfl) (fun _ => rfl) (fun _ => rfl) (Or.inr ⟨rfl, rfl⟩) (dk_181 (bt bc_Mod_new_17 24 rfl) (bt bc_Mod_new_17 25 rfl) (bt bc_Mod_new_17 26 rfl) (n := 218) rfl) rfl (of_decide_eq_true h203) ?_
  refine EJ_aload_n 572 0 (dk_42 (bt bc_Mod_new_17 27 rfl)) rfl rfl ?_
  refine EJ_sipush 575 (dk_17 (bt bc_Mod_new_17 28 rfl) (bt bc_Mod_new_17 29 rfl) (bt bc_Mod_new_17 30 rfl) (n := 2880) rfl) rfl (v := 2880) kS_2880 ?_
  refine EJ_newa' 0 577 (c := 20) (N := 2880) (by decide) rfl tw_61 rfl (by decide) (by decide) (dk_188_10 (bt bc_Mod_new_17 31 rfl) (bt bc_Mod_new_18 0 rfl)) rfl ?_
  refine EJ_ck (fun h206 => ?_)
  refine EJ_putR cf12 98 (by decide) 580 tw_1296 (fun _ _ _ => rfl) (fun _ => rfl) (fun _ => rfl) (Or.inr ⟨rfl, rfl⟩) (dk_181 (bt bc_Mod_new_18 1 rfl) (bt bc_Mod_new_18 2 rfl) (bt bc_Mod_new_18 3 rfl) (n := 221) rfl) rfl (of_decide_eq_true h206) ?_
  refine EJ_aload_n 581 0 (dk_42 (bt bc_Mod_new_18 4 rfl)) rfl rfl ?_
  refine EJ_sipush 584 (dk_17 (bt bc_Mod_new_18 5 rfl) (bt bc_Mod_new_18 6 rfl) (bt bc_Mod_new_18 7 rfl) (n := 2880) rfl) rfl (v := 2880) kS_2880 ?_
  refine EJ_newa' 0 586 (c := 20) (N := 2880) (by decide) rfl tw_61 rfl (by decide) (by decide) (dk_188_10 (bt bc_Mod_new_18 8 rfl) (bt bc_Mod_new_18 9 rfl)) rfl ?_
  refine EJ_ck (fun h209 => ?_)
  refine EJ_putR cf12 99 (by decide) 589 tw_1297 (fun _ _ _ => rfl) (fun _ => rfl) (fun _ => rfl) (Or.inr ⟨rfl, rfl⟩) (dk_181 (bt bc_Mod_new_18 10 rfl) (bt bc_Mod_new_18 11 rfl) (bt bc_Mod_new_18 12 rfl) (n := 224) rfl) rfl (of_decide_eq_true h209) ?_
  refine EJ_aload_n 590 0 (dk_42 (bt bc_Mod_new_18 13 rfl)) rfl rfl ?_
  refine EJ_bipush 592 (dk_16 (bt bc_Mod_new_18 14 rfl) (bt bc_Mod_new_18 15 rfl) (n := 60) rfl) rfl (v := 60) kB_60 ?_
  refine EJ_newa' 0 594 (c := 20) (N := 60) (by decide) rfl tw_61 rfl (by decide) (by decide) (dk_188_10 (bt bc_Mod_new_18 16 rfl) (bt bc_Mod_new_18 17 rfl)) rfl ?_
  refine EJ_ck (fun h212 => ?_)
  refine EJ_putR cf12 100 (by decide) 597 tw_1298 (fun _ _ _ => rfl) (fun _ => rfl) (fun _ => rfl) (Or.inr ⟨rfl, rfl⟩) (dk_181 (bt bc_Mod_new_18 18 rfl) (bt bc_Mod_new_18 19 rfl) (bt bc_Mod_new_18 20 rfl) (n := 227) rfl) rfl (of_decide_eq_true h212) ?_
  refine EJ_aload_n 598 0 (dk_42 (bt bc_Mod_new_18 21 rfl)) rfl rfl ?_
  refine EJ_bipush 600 (dk_16 (bt bc_Mod_new_18 22 rfl) (bt bc_Mod_new_18 23 rfl) (n := 16) rfl) rfl (v := 16) kB_16 ?_
  refine EJ_newa' 3 602 (c := 23) (N := 16) (by decide) rfl tw_171 rfl (by decide) (by decide) (dk_188_11 (bt bc_Mod_new_18 24 rfl) (bt bc_Mod_new_18 25 rfl)) rfl ?_
  refine EJ_ck (fun h215 => ?_)
  refine EJ_putR cf12 101 (by decide) 605 tw_1299 (fun _ _ _ => rfl) (fun _ => rfl) (fun _ => rfl) (Or.inr ⟨rfl, rfl⟩) (dk_181 (bt bc_Mod_new_18 26 rfl) (bt bc_Mod_new_18 27 rfl) (bt bc_Mod_new_18 28 rfl) (n := 230) rfl) rfl (of_decide_eq_true h215) ?_
  refine EJ_aload_n 606 0 (dk_42 (bt bc_Mod_new_18 29 rfl)) rfl rfl ?_
  refine EJ_bipush 608 (dk_16 (bt bc_Mod_new_18 30 rfl) (bt bc_Mod_new_18 31 rfl) (n := 16) rfl) rfl (v := 16) kB_16 ?_
  refine EJ_newa' 3 610 (c := 23) (N := 16) (by decide) rfl tw_171 rfl (by decide) (by decide) (dk_188_11 (bt bc_Mod_new_19 0 rfl) (bt bc_Mod_new_19 1 rfl)) rfl ?_
  refine EJ_ck (fun h218 => ?_)
  refine EJ_putR cf12 102 (by decide) 613 tw_1300 (fun _ _ _ => rfl) (fun _ => rfl) (fun _ => rfl) (Or.inr ⟨rfl, rfl⟩) (dk_181 (bt bc_Mod_new_19 2 rfl) (bt bc_Mod_new_19 3 rfl) (bt bc_Mod_new_19 4 rfl) (n := 233) rfl) rfl (of_decide_eq_true h218) ?_
  refine EJ_aload_n 614 0 (dk_42 (bt bc_Mod_new_19 5 rfl)) rfl rfl ?_
  refine EJ_sipush 617 (dk_17 (bt bc_Mod_new_19 6 rfl) (bt bc_Mod_new_19 7 rfl) (bt bc_Mod_new_19 8 rfl) (n := 256) rfl) rfl (v := 256) kS_256 ?_
  refine EJ_newa' 0 619 (c := 20) (N := 256) (by decide) rfl tw_61 rfl (by decide) (by decide) (dk_188_10 (bt bc_Mod_new_19 9 rfl) (bt bc_Mod_new_19 10 rfl)) rfl ?_
  refine EJ_ck (fun h221 => ?_)
  refine EJ_putR cf12 103 (by decide) 622 tw_1301 (fun _ _ _ => rfl) (fun _ => rfl) (fun _ => rfl) (Or.inr ⟨rfl, rfl⟩) (dk_181 (bt bc_Mod_new_19 11 rfl) (bt bc_Mod_new_19 12 rfl) (bt bc_Mod_new_19 13 rfl) (n := 236) rfl) rfl (of_decide_eq_true h221) ?_
  refine EJ_aload_n 623 0 (dk_42 (bt bc_Mod_new_19 14 rfl)) rfl rfl ?_
  refine EJ_bipush 625 (dk_16 (bt bc_Mod_new_19 15 rfl) (bt bc_Mod_new_19 16 rfl) (n := 16) rfl) rfl (v := 16) kB_16 ?_
  refine EJ_newa' 0 627 (c := 20) (N := 16) (by decide) rfl tw_61 rfl (by decide) (by decide) (dk_188_10 (bt bc_Mod_new_19 17 rfl) (bt bc_Mod_new_19 18 rfl)) rfl ?_
  refine EJ_ck (fun h224 => ?_)
  refine EJ_putR cf12 104 (by decide) 630 tw_1302 (fun _ _ _ => rfl) (fun _ => rfl) (fun _ => rfl) (Or.inr ⟨rfl, rfl⟩) (dk_181 (bt bc_Mod_new_19 19 rfl) (bt bc_Mod_new_19 20 rfl) (bt bc_Mod_new_19 21 rfl) (n := 239) rfl) rfl (of_decide_eq_true h224) ?_
  refine EJ_aload_n 631 0 (dk_42 (bt bc_Mod_new_19 22 rfl)) rfl rfl ?_
  refine EJ_bipush 633 (dk_16 (bt bc_Mod_new_19 23 rfl) (bt bc_Mod_new_19 24 rfl) (n := 16) rfl) rfl (v := 16) kB_16 ?_
  refine EJ_newa' 0 635 (c := 20) (N := 16) (by decide) rfl tw_61 rfl (by decide) (by decide) (dk_188_10 (bt bc_Mod_new_19 25 rfl) (bt bc_Mod_new_19 26 rfl)) rfl ?_
  refine EJ_ck (fun h227 => ?_)
  refine EJ_putR cf12 105 (by decide) 638 tw_1303 (fun _ _ _ => rfl) (fun _ => rfl) (fun _ => rfl) (Or.inr ⟨rfl, rfl⟩) (dk_181 (bt bc_Mod_new_19 27 rfl) (bt bc_Mod_new_19 28 rfl) (bt bc_Mod_new_19 29 rfl) (n := 242) rfl) rfl (of_decide_eq_true h227) ?_
  refine EJ_aload_n 639 0 (dk_42 (bt bc_Mod_new_19 30 rfl)) rfl rfl ?_
  refine EJ_bipush 641 (dk_16 (bt bc_Mod_new_19 31 rfl) (bt bc_Mod_new_20 0 rfl) (n := 60) rfl) rfl (v := 60) kB_60 ?_
  refine EJ_newa' 0 643 (c := 20) (N := 60) (by decide) rfl tw_61 rfl (by decide) (by decide) (dk_188_10 (bt bc_Mod_new_20 1 rfl) (bt bc_Mod_new_20 2 rfl)) rfl ?_
  refine EJ_ck (fun h230 => ?_)
  refine EJ_putR cf12 106 (by decide) 646 tw_1304 (fun _ _ _ => rfl) (fun _ => rfl) (fun _ => rfl) (Or.inr ⟨rfl, rfl⟩) (dk_181 (bt bc_Mod_new_20 3 rfl) (bt bc_Mod_new_20 4 rfl) (bt bc_Mod_new_20 5 rfl) (n := 245) rfl) rfl (of_decide_eq_true h230) ?_
  refine EJ_iconst 647 (dk_3 (bt bc_Mod_new_20 6 rfl)) rfl (v := 0) kI_0 ?_
  refine EJ_istore_n 648 (lv2 := [(1, .int _), (0, .ref _)]) (dk_60 (bt bc_Mod_new_20 7 rfl)) rfl (by decide) rfl ?_
  exact EJ_pick (lv2 := [(0, .ref _), (1, .int _)]) [1, 0] rfl (e_Mod_new_L648 fu _ _ _)
abbrev Y_Mod_town : Ym := (⟨"RiceHallModel", "town", "()I"⟩, prog_14_method_8_code, 1, (some FieldType.int))
theorem bc_Mod_town_0 : bts prog_14_method_8_code 0 [42, 180, 0, 7, 16, 10, 160, 0, 5, 2, 172, 42, 89, 180, 0, 7, 4, 96, 181, 0, 7, 42, 180, 0, 7, 4, 100, 172] := bts_of (by decide +kernel)
theorem hd_Mod_town : Y_Mod_town.1.cls = RX12 ∧ Y_Mod_town.1.cls ≠ "java/lang/invoke/MethodHandle" ∧ Y_Mod_town.1.cls ≠ "java/lang/invoke/VarHandle" ∧ (parseMethodDescriptor Y_Mod_town.1.desc).map (fun d => d.parameters.length) = some 0 := by decide +kernel
def Mod_town (M : Mm) (a0 : Nat) : Option (Int32 × Mm) :=
  ck (kO M a0 12 107) (
  if (mI M a0 2) = 10 then (
    some ((-1), M))
  else (
    let M2 := sI M a0 2 ((mI M a0 2) + 1)
    some ((mI M2 a0 2) - 1, M2)))
set_option maxRecDepth 100000 in
set_option maxHeartbeats 4000000 in
theorem s_Mod_town (G : Gx) (M : Mm) (a0 : Nat) : FnS G Y_Mod_town cvI 1 [.ref a0] M (Mod_town M a0) := by
  refine FnS.ofE (by decide) (Nat.le_of_ble_eq_true rfl) ?_
  show EJ G Y_Mod_town cvI 1 0 [(0, .ref a0)] [] M _
  unfold Mod_town
  refine EJ_aload_n 1 0 (dk_42 (bt bc_Mod_town_0 0 rfl)) rfl rfl ?_
  refine EJ_ck (fun h1 => ?_)
  refine EJ_getI cf12 2 (by decide) 4 tw_1200 (fun _ _ _ => rfl) (dk_180 (bt bc_Mod_town_0 1 rfl) (bt bc_Mod_town_0 2 rfl) (bt bc_Mod_town_0 3 rfl) (n := 7) rfl) rfl (of_decide_eq_true h1) ?_
  refine EJ_bipush 6 (dk_16 (bt bc_Mod_town_0 4 rfl) (bt bc_Mod_town_0 5 rfl) (n := 10) rfl) rfl (v := 10) kB_10 ?_
  refine EJ_icmp_ne 11 9 (dk_160 (bt bc_Mod_town_0 6 rfl) (bt bc_Mod_town_0 7 rfl) (bt bc_Mod_town_0 8 rfl) (n := 5) rfl) (by decide) rfl (fun _ => ?_) (fun _ => ?_)
  · refine EJ_aload_n 12 0 (dk_42 (bt bc_Mod_town_0 11 rfl)) rfl rfl ?_
    refine EJ_dup 13 (dk_89 (bt bc_Mod_town_0 12 rfl)) rfl rfl ?_
    refine EJ_getI cf12 2 (by decide) 16 tw_1200 (fun _ _ _ => rfl) (dk_180 (bt bc_Mod_town_0 13 rfl) (bt bc_Mod_town_0 14 rfl) (bt bc_Mod_town_0 15 rfl) (n := 7) rfl) rfl (of_decide_eq_true h1) ?_
    refine EJ_iconst 17 (dk_4 (bt bc_Mod_town_0 16 rfl)) rfl (v := 1) kI_1 ?_
    refine EJ_iadd 18 (dk_96 (bt bc_Mod_town_0 17 rfl)) rfl ?_
    refine EJ_putI cf12 2 (by decide) 21 tw_1200 rfl (Or.inl rfl) (dk_181 (bt bc_Mod_town_0 18 rfl) (bt bc_Mod_town_0 19 rfl) (bt bc_Mod_town_0 20 rfl) (n := 7) rfl) rfl (of_decide_eq_true h1) ?_
    refine EJ_aload_n 22 0 (dk_42 (bt bc_Mod_town_0 21 rfl)) rfl rfl ?_
    refine EJ_getI cf12 2 (by decide) 25 tw_1200 (fun _ _ _ => rfl) (dk_180 (bt bc_Mod_town_0 22 rfl) (bt bc_Mod_town_0 23 rfl) (bt bc_Mod_town_0 24 rfl) (n := 7) rfl) rfl (kp_I (of_decide_eq_true h1)) ?_
    refine EJ_iconst 26 (dk_4 (bt bc_Mod_town_0 25 rfl)) rfl (v := 1) kI_1 ?_
    refine EJ_isub 27 (dk_100 (bt bc_Mod_town_0 26 rfl)) rfl ?_
    exact EJ_iret rfl (dk_172 (bt bc_Mod_town_0 27 rfl))
  · refine EJ_iconst 10 (dk_2 (bt bc_Mod_town_0 9 rfl)) rfl (v := (-1)) kI_m1 ?_
    exact EJ_iret rfl (dk_172 (bt bc_Mod_town_0 10 rfl))
abbrev Y_Mod_isTown : Ym := (⟨"RiceHallModel", "isTown", "(I)Z"⟩, prog_14_method_7_code, 2, (some FieldType.boolean))
theorem bc_Mod_isTown_0 : bts prog_14_method_7_code 0 [27, 155, 0, 15, 27, 42, 180, 0, 7, 162, 0, 7, 4, 167, 0, 4, 3, 172] := bts_of (by decide +kernel)
theorem hd_Mod_isTown : Y_Mod_isTown.1.cls = RX12 ∧ Y_Mod_isTown.1.cls ≠ "java/lang/invoke/MethodHandle" ∧ Y_Mod_isTown.1.cls ≠ "java/lang/invoke/VarHandle" ∧ (parseMethodDescriptor Y_Mod_isTown.1.desc).map (fun d => d.parameters.length) = some 1 := by decide +kernel
def Mod_isTown (M : Mm) (a0 : Nat) (a1 : Int32) : Option (Int32 × Mm) :=
  if a1 < 0 then (
    some (0, M))
  else (
    ck (kO M a0 12 107) (
    if (mI M a0 2) ≤ a1 then (
      some (0, M))
    else (
      some (1, M))))
set_option maxRecDepth 100000 in
set_option maxHeartbeats 4000000 in
theorem s_Mod_isTown (G : Gx) (M : Mm) (a0 : Nat) (a1 : Int32) : FnS G Y_Mod_isTown cvI 1 [.ref a0, .int a1] M (Mod_isTown M a0 a1) := by
  refine FnS.ofE (by decide) (Nat.le_of_ble_eq_true rfl) ?_
  show EJ G Y_Mod_isTown cvI 1 0 [(0, .ref a0), (1, .int a1)] [] M _
  unfold Mod_isTown
  refine EJ_iload_n 1 1 (dk_27 (bt bc_Mod_isTown_0 0 rfl)) rfl rfl ?_
  refine EJ_if_lt 16 4 (dk_155 (bt bc_Mod_isTown_0 1 rfl) (bt bc_Mod_isTown_0 2 rfl) (bt bc_Mod_isTown_0 3 rfl) (n := 15) rfl) (by decide) rfl (fun _ => ?_) (fun _ => ?_)
  · refine EJ_iconst 17 (dk_3 (bt bc_Mod_isTown_0 16 rfl)) rfl (v := 0) kI_0 ?_
    exact EJ_zret rfl (by decide) (dk_172 (bt bc_Mod_isTown_0 17 rfl))
  · refine EJ_iload_n 5 1 (dk_27 (bt bc_Mod_isTown_0 4 rfl)) rfl rfl ?_
    refine EJ_aload_n 6 0 (dk_42 (bt bc_Mod_isTown_0 5 rfl)) rfl rfl ?_
    refine EJ_ck (fun h1 => ?_)
    refine EJ_getI cf12 2 (by decide) 9 tw_1200 (fun _ _ _ => rfl) (dk_180 (bt bc_Mod_isTown_0 6 rfl) (bt bc_Mod_isTown_0 7 rfl) (bt bc_Mod_isTown_0 8 rfl) (n := 7) rfl) rfl (of_decide_eq_true h1) ?_
    refine EJ_icmp_ge 16 12 (dk_162 (bt bc_Mod_isTown_0 9 rfl) (bt bc_Mod_isTown_0 10 rfl) (bt bc_Mod_isTown_0 11 rfl) (n := 7) rfl) (by decide) rfl (fun _ => ?_) (fun _ => ?_)
    · refine EJ_iconst 17 (dk_3 (bt bc_Mod_isTown_0 16 rfl)) rfl (v := 0) kI_0 ?_
      exact EJ_zret rfl (by decide) (dk_172 (bt bc_Mod_isTown_0 17 rfl))
    · refine EJ_iconst 13 (dk_4 (bt bc_Mod_isTown_0 12 rfl)) rfl (v := 1) kI_1 ?_
      refine EJ_goto 17 (dk_167 (bt bc_Mod_isTown_0 13 rfl) (bt bc_Mod_isTown_0 14 rfl) (bt bc_Mod_isTown_0 15 rfl) (n := 4) rfl) (by decide) ?_
      exact EJ_zret rfl (by decide) (dk_172 (bt bc_Mod_isTown_0 17 rfl))
abbrev Y_Mod_in : Ym := (⟨"RiceHallModel", "in", "(III)Z"⟩, prog_14_method_3_code, 3, (some FieldType.boolean))
theorem bc_Mod_in_0 : bts prog_14_method_3_code 0 [26, 27, 161, 0, 12, 26, 28, 163, 0, 7, 4, 167, 0, 4, 3, 172] := bts_of (by decide +kernel)
theorem hd_Mod_in : Y_Mod_in.1.cls ≠ "java/lang/invoke/MethodHandle" ∧ Y_Mod_in.1.cls ≠ "java/lang/invoke/VarHandle" ∧ (parseMethodDescriptor Y_Mod_in.1.desc).map (fun d => d.parameters.length) = some 3 := by decide +kernel
def Mod_in (M : Mm) (a0 : Int32) (a1 : Int32) (a2 : Int32) : Option (Int32 × Mm) :=
  if a0 < a1 then (
    some (0, M))
  else (
    if a2 < a0 then (
      some (0, M))
    else (
      some (1, M)))
set_option maxRecDepth 100000 in
set_option maxHeartbeats 4000000 in
theorem s_Mod_in (G : Gx) (M : Mm) (a0 : Int32) (a1 : Int32) (a2 : Int32) : FnS G Y_Mod_in cvI 1 [.int a0, .int a1, .int a2] M (Mod_in M a0 a1 a2) := by
  refine FnS.ofE (by decide) (Nat.le_of_ble_eq_true rfl) ?_
  show EJ G Y_Mod_in cvI 1 0 [(0, .int a0), (1, .int a1), (2, .int a2)] [] M _
  unfold Mod_in
  refine EJ_iload_n 1 0 (dk_26 (bt bc_Mod_in_0 0 rfl)) rfl rfl ?_
  refine EJ_iload_n 2 1 (dk_27 (bt bc_Mod_in_0 1 rfl)) rfl rfl ?_
  refine EJ_icmp_lt 14 5 (dk_161 (bt bc_Mod_in_0 2 rfl) (bt bc_Mod_in_0 3 rfl) (bt bc_Mod_in_0 4 rfl) (n := 12) rfl) (by decide) rfl (fun _ => ?_) (fun _ => ?_)
  · refine EJ_iconst 15 (dk_3 (bt bc_Mod_in_0 14 rfl)) rfl (v := 0) kI_0 ?_
    exact EJ_zret rfl (by decide) (dk_172 (bt bc_Mod_in_0 15 rfl))
  · refine EJ_iload_n 6 0 (dk_26 (bt bc_Mod_in_0 5 rfl)) rfl rfl ?_
    refine EJ_iload_n 7 2 (dk_28 (bt bc_Mod_in_0 6 rfl)) rfl rfl ?_
    refine EJ_icmp_gt 14 10 (dk_163 (bt bc_Mod_in_0 7 rfl) (bt bc_Mod_in_0 8 rfl) (bt bc_Mod_in_0 9 rfl) (n := 7) rfl) (by decide) rfl (fun _ => ?_) (fun _ => ?_)
    · refine EJ_iconst 15 (dk_3 (bt bc_Mod_in_0 14 rfl)) rfl (v := 0) kI_0 ?_
      exact EJ_zret rfl (by decide) (dk_172 (bt bc_Mod_in_0 15 rfl))
    · refine EJ_iconst 11 (dk_4 (bt bc_Mod_in_0 10 rfl)) rfl (v := 1) kI_1 ?_
      refine EJ_goto 15 (dk_167 (bt bc_Mod_in_0 11 rfl) (bt bc_Mod_in_0 12 rfl) (bt bc_Mod_in_0 13 rfl) (n := 4) rfl) (by decide) ?_
      exact EJ_zret rfl (by decide) (dk_172 (bt bc_Mod_in_0 15 rfl))
abbrev Y_Mod_fog : Ym := (⟨"RiceHallModel", "fog", "(III)Z"⟩, prog_14_method_9_code, 4, (some FieldType.boolean))
theorem bc_Mod_fog_0 : bts prog_14_method_9_code 0 [42, 27, 182, 0, 248, 154, 0, 5, 3, 172, 28, 2, 160, 0, 12, 42, 180, 0, 13, 27, 2, 79, 4, 172, 28, 3, 17, 5, 159, 184, 0, 252] := bts_of (by decide +kernel)
theorem bc_Mod_fog_1 : bts prog_14_method_9_code 32 [153, 0, 14, 29, 3, 17, 5, 159, 184, 0, 252, 154, 0, 5, 3, 172, 42, 180, 0, 13, 27, 28, 79, 42, 180, 0, 17, 27, 29, 79, 4, 172] := bts_of (by decide +kernel)
theorem hd_Mod_fog : Y_Mod_fog.1.cls = RX12 ∧ Y_Mod_fog.1.cls ≠ "java/lang/invoke/MethodHandle" ∧ Y_Mod_fog.1.cls ≠ "java/lang/invoke/VarHandle" ∧ (parseMethodDescriptor Y_Mod_fog.1.desc).map (fun d => d.parameters.length) = some 3 := by decide +kernel
def Mod_fog (M : Mm) (a0 : Nat) (a1 : Int32) (a2 : Int32) (a3 : Int32) : Option (Int32 × Mm) :=
  ck (kO M a0 12 107) (
  bd (Mod_isTown M a0 a1) (fun r2 M3 =>
  if r2 = 0 then (
    some (0, M3))
  else (
    if a2 = (-1) then (
      ck (kO M3 a0 12 107) (
      nn (mR M3 a0 3) (fun b16 =>
      ck (kA M3 b16 20 a1) (
      let M18 := sI M3 b16 (ix a1) (-1)
      some (1, M18)))))
    else (
      bd (Mod_in M3 a2 0 1439) (fun r4 M5 =>
      if r4 = 0 then (
        some (0, M5))
      else (
        bd (Mod_in M5 a3 0 1439) (fun r6 M7 =>
        if r6 = 0 then (
          some (0, M7))
        else (
          ck (kO M7 a0 12 107) (
          nn (mR M7 a0 3) (fun b9 =>
          ck (kA M7 b9 20 a1) (
          let M11 := sI M7 b9 (ix a1) a2
          nn (mR M11 a0 4) (fun b12 =>
          ck (kA M11 b12 20 a1) (
          let M14 := sI M11 b12 (ix a1) a3
          some (1, M14))))))))))))))
set_option maxRecDepth 100000 in
set_option maxHeartbeats 4000000 in
theorem s_Mod_fog (G : Gx) (M : Mm) (a0 : Nat) (a1 : Int32) (a2 : Int32) (a3 : Int32) : FnS G Y_Mod_fog cvI 2 [.ref a0, .int a1, .int a2, .int a3] M (Mod_fog M a0 a1 a2 a3) := by
  refine FnS.ofE (by decide) (Nat.le_of_ble_eq_true rfl) ?_
  show EJ G Y_Mod_fog cvI 2 0 [(0, .ref a0), (1, .int a1), (2, .int a2), (3, .int a3)] [] M _
  unfold Mod_fog
  refine EJ_aload_n 1 0 (dk_42 (bt bc_Mod_fog_0 0 rfl)) rfl rfl ?_
  refine EJ_iload_n 2 1 (dk_27 (bt bc_Mod_fog_0 1 rfl)) rfl rfl ?_
  refine EJ_ck (fun h1 => ?_)
  refine EJ_callVi (Y2 := Y_Mod_isTown) 5 cf12 (s_Mod_isTown G _ _ _) (of_decide_eq_true h1) rfl (dk_182 (bt bc_Mod_fog_0 2 rfl) (bt bc_Mod_fog_0 3 rfl) (bt bc_Mod_fog_0 4 rfl) (n := 248) rfl) rfl tw_1528 tw_1530 ts_36 tw_1531 hd_Mod_isTown rfl (by decide) (Nat.le_of_ble_eq_true rfl) (fun r2 M3 => ?_)
  refine EJ_if_ne 10 8 (dk_154 (bt bc_Mod_fog_0 5 rfl) (bt bc_Mod_fog_0 6 rfl) (bt bc_Mod_fog_0 7 rfl) (n := 5) rfl) (by decide) rfl (fun _ => ?_) (fun _ => ?_)
  · refine EJ_iload_n 11 2 (dk_28 (bt bc_Mod_fog_0 10 rfl)) rfl rfl ?_
    refine EJ_iconst 12 (dk_2 (bt bc_Mod_fog_0 11 rfl)) rfl (v := (-1)) kI_m1 ?_
    refine EJ_icmp_ne 24 15 (dk_160 (bt bc_Mod_fog_0 12 rfl) (bt bc_Mod_fog_0 13 rfl) (bt bc_Mod_fog_0 14 rfl) (n := 12) rfl) (by decide) rfl (fun _ => ?_) (fun _ => ?_)
    · refine EJ_iload_n 25 2 (dk_28 (bt bc_Mod_fog_0 24 rfl)) rfl rfl ?_
      refine EJ_iconst 26 (dk_3 (bt bc_Mod_fog_0 25 rfl)) rfl (v := 0) kI_0 ?_
      refine EJ_sipush 29 (dk_17 (bt bc_Mod_fog_0 26 rfl) (bt bc_Mod_fog_0 27 rfl) (bt bc_Mod_fog_0 28 rfl) (n := 1439) rfl) rfl (v := 1439) kS_1439 ?_
      refine EJ_callSi (Y2 := Y_Mod_in) 32 (s_Mod_in G _ _ _ _) rfl (dk_184 (bt bc_Mod_fog_0 29 rfl) (bt bc_Mod_fog_0 30 rfl) (bt bc_Mod_fog_0 31 rfl) (n := 252) rfl) rfl tw_1532 tw_1533 tw_8 tw_1534 hd_Mod_in rfl (by decide) (Nat.le_of_ble_eq_true rfl) (fun r4 M5 => ?_)
      refine EJ_if_eq 46 35 (dk_153 (bt bc_Mod_fog_1 0 rfl) (bt bc_Mod_fog_1 1 rfl) (bt bc_Mod_fog_1 2 rfl) (n := 14) rfl) (by decide) rfl (fun _ => ?_) (fun _ => ?_)
      · refine EJ_iconst 47 (dk_3 (bt bc_Mod_fog_1 14 rfl)) rfl (v := 0) kI_0 ?_
        exact EJ_zret rfl (by decide) (dk_172 (bt bc_Mod_fog_1 15 rfl))
      · refine EJ_iload_n 36 3 (dk_29 (bt bc_Mod_fog_1 3 rfl)) rfl rfl ?_
        refine EJ_iconst 37 (dk_3 (bt bc_Mod_fog_1 4 rfl)) rfl (v := 0) kI_0 ?_
        refine EJ_sipush 40 (dk_17 (bt bc_Mod_fog_1 5 rfl) (bt bc_Mod_fog_1 6 rfl) (bt bc_Mod_fog_1 7 rfl) (n := 1439) rfl) rfl (v := 1439) kS_1439 ?_
        refine EJ_callSi (Y2 := Y_Mod_in) 43 (s_Mod_in G _ _ _ _) rfl (dk_184 (bt bc_Mod_fog_1 8 rfl) (bt bc_Mod_fog_1 9 rfl) (bt bc_Mod_fog_1 10 rfl) (n := 252) rfl) rfl tw_1532 tw_1533 tw_8 tw_1534 hd_Mod_in rfl (by decide) (Nat.le_of_ble_eq_true rfl) (fun r6 M7 => ?_)
        refine EJ_if_ne 48 46 (dk_154 (bt bc_Mod_fog_1 11 rfl) (bt bc_Mod_fog_1 12 rfl) (bt bc_Mod_fog_1 13 rfl) (n := 5) rfl) (by decide) rfl (fun _ => ?_) (fun _ => ?_)
        · refine EJ_aload_n 49 0 (dk_42 (bt bc_Mod_fog_1 16 rfl)) rfl rfl ?_
          refine EJ_ck (fun h8 => ?_)
          refine EJ_getR cf12 3 (by decide) 52 tw_1201 (fun _ _ _ => rfl) (dk_180 (bt bc_Mod_fog_1 17 rfl) (bt bc_Mod_fog_1 18 rfl) (bt bc_Mod_fog_1 19 rfl) (n := 13) rfl) rfl (of_decide_eq_true h8) (fun b9 => ?_)
          refine EJ_iload_n 53 1 (dk_27 (bt bc_Mod_fog_1 20 rfl)) rfl rfl ?_
          refine EJ_iload_n 54 2 (dk_28 (bt bc_Mod_fog_1 21 rfl)) rfl rfl ?_
          refine EJ_ck (fun h10 => ?_)
          refine EJ_iast 55 h10 (dk_79 (bt bc_Mod_fog_1 22 rfl)) rfl ?_
          refine EJ_aload_n 56 0 (dk_42 (bt bc_Mod_fog_1 23 rfl)) rfl rfl ?_
          refine EJ_getR cf12 4 (by decide) 59 tw_1202 (fun _ _ _ => rfl) (dk_180 (bt bc_Mod_fog_1 24 rfl) (bt bc_Mod_fog_1 25 rfl) (bt bc_Mod_fog_1 26 rfl) (n := 17) rfl) rfl (kp_I (of_decide_eq_true h8)) (fun b12 => ?_)
          refine EJ_iload_n 60 1 (dk_27 (bt bc_Mod_fog_1 27 rfl)) rfl rfl ?_
          refine EJ_iload_n 61 3 (dk_29 (bt bc_Mod_fog_1 28 rfl)) rfl rfl ?_
          refine EJ_ck (fun h13 => ?_)
          refine EJ_iast 62 h13 (dk_79 (bt bc_Mod_fog_1 29 rfl)) rfl ?_
          refine EJ_iconst 63 (dk_4 (bt bc_Mod_fog_1 30 rfl)) rfl (v := 1) kI_1 ?_
          exact EJ_zret rfl (by decide) (dk_172 (bt bc_Mod_fog_1 31 rfl))
        · refine EJ_iconst 47 (dk_3 (bt bc_Mod_fog_1 14 rfl)) rfl (v := 0) kI_0 ?_
          exact EJ_zret rfl (by decide) (dk_172 (bt bc_Mod_fog_1 15 rfl))
    · refine EJ_aload_n 16 0 (dk_42 (bt bc_Mod_fog_0 15 rfl)) rfl rfl ?_
      refine EJ_ck (fun h15 => ?_)
      refine EJ_getR cf12 3 (by decide) 19 tw_1201 (fun _ _ _ => rfl) (dk_180 (bt bc_Mod_fog_0 16 rfl) (bt bc_Mod_fog_0 17 rfl) (bt bc_Mod_fog_0 18 rfl) (n := 13) rfl) rfl (of_decide_eq_true h15) (fun b16 => ?_)
      refine EJ_iload_n 20 1 (dk_27 (bt bc_Mod_fog_0 19 rfl)) rfl rfl ?_
      refine EJ_iconst 21 (dk_2 (bt bc_Mod_fog_0 20 rfl)) rfl (v := (-1)) kI_m1 ?_
      refine EJ_ck (fun h17 => ?_)
      refine EJ_iast 22 h17 (dk_79 (bt bc_Mod_fog_0 21 rfl)) rfl ?_
      refine EJ_iconst 23 (dk_4 (bt bc_Mod_fog_0 22 rfl)) rfl (v := 1) kI_1 ?_
      exact EJ_zret rfl (by decide) (dk_172 (bt bc_Mod_fog_0 23 rfl))
  · refine EJ_iconst 9 (dk_3 (bt bc_Mod_fog_0 8 rfl)) rfl (v := 0) kI_0 ?_
    exact EJ_zret rfl (by decide) (dk_172 (bt bc_Mod_fog_0 9 rfl))
abbrev Y_Mod_road : Ym := (⟨"RiceHallModel", "road", "(IIII)Z"⟩, prog_14_method_10_code, 5, (some FieldType.boolean))
theorem bc_Mod_road_0 : bts prog_14_method_10_code 0 [42, 27, 182, 0, 248, 153, 0, 39, 42, 28, 182, 0, 248, 153, 0, 31, 27, 28, 159, 0, 26, 29, 3, 17, 0, 200, 184, 0, 252, 153, 0, 15] := bts_of (by decide +kernel)
theorem bc_Mod_road_1 : bts prog_14_method_10_code 32 [21, 4, 4, 17, 7, 208, 184, 0, 252, 154, 0, 5, 3, 172, 42, 180, 0, 20, 16, 10, 27, 104, 28, 96, 29, 79, 42, 180, 0, 20, 16, 10] := bts_of (by decide +kernel)
theorem bc_Mod_road_2 : bts prog_14_method_10_code 64 [28, 104, 27, 96, 29, 79, 42, 180, 0, 23, 16, 10, 27, 104, 28, 96, 21, 4, 79, 42, 180, 0, 23, 16, 10, 28, 104, 27, 96, 21, 4, 79] := bts_of (by decide +kernel)
theorem bc_Mod_road_3 : bts prog_14_method_10_code 96 [4, 172] := bts_of (by decide +kernel)
theorem hd_Mod_road : Y_Mod_road.1.cls = RX12 ∧ Y_Mod_road.1.cls ≠ "java/lang/invoke/MethodHandle" ∧ Y_Mod_road.1.cls ≠ "java/lang/invoke/VarHandle" ∧ (parseMethodDescriptor Y_Mod_road.1.desc).map (fun d => d.parameters.length) = some 4 := by decide +kernel
def Mod_road (M : Mm) (a0 : Nat) (a1 : Int32) (a2 : Int32) (a3 : Int32) (a4 : Int32) : Option (Int32 × Mm) :=
  ck (kO M a0 12 107) (
  bd (Mod_isTown M a0 a1) (fun r2 M3 =>
  if r2 = 0 then (
    some (0, M3))
  else (
    ck (kO M3 a0 12 107) (
    bd (Mod_isTown M3 a0 a2) (fun r5 M6 =>
    if r5 = 0 then (
      some (0, M6))
    else (
      if a1 = a2 then (
        some (0, M6))
      else (
        bd (Mod_in M6 a3 0 200) (fun r7 M8 =>
        if r7 = 0 then (
          some (0, M8))
        else (
          bd (Mod_in M8 a4 1 2000) (fun r9 M10 =>
          if r9 = 0 then (
            some (0, M10))
          else (
            ck (kO M10 a0 12 107) (
            nn (mR M10 a0 5) (fun b12 =>
            ck (kA M10 b12 20 ((10 * a1) + a2)) (
            let M14 := sI M10 b12 (ix ((10 * a1) + a2)) a3
            nn (mR M14 a0 5) (fun b15 =>
            ck (kA M14 b15 20 ((10 * a2) + a1)) (
            let M17 := sI M14 b15 (ix ((10 * a2) + a1)) a3
            nn (mR M17 a0 6) (fun b18 =>
            ck (kA M17 b18 20 ((10 * a1) + a2)) (
            let M20 := sI M17 b18 (ix ((10 * a1) + a2)) a4
            nn (mR M20 a0 6) (fun b21 =>
            ck (kA M20 b21 20 ((10 * a2) + a1)) (
            let M23 := sI M20 b21 (ix ((10 * a2) + a1)) a4
            some (1, M23)))))))))))))))))))))
set_option maxRecDepth 100000 in
set_option maxHeartbeats 4000000 in
theorem s_Mod_road (G : Gx) (M : Mm) (a0 : Nat) (a1 : Int32) (a2 : Int32) (a3 : Int32) (a4 : Int32) : FnS G Y_Mod_road cvI 2 [.ref a0, .int a1, .int a2, .int a3, .int a4] M (Mod_road M a0 a1 a2 a3 a4) := by
  refine FnS.ofE (by decide) (Nat.le_of_ble_eq_true rfl) ?_
  show EJ G Y_Mod_road cvI 2 0 [(0, .ref a0), (1, .int a1), (2, .int a2), (3, .int a3), (4, .int a4)] [] M _
  unfold Mod_road
  refine EJ_aload_n 1 0 (dk_42 (bt bc_Mod_road_0 0 rfl)) rfl rfl ?_
  refine EJ_iload_n 2 1 (dk_27 (bt bc_Mod_road_0 1 rfl)) rfl rfl ?_
  refine EJ_ck (fun h1 => ?_)
  refine EJ_callVi (Y2 := Y_Mod_isTown) 5 cf12 (s_Mod_isTown G _ _ _) (of_decide_eq_true h1) rfl (dk_182 (bt bc_Mod_road_0 2 rfl) (bt bc_Mod_road_0 3 rfl) (bt bc_Mod_road_0 4 rfl) (n := 248) rfl) rfl tw_1528 tw_1530 ts_36 tw_1531 hd_Mod_isTown rfl (by decide) (Nat.le_of_ble_eq_true rfl) (fun r2 M3 => ?_)
  refine EJ_if_eq 44 8 (dk_153 (bt bc_Mod_road_0 5 rfl) (bt bc_Mod_road_0 6 rfl) (bt bc_Mod_road_0 7 rfl) (n := 39) rfl) (by decide) rfl (fun _ => ?_) (fun _ => ?_)
  · refine EJ_iconst 45 (dk_3 (bt bc_Mod_road_1 12 rfl)) rfl (v := 0) kI_0 ?_
    exact EJ_zret rfl (by decide) (dk_172 (bt bc_Mod_road_1 13 rfl))
  · refine EJ_aload_n 9 0 (dk_42 (bt bc_Mod_road_0 8 rfl)) rfl rfl ?_
    refine EJ_iload_n 10 2 (dk_28 (bt bc_Mod_road_0 9 rfl)) rfl rfl ?_
    refine EJ_ck (fun h4 => ?_)
    refine EJ_callVi (Y2 := Y_Mod_isTown) 13 cf12 (s_Mod_isTown G _ _ _) (of_decide_eq_true h4) rfl (dk_182 (bt bc_Mod_road_0 10 rfl) (bt bc_Mod_road_0 11 rfl) (bt bc_Mod_road_0 12 rfl) (n := 248) rfl) rfl tw_1528 tw_1530 ts_36 tw_1531 hd_Mod_isTown rfl (by decide) (Nat.le_of_ble_eq_true rfl) (fun r5 M6 => ?_)
    refine EJ_if_eq 44 16 (dk_153 (bt bc_Mod_road_0 13 rfl) (bt bc_Mod_road_0 14 rfl) (bt bc_Mod_road_0 15 rfl) (n := 31) rfl) (by decide) rfl (fun _ => ?_) (fun _ => ?_)
    · refine EJ_iconst 45 (dk_3 (bt bc_Mod_road_1 12 rfl)) rfl (v := 0) kI_0 ?_
      exact EJ_zret rfl (by decide) (dk_172 (bt bc_Mod_road_1 13 rfl))
    · refine EJ_iload_n 17 1 (dk_27 (bt bc_Mod_road_0 16 rfl)) rfl rfl ?_
      refine EJ_iload_n 18 2 (dk_28 (bt bc_Mod_road_0 17 rfl)) rfl rfl ?_
      refine EJ_icmp_eq 44 21 (dk_159 (bt bc_Mod_road_0 18 rfl) (bt bc_Mod_road_0 19 rfl) (bt bc_Mod_road_0 20 rfl) (n := 26) rfl) (by decide) rfl (fun _ => ?_) (fun _ => ?_)
      · refine EJ_iconst 45 (dk_3 (bt bc_Mod_road_1 12 rfl)) rfl (v := 0) kI_0 ?_
        exact EJ_zret rfl (by decide) (dk_172 (bt bc_Mod_road_1 13 rfl))
      · refine EJ_iload_n 22 3 (dk_29 (bt bc_Mod_road_0 21 rfl)) rfl rfl ?_
        refine EJ_iconst 23 (dk_3 (bt bc_Mod_road_0 22 rfl)) rfl (v := 0) kI_0 ?_
        refine EJ_sipush 26 (dk_17 (bt bc_Mod_road_0 23 rfl) (bt bc_Mod_road_0 24 rfl) (bt bc_Mod_road_0 25 rfl) (n := 200) rfl) rfl (v := 200) kS_200 ?_
        refine EJ_callSi (Y2 := Y_Mod_in) 29 (s_Mod_in G _ _ _ _) rfl (dk_184 (bt bc_Mod_road_0 26 rfl) (bt bc_Mod_road_0 27 rfl) (bt bc_Mod_road_0 28 rfl) (n := 252) rfl) rfl tw_1532 tw_1533 tw_8 tw_1534 hd_Mod_in rfl (by decide) (Nat.le_of_ble_eq_true rfl) (fun r7 M8 => ?_)
        refine EJ_if_eq 44 32 (dk_153 (bt bc_Mod_road_0 29 rfl) (bt bc_Mod_road_0 30 rfl) (bt bc_Mod_road_0 31 rfl) (n := 15) rfl) (by decide) rfl (fun _ => ?_) (fun _ => ?_)
        · refine EJ_iconst 45 (dk_3 (bt bc_Mod_road_1 12 rfl)) rfl (v := 0) kI_0 ?_
          exact EJ_zret rfl (by decide) (dk_172 (bt bc_Mod_road_1 13 rfl))
        · refine EJ_iload 34 4 (dk_21 (bt bc_Mod_road_1 0 rfl) (bt bc_Mod_road_1 1 rfl)) rfl rfl ?_
          refine EJ_iconst 35 (dk_4 (bt bc_Mod_road_1 2 rfl)) rfl (v := 1) kI_1 ?_
          refine EJ_sipush 38 (dk_17 (bt bc_Mod_road_1 3 rfl) (bt bc_Mod_road_1 4 rfl) (bt bc_Mod_road_1 5 rfl) (n := 2000) rfl) rfl (v := 2000) kS_2000 ?_
          refine EJ_callSi (Y2 := Y_Mod_in) 41 (s_Mod_in G _ _ _ _) rfl (dk_184 (bt bc_Mod_road_1 6 rfl) (bt bc_Mod_road_1 7 rfl) (bt bc_Mod_road_1 8 rfl) (n := 252) rfl) rfl tw_1532 tw_1533 tw_8 tw_1534 hd_Mod_in rfl (by decide) (Nat.le_of_ble_eq_true rfl) (fun r9 M10 => ?_)
          refine EJ_if_ne 46 44 (dk_154 (bt bc_Mod_road_1 9 rfl) (bt bc_Mod_road_1 10 rfl) (bt bc_Mod_road_1 11 rfl) (n := 5) rfl) (by decide) rfl (fun _ => ?_) (fun _ => ?_)
          · refine EJ_aload_n 47 0 (dk_42 (bt bc_Mod_road_1 14 rfl)) rfl rfl ?_
            refine EJ_ck (fun h11 => ?_)
            refine EJ_getR cf12 5 (by decide) 50 tw_1203 (fun _ _ _ => rfl) (dk_180 (bt bc_Mod_road_1 15 rfl) (bt bc_Mod_road_1 16 rfl) (bt bc_Mod_road_1 17 rfl) (n := 20) rfl) rfl (of_decide_eq_true h11) (fun b12 => ?_)
            refine EJ_bipush 52 (dk_16 (bt bc_Mod_road_1 18 rfl) (bt bc_Mod_road_1 19 rfl) (n := 10) rfl) rfl (v := 10) kB_10 ?_
            refine EJ_iload_n 53 1 (dk_27 (bt bc_Mod_road_1 20 rfl)) rfl rfl ?_
            refine EJ_imul 54 (dk_104 (bt bc_Mod_road_1 21 rfl)) rfl ?_
            refine EJ_iload_n 55 2 (dk_28 (bt bc_Mod_road_1 22 rfl)) rfl rfl ?_
            refine EJ_iadd 56 (dk_96 (bt bc_Mod_road_1 23 rfl)) rfl ?_
            refine EJ_iload_n 57 3 (dk_29 (bt bc_Mod_road_1 24 rfl)) rfl rfl ?_
            refine EJ_ck (fun h13 => ?_)
            refine EJ_iast 58 h13 (dk_79 (bt bc_Mod_road_1 25 rfl)) rfl ?_
            refine EJ_aload_n 59 0 (dk_42 (bt bc_Mod_road_1 26 rfl)) rfl rfl ?_
            refine EJ_getR cf12 5 (by decide) 62 tw_1203 (fun _ _ _ => rfl) (dk_180 (bt bc_Mod_road_1 27 rfl) (bt bc_Mod_road_1 28 rfl) (bt bc_Mod_road_1 29 rfl) (n := 20) rfl) rfl (kp_I (of_decide_eq_true h11)) (fun b15 => ?_)
            refine EJ_bipush 64 (dk_16 (bt bc_Mod_road_1 30 rfl) (bt bc_Mod_road_1 31 rfl) (n := 10) rfl) rfl (v := 10) kB_10 ?_
            refine EJ_iload_n 65 2 (dk_28 (bt bc_Mod_road_2 0 rfl)) rfl rfl ?_
            refine EJ_imul 66 (dk_104 (bt bc_Mod_road_2 1 rfl)) rfl ?_
            refine EJ_iload_n 67 1 (dk_27 (bt bc_Mod_road_2 2 rfl)) rfl rfl ?_
            refine EJ_iadd 68 (dk_96 (bt bc_Mod_road_2 3 rfl)) rfl ?_
            refine EJ_iload_n 69 3 (dk_29 (bt bc_Mod_road_2 4 rfl)) rfl rfl ?_
            refine EJ_ck (fun h16 => ?_)
            refine EJ_iast 70 h16 (dk_79 (bt bc_Mod_road_2 5 rfl)) rfl ?_
            refine EJ_aload_n 71 0 (dk_42 (bt bc_Mod_road_2 6 rfl)) rfl rfl ?_
            refine EJ_getR cf12 6 (by decide) 74 tw_1204 (fun _ _ _ => rfl) (dk_180 (bt bc_Mod_road_2 7 rfl) (bt bc_Mod_road_2 8 rfl) (bt bc_Mod_road_2 9 rfl) (n := 23) rfl) rfl (kp_I (kp_I (of_decide_eq_true h11))) (fun b18 => ?_)
            refine EJ_bipush 76 (dk_16 (bt bc_Mod_road_2 10 rfl) (bt bc_Mod_road_2 11 rfl) (n := 10) rfl) rfl (v := 10) kB_10 ?_
            refine EJ_iload_n 77 1 (dk_27 (bt bc_Mod_road_2 12 rfl)) rfl rfl ?_
            refine EJ_imul 78 (dk_104 (bt bc_Mod_road_2 13 rfl)) rfl ?_
            refine EJ_iload_n 79 2 (dk_28 (bt bc_Mod_road_2 14 rfl)) rfl rfl ?_
            refine EJ_iadd 80 (dk_96 (bt bc_Mod_road_2 15 rfl)) rfl ?_
            refine EJ_iload 82 4 (dk_21 (bt bc_Mod_road_2 16 rfl) (bt bc_Mod_road_2 17 rfl)) rfl rfl ?_
            refine EJ_ck (fun h19 => ?_)
            refine EJ_iast 83 h19 (dk_79 (bt bc_Mod_road_2 18 rfl)) rfl ?_
            refine EJ_aload_n 84 0 (dk_42 (bt bc_Mod_road_2 19 rfl)) rfl rfl ?_
            refine EJ_getR cf12 6 (by decide) 87 tw_1204 (fun _ _ _ => rfl) (dk_180 (bt bc_Mod_road_2 20 rfl) (bt bc_Mod_road_2 21 rfl) (bt bc_Mod_road_2 22 rfl) (n := 23) rfl) rfl (kp_I (kp_I (kp_I (of_decide_eq_true h11)))) (fun b21 => ?_)
            refine EJ_bipush 89 (dk_16 (bt bc_Mod_road_2 23 rfl) (bt bc_Mod_road_2 24 rfl) (n := 10) rfl) rfl (v := 10) kB_10 ?_
            refine EJ_iload_n 90 2 (dk_28 (bt bc_Mod_road_2 25 rfl)) rfl rfl ?_
            refine EJ_imul 91 (dk_104 (bt bc_Mod_road_2 26 rfl)) rfl ?_
            refine EJ_iload_n 92 1 (dk_27 (bt bc_Mod_road_2 27 rfl)) rfl rfl ?_
            refine EJ_iadd 93 (dk_96 (bt bc_Mod_road_2 28 rfl)) rfl ?_
            refine EJ_iload 95 4 (dk_21 (bt bc_Mod_road_2 29 rfl) (bt bc_Mod_road_2 30 rfl)) rfl rfl ?_
            refine EJ_ck (fun h22 => ?_)
            refine EJ_iast 96 h22 (dk_79 (bt bc_Mod_road_2 31 rfl)) rfl ?_
            refine EJ_iconst 97 (dk_4 (bt bc_Mod_road_3 0 rfl)) rfl (v := 1) kI_1 ?_
            exact EJ_zret rfl (by decide) (dk_172 (bt bc_Mod_road_3 1 rfl))
          · refine EJ_iconst 45 (dk_3 (bt bc_Mod_road_1 12 rfl)) rfl (v := 0) kI_0 ?_
            exact EJ_zret rfl (by decide) (dk_172 (bt bc_Mod_road_1 13 rfl))
abbrev Y_Mod_hasFog : Ym := (⟨"RiceHallModel", "hasFog", "(II)Z"⟩, prog_14_method_11_code, 3, (some FieldType.boolean))
theorem bc_Mod_hasFog_0 : bts prog_14_method_11_code 0 [42, 180, 0, 13, 27, 46, 156, 0, 5, 3, 172, 42, 180, 0, 13, 27, 46, 42, 180, 0, 17, 27, 46, 163, 0, 31, 28, 42, 180, 0, 13, 27] := bts_of (by decide +kernel)
theorem bc_Mod_hasFog_1 : bts prog_14_method_11_code 32 [46, 161, 0, 17, 28, 42, 180, 0, 17, 27, 46, 163, 0, 7, 4, 167, 0, 32, 3, 167, 0, 28, 28, 42, 180, 0, 13, 27, 46, 162, 0, 13] := bts_of (by decide +kernel)
theorem bc_Mod_hasFog_2 : bts prog_14_method_11_code 64 [28, 42, 180, 0, 17, 27, 46, 163, 0, 7, 4, 167, 0, 4, 3, 172] := bts_of (by decide +kernel)
theorem hd_Mod_hasFog : Y_Mod_hasFog.1.cls = RX12 ∧ Y_Mod_hasFog.1.cls ≠ "java/lang/invoke/MethodHandle" ∧ Y_Mod_hasFog.1.cls ≠ "java/lang/invoke/VarHandle" ∧ (parseMethodDescriptor Y_Mod_hasFog.1.desc).map (fun d => d.parameters.length) = some 2 := by decide +kernel
def Mod_hasFog (M : Mm) (a0 : Nat) (a1 : Int32) (a2 : Int32) : Option (Int32 × Mm) :=
  ck (kO M a0 12 107) (
  nn (mR M a0 3) (fun b2 =>
  ck (kA M b2 20 a1) (
  if 0 ≤ (mI M b2 (ix a1)) then (
    nn (mR M a0 3) (fun b4 =>
    ck (kA M b4 20 a1) (
    nn (mR M a0 4) (fun b6 =>
    ck (kA M b6 20 a1) (
    if (mI M b6 (ix a1)) < (mI M b4 (ix a1)) then (
      nn (mR M a0 3) (fun b8 =>
      ck (kA M b8 20 a1) (
      if (mI M b8 (ix a1)) ≤ a2 then (
        some (1, M))
      else (
        nn (mR M a0 4) (fun b10 =>
        ck (kA M b10 20 a1) (
        if (mI M b10 (ix a1)) < a2 then (
          some (0, M))
        else (
          some (1, M))))))))
    else (
      nn (mR M a0 3) (fun b12 =>
      ck (kA M b12 20 a1) (
      if a2 < (mI M b12 (ix a1)) then (
        some (0, M))
      else (
        nn (mR M a0 4) (fun b14 =>
        ck (kA M b14 20 a1) (
        if (mI M b14 (ix a1)) < a2 then (
          some (0, M))
        else (
          some (1, M)))))))))))))
  else (
    some (0, M)))))
set_option maxRecDepth 100000 in
set_option maxHeartbeats 4000000 in
theorem s_Mod_hasFog (G : Gx) (M : Mm) (a0 : Nat) (a1 : Int32) (a2 : Int32) : FnS G Y_Mod_hasFog cvI 1 [.ref a0, .int a1, .int a2] M (Mod_hasFog M a0 a1 a2) := by
  refine FnS.ofE (by decide) (Nat.le_of_ble_eq_true rfl) ?_
  show EJ G Y_Mod_hasFog cvI 1 0 [(0, .ref a0), (1, .int a1), (2, .int a2)] [] M _
  unfold Mod_hasFog
  refine EJ_aload_n 1 0 (dk_42 (bt bc_Mod_hasFog_0 0 rfl)) rfl rfl ?_
  refine EJ_ck (fun h1 => ?_)
  refine EJ_getR cf12 3 (by decide) 4 tw_1201 (fun _ _ _ => rfl) (dk_180 (bt bc_Mod_hasFog_0 1 rfl) (bt bc_Mod_hasFog_0 2 rfl) (bt bc_Mod_hasFog_0 3 rfl) (n := 13) rfl) rfl (of_decide_eq_true h1) (fun b2 => ?_)
  refine EJ_iload_n 5 1 (dk_27 (bt bc_Mod_hasFog_0 4 rfl)) rfl rfl ?_
  refine EJ_ck (fun h3 => ?_)
  refine EJ_iald 6 h3 (dk_46 (bt bc_Mod_hasFog_0 5 rfl)) rfl ?_
  refine EJ_if_ge 11 9 (dk_156 (bt bc_Mod_hasFog_0 6 rfl) (bt bc_Mod_hasFog_0 7 rfl) (bt bc_Mod_hasFog_0 8 rfl) (n := 5) rfl) (by decide) rfl (fun _ => ?_) (fun _ => ?_)
  · refine EJ_aload_n 12 0 (dk_42 (bt bc_Mod_hasFog_0 11 rfl)) rfl rfl ?_
    refine EJ_getR cf12 3 (by decide) 15 tw_1201 (fun _ _ _ => rfl) (dk_180 (bt bc_Mod_hasFog_0 12 rfl) (bt bc_Mod_hasFog_0 13 rfl) (bt bc_Mod_hasFog_0 14 rfl) (n := 13) rfl) rfl (of_decide_eq_true h1) (fun b4 => ?_)
    refine EJ_iload_n 16 1 (dk_27 (bt bc_Mod_hasFog_0 15 rfl)) rfl rfl ?_
    refine EJ_ck (fun h5 => ?_)
    refine EJ_iald 17 h5 (dk_46 (bt bc_Mod_hasFog_0 16 rfl)) rfl ?_
    refine EJ_aload_n 18 0 (dk_42 (bt bc_Mod_hasFog_0 17 rfl)) rfl rfl ?_
    refine EJ_getR cf12 4 (by decide) 21 tw_1202 (fun _ _ _ => rfl) (dk_180 (bt bc_Mod_hasFog_0 18 rfl) (bt bc_Mod_hasFog_0 19 rfl) (bt bc_Mod_hasFog_0 20 rfl) (n := 17) rfl) rfl (of_decide_eq_true h1) (fun b6 => ?_)
    refine EJ_iload_n 22 1 (dk_27 (bt bc_Mod_hasFog_0 21 rfl)) rfl rfl ?_
    refine EJ_ck (fun h7 => ?_)
    refine EJ_iald 23 h7 (dk_46 (bt bc_Mod_hasFog_0 22 rfl)) rfl ?_
    refine EJ_icmp_gt 54 26 (dk_163 (bt bc_Mod_hasFog_0 23 rfl) (bt bc_Mod_hasFog_0 24 rfl) (bt bc_Mod_hasFog_0 25 rfl) (n := 31) rfl) (by decide) rfl (fun _ => ?_) (fun _ => ?_)
    · refine EJ_iload_n 55 2 (dk_28 (bt bc_Mod_hasFog_1 22 rfl)) rfl rfl ?_
      refine EJ_aload_n 56 0 (dk_42 (bt bc_Mod_hasFog_1 23 rfl)) rfl rfl ?_
      refine EJ_getR cf12 3 (by decide) 59 tw_1201 (fun _ _ _ => rfl) (dk_180 (bt bc_Mod_hasFog_1 24 rfl) (bt bc_Mod_hasFog_1 25 rfl) (bt bc_Mod_hasFog_1 26 rfl) (n := 13) rfl) rfl (of_decide_eq_true h1) (fun b8 => ?_)
      refine EJ_iload_n 60 1 (dk_27 (bt bc_Mod_hasFog_1 27 rfl)) rfl rfl ?_
      refine EJ_ck (fun h9 => ?_)
      refine EJ_iald 61 h9 (dk_46 (bt bc_Mod_hasFog_1 28 rfl)) rfl ?_
      refine EJ_icmp_ge 74 64 (dk_162 (bt bc_Mod_hasFog_1 29 rfl) (bt bc_Mod_hasFog_1 30 rfl) (bt bc_Mod_hasFog_1 31 rfl) (n := 13) rfl) (by decide) rfl (fun _ => ?_) (fun _ => ?_)
      · refine EJ_iconst 75 (dk_4 (bt bc_Mod_hasFog_2 10 rfl)) rfl (v := 1) kI_1 ?_
        refine EJ_goto 79 (dk_167 (bt bc_Mod_hasFog_2 11 rfl) (bt bc_Mod_hasFog_2 12 rfl) (bt bc_Mod_hasFog_2 13 rfl) (n := 4) rfl) (by decide) ?_
        exact EJ_zret rfl (by decide) (dk_172 (bt bc_Mod_hasFog_2 15 rfl))
      · refine EJ_iload_n 65 2 (dk_28 (bt bc_Mod_hasFog_2 0 rfl)) rfl rfl ?_
        refine EJ_aload_n 66 0 (dk_42 (bt bc_Mod_hasFog_2 1 rfl)) rfl rfl ?_
        refine EJ_getR cf12 4 (by decide) 69 tw_1202 (fun _ _ _ => rfl) (dk_180 (bt bc_Mod_hasFog_2 2 rfl) (bt bc_Mod_hasFog_2 3 rfl) (bt bc_Mod_hasFog_2 4 rfl) (n := 17) rfl) rfl (of_decide_eq_true h1) (fun b10 => ?_)
        refine EJ_iload_n 70 1 (dk_27 (bt bc_Mod_hasFog_2 5 rfl)) rfl rfl ?_
        refine EJ_ck (fun h11 => ?_)
        refine EJ_iald 71 h11 (dk_46 (bt bc_Mod_hasFog_2 6 rfl)) rfl ?_
        refine EJ_icmp_gt 78 74 (dk_163 (bt bc_Mod_hasFog_2 7 rfl) (bt bc_Mod_hasFog_2 8 rfl) (bt bc_Mod_hasFog_2 9 rfl) (n := 7) rfl) (by decide) rfl (fun _ => ?_) (fun _ => ?_)
        · refine EJ_iconst 79 (dk_3 (bt bc_Mod_hasFog_2 14 rfl)) rfl (v := 0) kI_0 ?_
          exact EJ_zret rfl (by decide) (dk_172 (bt bc_Mod_hasFog_2 15 rfl))
        · refine EJ_iconst 75 (dk_4 (bt bc_Mod_hasFog_2 10 rfl)) rfl (v := 1) kI_1 ?_
          refine EJ_goto 79 (dk_167 (bt bc_Mod_hasFog_2 11 rfl) (bt bc_Mod_hasFog_2 12 rfl) (bt bc_Mod_hasFog_2 13 rfl) (n := 4) rfl) (by decide) ?_
          exact EJ_zret rfl (by decide) (dk_172 (bt bc_Mod_hasFog_2 15 rfl))
    · refine EJ_iload_n 27 2 (dk_28 (bt bc_Mod_hasFog_0 26 rfl)) rfl rfl ?_
      refine EJ_aload_n 28 0 (dk_42 (bt bc_Mod_hasFog_0 27 rfl)) rfl rfl ?_
      refine EJ_getR cf12 3 (by decide) 31 tw_1201 (fun _ _ _ => rfl) (dk_180 (bt bc_Mod_hasFog_0 28 rfl) (bt bc_Mod_hasFog_0 29 rfl) (bt bc_Mod_hasFog_0 30 rfl) (n := 13) rfl) rfl (of_decide_eq_true h1) (fun b12 => ?_)
      refine EJ_iload_n 32 1 (dk_27 (bt bc_Mod_hasFog_0 31 rfl)) rfl rfl ?_
      refine EJ_ck (fun h13 => ?_)
      refine EJ_iald 33 h13 (dk_46 (bt bc_Mod_hasFog_1 0 rfl)) rfl ?_
      refine EJ_icmp_lt 50 36 (dk_161 (bt bc_Mod_hasFog_1 1 rfl) (bt bc_Mod_hasFog_1 2 rfl) (bt bc_Mod_hasFog_1 3 rfl) (n := 17) rfl) (by decide) rfl (fun _ => ?_) (fun _ => ?_)
      · refine EJ_iconst 51 (dk_3 (bt bc_Mod_hasFog_1 18 rfl)) rfl (v := 0) kI_0 ?_
        refine EJ_goto 79 (dk_167 (bt bc_Mod_hasFog_1 19 rfl) (bt bc_Mod_hasFog_1 20 rfl) (bt bc_Mod_hasFog_1 21 rfl) (n := 28) rfl) (by decide) ?_
        exact EJ_zret rfl (by decide) (dk_172 (bt bc_Mod_hasFog_2 15 rfl))
      · refine EJ_iload_n 37 2 (dk_28 (bt bc_Mod_hasFog_1 4 rfl)) rfl rfl ?_
        refine EJ_aload_n 38 0 (dk_42 (bt bc_Mod_hasFog_1 5 rfl)) rfl rfl ?_
        refine EJ_getR cf12 4 (by decide) 41 tw_1202 (fun _ _ _ => rfl) (dk_180 (bt bc_Mod_hasFog_1 6 rfl) (bt bc_Mod_hasFog_1 7 rfl) (bt bc_Mod_hasFog_1 8 rfl) (n := 17) rfl) rfl (of_decide_eq_true h1) (fun b14 => ?_)
        refine EJ_iload_n 42 1 (dk_27 (bt bc_Mod_hasFog_1 9 rfl)) rfl rfl ?_
        refine EJ_ck (fun h15 => ?_)
        refine EJ_iald 43 h15 (dk_46 (bt bc_Mod_hasFog_1 10 rfl)) rfl ?_
        refine EJ_icmp_gt 50 46 (dk_163 (bt bc_Mod_hasFog_1 11 rfl) (bt bc_Mod_hasFog_1 12 rfl) (bt bc_Mod_hasFog_1 13 rfl) (n := 7) rfl) (by decide) rfl (fun _ => ?_) (fun _ => ?_)
        · refine EJ_iconst 51 (dk_3 (bt bc_Mod_hasFog_1 18 rfl)) rfl (v := 0) kI_0 ?_
          refine EJ_goto 79 (dk_167 (bt bc_Mod_hasFog_1 19 rfl) (bt bc_Mod_hasFog_1 20 rfl) (bt bc_Mod_hasFog_1 21 rfl) (n := 28) rfl) (by decide) ?_
          exact EJ_zret rfl (by decide) (dk_172 (bt bc_Mod_hasFog_2 15 rfl))
        · refine EJ_iconst 47 (dk_4 (bt bc_Mod_hasFog_1 14 rfl)) rfl (v := 1) kI_1 ?_
          refine EJ_goto 79 (dk_167 (bt bc_Mod_hasFog_1 15 rfl) (bt bc_Mod_hasFog_1 16 rfl) (bt bc_Mod_hasFog_1 17 rfl) (n := 32) rfl) (by decide) ?_
          exact EJ_zret rfl (by decide) (dk_172 (bt bc_Mod_hasFog_2 15 rfl))
  · refine EJ_iconst 10 (dk_3 (bt bc_Mod_hasFog_0 9 rfl)) rfl (v := 0) kI_0 ?_
    exact EJ_zret rfl (by decide) (dk_172 (bt bc_Mod_hasFog_0 10 rfl))
abbrev Y_Mod_goes : Ym := (⟨"RiceHallModel", "goes", "(III)I"⟩, prog_14_method_12_code, 8, (some FieldType.int))
theorem bc_Mod_goes_0 : bts prog_14_method_12_code 0 [29, 42, 180, 0, 23, 16, 10, 27, 104, 28, 96, 46, 96, 54, 4, 42, 180, 0, 20, 16, 10, 27, 104, 28, 96, 46, 54, 5, 21, 5, 154, 0] := bts_of (by decide +kernel)
theorem bc_Mod_goes_1 : bts prog_14_method_12_code 32 [6, 21, 4, 172, 29, 54, 6, 21, 6, 29, 17, 11, 64, 96, 162, 0, 69, 21, 6, 21, 5, 96, 21, 4, 162, 0, 59, 21, 6, 17, 5, 160] := bts_of (by decide +kernel)
theorem bc_Mod_goes_2 : bts prog_14_method_12_code 64 [112, 54, 7, 21, 7, 17, 1, 104, 161, 0, 37, 21, 7, 17, 4, 56, 162, 0, 29, 42, 27, 21, 7, 182, 1, 0, 154, 0, 19, 42, 28, 21] := bts_of (by decide +kernel)
theorem bc_Mod_goes_3 : bts prog_14_method_12_code 96 [7, 182, 1, 0, 154, 0, 9, 21, 6, 21, 5, 96, 172, 132, 6, 1, 167, 255, 183, 21, 4, 172] := bts_of (by decide +kernel)
theorem hd_Mod_goes : Y_Mod_goes.1.cls = RX12 ∧ Y_Mod_goes.1.cls ≠ "java/lang/invoke/MethodHandle" ∧ Y_Mod_goes.1.cls ≠ "java/lang/invoke/VarHandle" ∧ (parseMethodDescriptor Y_Mod_goes.1.desc).map (fun d => d.parameters.length) = some 3 := by decide +kernel
def Mod_goes_J109 (k39 : Nat → Int32 → Int32 → Int32 → Int32 → Int32 → Int32 → Mm → Option (Int32 × Mm)) (x0 : Nat) (x1 : Int32) (x2 : Int32) (x3 : Int32) (x4 : Int32) (x5 : Int32) (x6 : Int32) (M : Mm) : Option (Int32 × Mm) :=
  let v9 : Int32 := x6 + 1
  k39 x0 x1 x2 x3 x4 x5 v9 M
set_option maxRecDepth 100000 in
set_option maxHeartbeats 4000000 in
theorem e_Mod_goes_J109 {G : Gx} (k39 : Nat → Int32 → Int32 → Int32 → Int32 → Int32 → Int32 → Mm → Option (Int32 × Mm)) (hk39 : ∀ (x0 : Nat) (x1 : Int32) (x2 : Int32) (x3 : Int32) (x4 : Int32) (x5 : Int32) (x6 : Int32) (M : Mm), EJ G Y_Mod_goes cvI 2 39 [(0, .ref x0), (1, .int x1), (2, .int x2), (3, .int x3), (4, .int x4), (5, .int x5), (6, .int x6)] [] M (k39 x0 x1 x2 x3 x4 x5 x6 M)) (x0 : Nat) (x1 : Int32) (x2 : Int32) (x3 : Int32) (x4 : Int32) (x5 : Int32) (x6 : Int32) (M : Mm) : EJ G Y_Mod_goes cvI 2 109 [(0, .ref x0), (1, .int x1), (2, .int x2), (3, .int x3), (4, .int x4), (5, .int x5), (6, .int x6)] [] M (Mod_goes_J109 k39 x0 x1 x2 x3 x4 x5 x6 M) := by
  unfold Mod_goes_J109
  refine EJ_iinc 112 6 (lv2 := [(6, .int _), (0, .ref _), (1, .int _), (2, .int _), (3, .int _), (4, .int _), (5, .int _)]) (dk_132 (bt bc_Mod_goes_3 13 rfl) (bt bc_Mod_goes_3 14 rfl) (bt bc_Mod_goes_3 15 rfl) (n := 1) rfl) rfl (by decide) rfl (v := 1) kI_1 rfl ?_
  refine EJ_goto 39 (dk_167 (bt bc_Mod_goes_3 16 rfl) (bt bc_Mod_goes_3 17 rfl) (bt bc_Mod_goes_3 18 rfl) (n := -73) rfl) (by decide) ?_
  exact EJ_pick (lv2 := [(0, .ref _), (1, .int _), (2, .int _), (3, .int _), (4, .int _), (5, .int _), (6, .int _)]) [1, 2, 3, 4, 5, 6, 0] rfl (hk39 _ _ _ _ _ _ _ _)
def Mod_goes_B39 (k39 : Nat → Int32 → Int32 → Int32 → Int32 → Int32 → Int32 → Mm → Option (Int32 × Mm)) (x0 : Nat) (x1 : Int32) (x2 : Int32) (x3 : Int32) (x4 : Int32) (x5 : Int32) (x6 : Int32) (M : Mm) : Option (Int32 × Mm) :=
  if (x3 + 2880) ≤ x6 then (
    some (x4, M))
  else (
    if x4 ≤ (x6 + x5) then (
      some (x4, M))
    else (
      let v8 : Int32 := rm x6 1440
      if v8 < 360 then (
        Mod_goes_J109 k39 x0 x1 x2 x3 x4 x5 x6 M)
      else (
        if 1080 ≤ v8 then (
          Mod_goes_J109 k39 x0 x1 x2 x3 x4 x5 x6 M)
        else (
          ck (kO M x0 12 107) (
          bd (Mod_hasFog M x0 x1 v8) (fun r11 M12 =>
          if r11 = 0 then (
            ck (kO M12 x0 12 107) (
            bd (Mod_hasFog M12 x0 x2 v8) (fun r14 M15 =>
            if r14 = 0 then (
              some (x6 + x5, M15))
            else (
              Mod_goes_J109 k39 x0 x1 x2 x3 x4 x5 x6 M15))))
          else (
            Mod_goes_J109 k39 x0 x1 x2 x3 x4 x5 x6 M12)))))))
set_option maxRecDepth 100000 in
set_option maxHeartbeats 4000000 in
theorem e_Mod_goes_B39 {G : Gx} (k39 : Nat → Int32 → Int32 → Int32 → Int32 → Int32 → Int32 → Mm → Option (Int32 × Mm)) (hk39 : ∀ (x0 : Nat) (x1 : Int32) (x2 : Int32) (x3 : Int32) (x4 : Int32) (x5 : Int32) (x6 : Int32) (M : Mm), EJ G Y_Mod_goes cvI 2 39 [(0, .ref x0), (1, .int x1), (2, .int x2), (3, .int x3), (4, .int x4), (5, .int x5), (6, .int x6)] [] M (k39 x0 x1 x2 x3 x4 x5 x6 M)) (x0 : Nat) (x1 : Int32) (x2 : Int32) (x3 : Int32) (x4 : Int32) (x5 : Int32) (x6 : Int32) (M : Mm) : EJ G Y_Mod_goes cvI 2 39 [(0, .ref x0), (1, .int x1), (2, .int x2), (3, .int x3), (4, .int x4), (5, .int x5), (6, .int x6)] [] M (Mod_goes_B39 k39 x0 x1 x2 x3 x4 x5 x6 M) := by
  unfold Mod_goes_B39
  refine EJ_iload 41 6 (dk_21 (bt bc_Mod_goes_1 7 rfl) (bt bc_Mod_goes_1 8 rfl)) rfl rfl ?_
  refine EJ_iload_n 42 3 (dk_29 (bt bc_Mod_goes_1 9 rfl)) rfl rfl ?_
  refine EJ_sipush 45 (dk_17 (bt bc_Mod_goes_1 10 rfl) (bt bc_Mod_goes_1 11 rfl) (bt bc_Mod_goes_1 12 rfl) (n := 2880) rfl) rfl (v := 2880) kS_2880 ?_
  refine EJ_iadd 46 (dk_96 (bt bc_Mod_goes_1 13 rfl)) rfl ?_
  refine EJ_icmp_ge 115 49 (dk_162 (bt bc_Mod_goes_1 14 rfl) (bt bc_Mod_goes_1 15 rfl) (bt bc_Mod_goes_1 16 rfl) (n := 69) rfl) (by decide) rfl (fun _ => ?_) (fun _ => ?_)
  · refine EJ_iload 117 4 (dk_21 (bt bc_Mod_goes_3 19 rfl) (bt bc_Mod_goes_3 20 rfl)) rfl rfl ?_
    exact EJ_iret rfl (dk_172 (bt bc_Mod_goes_3 21 rfl))
  · refine EJ_iload 51 6 (dk_21 (bt bc_Mod_goes_1 17 rfl) (bt bc_Mod_goes_1 18 rfl)) rfl rfl ?_
    refine EJ_iload 53 5 (dk_21 (bt bc_Mod_goes_1 19 rfl) (bt bc_Mod_goes_1 20 rfl)) rfl rfl ?_
    refine EJ_iadd 54 (dk_96 (bt bc_Mod_goes_1 21 rfl)) rfl ?_
    refine EJ_iload 56 4 (dk_21 (bt bc_Mod_goes_1 22 rfl) (bt bc_Mod_goes_1 23 rfl)) rfl rfl ?_
    refine EJ_icmp_ge 115 59 (dk_162 (bt bc_Mod_goes_1 24 rfl) (bt bc_Mod_goes_1 25 rfl) (bt bc_Mod_goes_1 26 rfl) (n := 59) rfl) (by decide) rfl (fun _ => ?_) (fun _ => ?_)
    · refine EJ_iload 117 4 (dk_21 (bt bc_Mod_goes_3 19 rfl) (bt bc_Mod_goes_3 20 rfl)) rfl rfl ?_
      exact EJ_iret rfl (dk_172 (bt bc_Mod_goes_3 21 rfl))
    · refine EJ_iload 61 6 (dk_21 (bt bc_Mod_goes_1 27 rfl) (bt bc_Mod_goes_1 28 rfl)) rfl rfl ?_
      refine EJ_sipush 64 (dk_17 (bt bc_Mod_goes_1 29 rfl) (bt bc_Mod_goes_1 30 rfl) (bt bc_Mod_goes_1 31 rfl) (n := 1440) rfl) rfl (v := 1440) kS_1440 ?_
      refine EJ_irem 65 (dk_112 (bt bc_Mod_goes_2 0 rfl)) rfl (by decide) ?_
      refine EJ_istore 67 (lv2 := [(7, .int _), (0, .ref _), (1, .int _), (2, .int _), (3, .int _), (4, .int _), (5, .int _), (6, .int _)]) (dk_54 (bt bc_Mod_goes_2 1 rfl) (bt bc_Mod_goes_2 2 rfl)) rfl (by decide) rfl ?_
      refine EJ_iload 69 0 (dk_21 (bt bc_Mod_goes_2 3 rfl) (bt bc_Mod_goes_2 4 rfl)) rfl rfl ?_
      refine EJ_sipush 72 (dk_17 (bt bc_Mod_goes_2 5 rfl) (bt bc_Mod_goes_2 6 rfl) (bt bc_Mod_goes_2 7 rfl) (n := 360) rfl) rfl (v := 360) kS_360 ?_
      refine EJ_icmp_lt 109 75 (dk_161 (bt bc_Mod_goes_2 8 rfl) (bt bc_Mod_goes_2 9 rfl) (bt bc_Mod_goes_2 10 rfl) (n := 37) rfl) (by decide) rfl (fun _ => ?_) (fun _ => ?_)
      · exact EJ_pick (lv2 := [(0, .ref _), (1, .int _), (2, .int _), (3, .int _), (4, .int _), (5, .int _), (6, .int _)]) [1, 2, 3, 4, 5, 6, 7] rfl (e_Mod_goes_J109 k39 hk39 _ _ _ _ _ _ _ _)
      · refine EJ_iload 77 0 (dk_21 (bt bc_Mod_goes_2 11 rfl) (bt bc_Mod_goes_2 12 rfl)) rfl rfl ?_
        refine EJ_sipush 80 (dk_17 (bt bc_Mod_goes_2 13 rfl) (bt bc_Mod_goes_2 14 rfl) (bt bc_Mod_goes_2 15 rfl) (n := 1080) rfl) rfl (v := 1080) kS_1080 ?_
        refine EJ_icmp_ge 109 83 (dk_162 (bt bc_Mod_goes_2 16 rfl) (bt bc_Mod_goes_2 17 rfl) (bt bc_Mod_goes_2 18 rfl) (n := 29) rfl) (by decide) rfl (fun _ => ?_) (fun _ => ?_)
        · exact EJ_pick (lv2 := [(0, .ref _), (1, .int _), (2, .int _), (3, .int _), (4, .int _), (5, .int _), (6, .int _)]) [1, 2, 3, 4, 5, 6, 7] rfl (e_Mod_goes_J109 k39 hk39 _ _ _ _ _ _ _ _)
        · refine EJ_aload_n 84 1 (dk_42 (bt bc_Mod_goes_2 19 rfl)) rfl rfl ?_
          refine EJ_iload_n 85 2 (dk_27 (bt bc_Mod_goes_2 20 rfl)) rfl rfl ?_
          refine EJ_iload 87 0 (dk_21 (bt bc_Mod_goes_2 21 rfl) (bt bc_Mod_goes_2 22 rfl)) rfl rfl ?_
          refine EJ_ck (fun h10 => ?_)
          refine EJ_callVi (Y2 := Y_Mod_hasFog) 90 cf12 (s_Mod_hasFog G _ _ _ _) (of_decide_eq_true h10) rfl (dk_182 (bt bc_Mod_goes_2 23 rfl) (bt bc_Mod_goes_2 24 rfl) (bt bc_Mod_goes_2 25 rfl) (n := 256) rfl) rfl tw_1552 tw_1554 ts_39 tw_1555 hd_Mod_hasFog rfl (by decide) (Nat.le_of_ble_eq_true rfl) (fun r11 M12 => ?_)
          refine EJ_if_ne 109 93 (dk_154 (bt bc_Mod_goes_2 26 rfl) (bt bc_Mod_goes_2 27 rfl) (bt bc_Mod_goes_2 28 rfl) (n := 19) rfl) (by decide) rfl (fun _ => ?_) (fun _ => ?_)
          · exact EJ_pick (lv2 := [(0, .ref _), (1, .int _), (2, .int _), (3, .int _), (4, .int _), (5, .int _), (6, .int _)]) [1, 2, 3, 4, 5, 6, 7] rfl (e_Mod_goes_J109 k39 hk39 _ _ _ _ _ _ _ _)
          · refine EJ_aload_n 94 1 (dk_42 (bt bc_Mod_goes_2 29 rfl)) rfl rfl ?_
            refine EJ_iload_n 95 3 (dk_28 (bt bc_Mod_goes_2 30 rfl)) rfl rfl ?_
            refine EJ_iload 97 0 (dk_21 (bt bc_Mod_goes_2 31 rfl) (bt bc_Mod_goes_3 0 rfl)) rfl rfl ?_
            refine EJ_ck (fun h13 => ?_)
            refine EJ_callVi (Y2 := Y_Mod_hasFog) 100 cf12 (s_Mod_hasFog G _ _ _ _) (of_decide_eq_true h13) rfl (dk_182 (bt bc_Mod_goes_3 1 rfl) (bt bc_Mod_goes_3 2 rfl) (bt bc_Mod_goes_3 3 rfl) (n := 256) rfl) rfl tw_1552 tw_1554 ts_39 tw_1555 hd_Mod_hasFog rfl (by decide) (Nat.le_of_ble_eq_true rfl) (fun r14 M15 => ?_)
            refine EJ_if_ne 109 103 (dk_154 (bt bc_Mod_goes_3 4 rfl) (bt bc_Mod_goes_3 5 rfl) (bt bc_Mod_goes_3 6 rfl) (n := 9) rfl) (by decide) rfl (fun _ => ?_) (fun _ => ?_)
            · exact EJ_pick (lv2 := [(0, .ref _), (1, .int _), (2, .int _), (3, .int _), (4, .int _), (5, .int _), (6, .int _)]) [1, 2, 3, 4, 5, 6, 7] rfl (e_Mod_goes_J109 k39 hk39 _ _ _ _ _ _ _ _)
            · refine EJ_iload 105 7 (dk_21 (bt bc_Mod_goes_3 7 rfl) (bt bc_Mod_goes_3 8 rfl)) rfl rfl ?_
              refine EJ_iload 107 6 (dk_21 (bt bc_Mod_goes_3 9 rfl) (bt bc_Mod_goes_3 10 rfl)) rfl rfl ?_
              refine EJ_iadd 108 (dk_96 (bt bc_Mod_goes_3 11 rfl)) rfl ?_
              exact EJ_iret rfl (dk_172 (bt bc_Mod_goes_3 12 rfl))
def Mod_goes_L39 (n : Nat) : Nat → Int32 → Int32 → Int32 → Int32 → Int32 → Int32 → Mm → Option (Int32 × Mm) :=
  match n with
  | 0 => fun _ _ _ _ _ _ _ _ => none
  | n + 1 => Mod_goes_B39 (Mod_goes_L39 n)
theorem e_Mod_goes_L39 {G : Gx} : ∀ (n : Nat) (x0 : Nat) (x1 : Int32) (x2 : Int32) (x3 : Int32) (x4 : Int32) (x5 : Int32) (x6 : Int32) (M : Mm), EJ G Y_Mod_goes cvI 2 39 [(0, .ref x0), (1, .int x1), (2, .int x2), (3, .int x3), (4, .int x4), (5, .int x5), (6, .int x6)] [] M (Mod_goes_L39 n x0 x1 x2 x3 x4 x5 x6 M) := by
  intro n
  induction n with
  | zero => intros; exact EJ_none
  | succ n ih => intro x0 x1 x2 x3 x4 x5 x6 M; exact e_Mod_goes_B39 _ ih x0 x1 x2 x3 x4 x5 x6 M
def Mod_goes (M : Mm) (a0 : Nat) (a1 : Int32) (a2 : Int32) (a3 : Int32) : Option (Int32 × Mm) :=
  ck (kO M a0 12 107) (
  nn (mR M a0 6) (fun b2 =>
  ck (kA M b2 20 ((10 * a1) + a2)) (
  let v4 : Int32 := a3 + (mI M b2 (ix ((10 * a1) + a2)))
  nn (mR M a0 5) (fun b5 =>
  ck (kA M b5 20 ((10 * a1) + a2)) (
  let v7 : Int32 := mI M b5 (ix ((10 * a1) + a2))
  if v7 = 0 then (
    some (v4, M))
  else (
    Mod_goes_L39 fu a0 a1 a2 a3 v4 v7 a3 M))))))
set_option maxRecDepth 100000 in
set_option maxHeartbeats 4000000 in
theorem s_Mod_goes (G : Gx) (M : Mm) (a0 : Nat) (a1 : Int32) (a2 : Int32) (a3 : Int32) : FnS G Y_Mod_goes cvI 2 [.ref a0, .int a1, .int a2, .int a3] M (Mod_goes M a0 a1 a2 a3) := by
  refine FnS.ofE (by decide) (Nat.le_of_ble_eq_true rfl) ?_
  show EJ G Y_Mod_goes cvI 2 0 [(0, .ref a0), (1, .int a1), (2, .int a2), (3, .int a3)] [] M _
  unfold Mod_goes
  refine EJ_iload_n 1 3 (dk_29 (bt bc_Mod_goes_0 0 rfl)) rfl rfl ?_
  refine EJ_aload_n 2 0 (dk_42 (bt bc_Mod_goes_0 1 rfl)) rfl rfl ?_
  refine EJ_ck (fun h1 => ?_)
  refine EJ_getR cf12 6 (by decide) 5 tw_1204 (fun _ _ _ => rfl) (dk_180 (bt bc_Mod_goes_0 2 rfl) (bt bc_Mod_goes_0 3 rfl) (bt bc_Mod_goes_0 4 rfl) (n := 23) rfl) rfl (of_decide_eq_true h1) (fun b2 => ?_)
  refine EJ_bipush 7 (dk_16 (bt bc_Mod_goes_0 5 rfl) (bt bc_Mod_goes_0 6 rfl) (n := 10) rfl) rfl (v := 10) kB_10 ?_
  refine EJ_iload_n 8 1 (dk_27 (bt bc_Mod_goes_0 7 rfl)) rfl rfl ?_
  refine EJ_imul 9 (dk_104 (bt bc_Mod_goes_0 8 rfl)) rfl ?_
  refine EJ_iload_n 10 2 (dk_28 (bt bc_Mod_goes_0 9 rfl)) rfl rfl ?_
  refine EJ_iadd 11 (dk_96 (bt bc_Mod_goes_0 10 rfl)) rfl ?_
  refine EJ_ck (fun h3 => ?_)
  refine EJ_iald 12 h3 (dk_46 (bt bc_Mod_goes_0 11 rfl)) rfl ?_
  refine EJ_iadd 13 (dk_96 (bt bc_Mod_goes_0 12 rfl)) rfl ?_
  refine EJ_istore 15 (lv2 := [(4, .int _), (0, .ref _), (1, .int _), (2, .int _), (3, .int _)]) (dk_54 (bt bc_Mod_goes_0 13 rfl) (bt bc_Mod_goes_0 14 rfl)) rfl (by decide) rfl ?_
  refine EJ_aload_n 16 1 (dk_42 (bt bc_Mod_goes_0 15 rfl)) rfl rfl ?_
  refine EJ_getR cf12 5 (by decide) 19 tw_1203 (fun _ _ _ => rfl) (dk_180 (bt bc_Mod_goes_0 16 rfl) (bt bc_Mod_goes_0 17 rfl) (bt bc_Mod_goes_0 18 rfl) (n := 20) rfl) rfl (of_decide_eq_true h1) (fun b5 => ?_)
  refine EJ_bipush 21 (dk_16 (bt bc_Mod_goes_0 19 rfl) (bt bc_Mod_goes_0 20 rfl) (n := 10) rfl) rfl (v := 10) kB_10 ?_
  refine EJ_iload_n 22 2 (dk_27 (bt bc_Mod_goes_0 21 rfl)) rfl rfl ?_
  refine EJ_imul 23 (dk_104 (bt bc_Mod_goes_0 22 rfl)) rfl ?_
  refine EJ_iload_n 24 3 (dk_28 (bt bc_Mod_goes_0 23 rfl)) rfl rfl ?_
  refine EJ_iadd 25 (dk_96 (bt bc_Mod_goes_0 24 rfl)) rfl ?_
  refine EJ_ck (fun h6 => ?_)
  refine EJ_iald 26 h6 (dk_46 (bt bc_Mod_goes_0 25 rfl)) rfl ?_
  refine EJ_istore 28 (lv2 := [(5, .int _), (4, .int _), (0, .ref _), (1, .int _), (2, .int _), (3, .int _)]) (dk_54 (bt bc_Mod_goes_0 26 rfl) (bt bc_Mod_goes_0 27 rfl)) rfl (by decide) rfl ?_
  refine EJ_iload 30 0 (dk_21 (bt bc_Mod_goes_0 28 rfl) (bt bc_Mod_goes_0 29 rfl)) rfl rfl ?_
  refine EJ_if_ne 36 33 (dk_154 (bt bc_Mod_goes_0 30 rfl) (bt bc_Mod_goes_0 31 rfl) (bt bc_Mod_goes_1 0 rfl) (n := 6) rfl) (by decide) rfl (fun _ => ?_) (fun _ => ?_)
  · refine EJ_iload_n 37 5 (dk_29 (bt bc_Mod_goes_1 4 rfl)) rfl rfl ?_
    refine EJ_istore 39 (lv2 := [(6, .int _), (5, .int _), (4, .int _), (0, .ref _), (1, .int _), (2, .int _), (3, .int _)]) (dk_54 (bt bc_Mod_goes_1 5 rfl) (bt bc_Mod_goes_1 6 rfl)) rfl (by decide) rfl ?_
    exact EJ_pick (lv2 := [(0, .ref _), (1, .int _), (2, .int _), (3, .int _), (4, .int _), (5, .int _), (6, .int _)]) [3, 4, 5, 6, 2, 1, 0] rfl (e_Mod_goes_L39 fu _ _ _ _ _ _ _ _)
  · refine EJ_iload 35 1 (dk_21 (bt bc_Mod_goes_1 1 rfl) (bt bc_Mod_goes_1 2 rfl)) rfl rfl ?_
    exact EJ_iret rfl (dk_172 (bt bc_Mod_goes_1 3 rfl))
