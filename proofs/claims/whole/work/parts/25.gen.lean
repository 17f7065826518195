abbrev Y_Mod_rules : Ym := (⟨"RiceHallModel", "rules", "(II)I"⟩, prog_14_method_53_code, 6, (some FieldType.int))
theorem bc_Mod_rules_0 : bts prog_14_method_53_code 0 [42, 27, 182, 0, 248, 153, 0, 15, 28, 155, 0, 11, 28, 42, 180, 1, 83, 164, 0, 6, 16, 254, 172, 42, 180, 1, 227, 16, 8, 160, 0, 6] := bts_of (by decide +kernel)
theorem bc_Mod_rules_1 : bts prog_14_method_53_code 32 [16, 253, 172, 42, 28, 181, 1, 89, 42, 3, 181, 1, 83, 42, 3, 181, 1, 86, 42, 2, 181, 0, 137, 42, 3, 181, 1, 116, 42, 180, 1, 230] := bts_of (by decide +kernel)
theorem bc_Mod_rules_2 : bts prog_14_method_53_code 64 [62, 42, 180, 1, 162, 54, 4, 42, 182, 1, 120, 42, 180, 1, 110, 153, 0, 56, 42, 180, 1, 116, 154, 0, 49, 42, 180, 1, 230, 29, 100, 16] := bts_of (by decide +kernel)
theorem bc_Mod_rules_3 : bts prog_14_method_53_code 96 [24, 160, 0, 10, 42, 182, 1, 123, 167, 255, 227, 42, 42, 180, 1, 230, 182, 1, 233, 42, 180, 1, 116, 154, 255, 212, 42, 89, 180, 1, 230, 4] := bts_of (by decide +kernel)
theorem bc_Mod_rules_4 : bts prog_14_method_53_code 128 [96, 181, 1, 230, 167, 255, 199, 2, 54, 5, 42, 180, 1, 116, 154, 0, 20, 42, 27, 42, 180, 1, 28, 182, 1, 9, 42, 180, 0, 26, 3, 46] := bts_of (by decide +kernel)
theorem bc_Mod_rules_5 : bts prog_14_method_53_code 160 [54, 5, 42, 180, 1, 116, 154, 0, 16, 21, 5, 155, 0, 11, 21, 5, 19, 1, 8, 164, 0, 28, 42, 29, 181, 1, 230, 42, 21, 4, 181, 1] := bts_of (by decide +kernel)
theorem bc_Mod_rules_6 : bts prog_14_method_53_code 192 [162, 42, 180, 1, 116, 153, 0, 7, 2, 167, 0, 5, 16, 252, 172, 42, 180, 0, 94, 42, 180, 1, 227, 29, 79, 42, 180, 0, 97, 42, 180, 1] := bts_of (by decide +kernel)
theorem bc_Mod_rules_7 : bts prog_14_method_53_code 224 [227, 42, 180, 1, 230, 29, 100, 79, 42, 180, 0, 100, 42, 180, 1, 227, 21, 5, 79, 42, 89, 180, 1, 227, 4, 96, 181, 1, 227, 42, 180, 1] := bts_of (by decide +kernel)
theorem bc_Mod_rules_8 : bts prog_14_method_53_code 256 [227, 4, 100, 172] := bts_of (by decide +kernel)
theorem hd_Mod_rules : Y_Mod_rules.1.cls = RX12 ∧ Y_Mod_rules.1.cls ≠ "java/lang/invoke/MethodHandle" ∧ Y_Mod_rules.1.cls ≠ "java/lang/invoke/VarHandle" ∧ (parseMethodDescriptor Y_Mod_rules.1.desc).map (fun d => d.parameters.length) = some 2 := by decide +kernel
def Mod_rules_J182 (x0 : Nat) (x3 : Int32) (x4 : Int32) (M : Mm) : Option (Int32 × Mm) :=
  ck (kO M x0 12 107) (
  let M18 := sI M x0 46 x3
  let M19 := sI M18 x0 52 x4
  if (mI M19 x0 65) = 0 then (
    some ((-4), M19))
  else (
    some ((-1), M19)))
set_option maxRecDepth 100000 in
set_option maxHeartbeats 4000000 in
theorem e_Mod_rules_J182 {G : Gx} (x0 : Nat) (x3 : Int32) (x4 : Int32) (M : Mm) : EJ G Y_Mod_rules cvI 7 182 [(0, .ref x0), (3, .int x3), (4, .int x4)] [] M (Mod_rules_J182 x0 x3 x4 M) := by
  unfold Mod_rules_J182
  refine EJ_aload_n 183 0 (dk_42 (bt bc_Mod_rules_5 22 rfl)) rfl rfl ?_
  refine EJ_iload_n 184 1 (dk_29 (bt bc_Mod_rules_5 23 rfl)) rfl rfl ?_
  refine EJ_ck (fun h17 => ?_)
  refine EJ_putI cf12 46 (by decide) 187 tw_1244 rfl (Or.inl rfl) (dk_181 (bt bc_Mod_rules_5 24 rfl) (bt bc_Mod_rules_5 25 rfl) (bt bc_Mod_rules_5 26 rfl) (n := 486) rfl) rfl (of_decide_eq_true h17) ?_
  refine EJ_aload_n 188 0 (dk_42 (bt bc_Mod_rules_5 27 rfl)) rfl rfl ?_
  refine EJ_iload 190 2 (dk_21 (bt bc_Mod_rules_5 28 rfl) (bt bc_Mod_rules_5 29 rfl)) rfl rfl ?_
  refine EJ_putI cf12 52 (by decide) 193 tw_1250 rfl (Or.inl rfl) (dk_181 (bt bc_Mod_rules_5 30 rfl) (bt bc_Mod_rules_5 31 rfl) (bt bc_Mod_rules_6 0 rfl) (n := 418) rfl) rfl (kp_I (of_decide_eq_true h17)) ?_
  refine EJ_aload_n 194 0 (dk_42 (bt bc_Mod_rules_6 1 rfl)) rfl rfl ?_
  refine EJ_getI cf12 65 (by decide) 197 tw_1263 (fun _ _ _ => rfl) (dk_180 (bt bc_Mod_rules_6 2 rfl) (bt bc_Mod_rules_6 3 rfl) (bt bc_Mod_rules_6 4 rfl) (n := 372) rfl) rfl (kp_I (kp_I (of_decide_eq_true h17))) ?_
  refine EJ_if_eq 204 200 (dk_153 (bt bc_Mod_rules_6 5 rfl) (bt bc_Mod_rules_6 6 rfl) (bt bc_Mod_rules_6 7 rfl) (n := 7) rfl) (by decide) rfl (fun _ => ?_) (fun _ => ?_)
  · refine EJ_bipush 206 (dk_16 (bt bc_Mod_rules_6 12 rfl) (bt bc_Mod_rules_6 13 rfl) (n := -4) rfl) rfl (v := (-4)) kB_m4 ?_
    exact EJ_iret rfl (dk_172 (bt bc_Mod_rules_6 14 rfl))
  · refine EJ_iconst 201 (dk_2 (bt bc_Mod_rules_6 8 rfl)) rfl (v := (-1)) kI_m1 ?_
    refine EJ_goto 206 (dk_167 (bt bc_Mod_rules_6 9 rfl) (bt bc_Mod_rules_6 10 rfl) (bt bc_Mod_rules_6 11 rfl) (n := 5) rfl) (by decide) ?_
    exact EJ_iret rfl (dk_172 (bt bc_Mod_rules_6 14 rfl))
def Mod_rules_J162 (x0 : Nat) (x3 : Int32) (x4 : Int32) (x5 : Int32) (M : Mm) : Option (Int32 × Mm) :=
  ck (kO M x0 12 107) (
  if (mI M x0 65) = 0 then (
    if x5 < 0 then (
      Mod_rules_J182 x0 x3 x4 M)
    else (
      if x5 ≤ 57600 then (
        nn (mR M x0 38) (fun b20 =>
        ck (kA M b20 20 (mI M x0 37)) (
        let M22 := sI M b20 (ix (mI M x0 37)) x3
        nn (mR M22 x0 39) (fun b23 =>
        ck (kA M22 b23 20 (mI M22 x0 37)) (
        let M25 := sI M22 b23 (ix (mI M22 x0 37)) ((mI M22 x0 46) - x3)
        nn (mR M25 x0 40) (fun b26 =>
        ck (kA M25 b26 20 (mI M25 x0 37)) (
        let M28 := sI M25 b26 (ix (mI M25 x0 37)) x5
        let M29 := sI M28 x0 37 ((mI M28 x0 37) + 1)
        some ((mI M29 x0 37) - 1, M29))))))))
      else (
        Mod_rules_J182 x0 x3 x4 M)))
  else (
    Mod_rules_J182 x0 x3 x4 M))
set_option maxRecDepth 100000 in
set_option maxHeartbeats 4000000 in
theorem e_Mod_rules_J162 {G : Gx} (x0 : Nat) (x3 : Int32) (x4 : Int32) (x5 : Int32) (M : Mm) : EJ G Y_Mod_rules cvI 7 162 [(0, .ref x0), (3, .int x3), (4, .int x4), (5, .int x5)] [] M (Mod_rules_J162 x0 x3 x4 x5 M) := by
  unfold Mod_rules_J162
  refine EJ_aload_n 163 0 (dk_42 (bt bc_Mod_rules_5 2 rfl)) rfl rfl ?_
  refine EJ_ck (fun h16 => ?_)
  refine EJ_getI cf12 65 (by decide) 166 tw_1263 (fun _ _ _ => rfl) (dk_180 (bt bc_Mod_rules_5 3 rfl) (bt bc_Mod_rules_5 4 rfl) (bt bc_Mod_rules_5 5 rfl) (n := 372) rfl) rfl (of_decide_eq_true h16) ?_
  refine EJ_if_ne 182 169 (dk_154 (bt bc_Mod_rules_5 6 rfl) (bt bc_Mod_rules_5 7 rfl) (bt bc_Mod_rules_5 8 rfl) (n := 16) rfl) (by decide) rfl (fun _ => ?_) (fun _ => ?_)
  · exact EJ_pick (lv2 := [(0, .ref _), (3, .int _), (4, .int _)]) [0, 1, 2] rfl (e_Mod_rules_J182 _ _ _ _)
  · refine EJ_iload 171 3 (dk_21 (bt bc_Mod_rules_5 9 rfl) (bt bc_Mod_rules_5 10 rfl)) rfl rfl ?_
    refine EJ_if_lt 182 174 (dk_155 (bt bc_Mod_rules_5 11 rfl) (bt bc_Mod_rules_5 12 rfl) (bt bc_Mod_rules_5 13 rfl) (n := 11) rfl) (by decide) rfl (fun _ => ?_) (fun _ => ?_)
    · exact EJ_pick (lv2 := [(0, .ref _), (3, .int _), (4, .int _)]) [0, 1, 2] rfl (e_Mod_rules_J182 _ _ _ _)
    · refine EJ_iload 176 3 (dk_21 (bt bc_Mod_rules_5 14 rfl) (bt bc_Mod_rules_5 15 rfl)) rfl rfl ?_
      refine EJ_ldcw 179 (dk_19 (bt bc_Mod_rules_5 16 rfl) (bt bc_Mod_rules_5 17 rfl) (bt bc_Mod_rules_5 18 rfl) (n := 264) rfl) rfl tw_1543 ?_
      refine EJ_icmp_le 207 182 (dk_164 (bt bc_Mod_rules_5 19 rfl) (bt bc_Mod_rules_5 20 rfl) (bt bc_Mod_rules_5 21 rfl) (n := 28) rfl) (by decide) rfl (fun _ => ?_) (fun _ => ?_)
      · refine EJ_aload_n 208 0 (dk_42 (bt bc_Mod_rules_6 15 rfl)) rfl rfl ?_
        refine EJ_getR cf12 38 (by decide) 211 tw_1236 (fun _ _ _ => rfl) (dk_180 (bt bc_Mod_rules_6 16 rfl) (bt bc_Mod_rules_6 17 rfl) (bt bc_Mod_rules_6 18 rfl) (n := 94) rfl) rfl (of_decide_eq_true h16) (fun b20 => ?_)
        refine EJ_aload_n 212 0 (dk_42 (bt bc_Mod_rules_6 19 rfl)) rfl rfl ?_
        refine EJ_getI cf12 37 (by decide) 215 tw_1235 (fun _ _ _ => rfl) (dk_180 (bt bc_Mod_rules_6 20 rfl) (bt bc_Mod_rules_6 21 rfl) (bt bc_Mod_rules_6 22 rfl) (n := 483) rfl) rfl (of_decide_eq_true h16) ?_
        refine EJ_iload_n 216 1 (dk_29 (bt bc_Mod_rules_6 23 rfl)) rfl rfl ?_
        refine EJ_ck (fun h21 => ?_)
        refine EJ_iast 217 h21 (dk_79 (bt bc_Mod_rules_6 24 rfl)) rfl ?_
        refine EJ_aload_n 218 0 (dk_42 (bt bc_Mod_rules_6 25 rfl)) rfl rfl ?_
        refine EJ_getR cf12 39 (by decide) 221 tw_1237 (fun _ _ _ => rfl) (dk_180 (bt bc_Mod_rules_6 26 rfl) (bt bc_Mod_rules_6 27 rfl) (bt bc_Mod_rules_6 28 rfl) (n := 97) rfl) rfl (kp_I (of_decide_eq_true h16)) (fun b23 => ?_)
        refine EJ_aload_n 222 0 (dk_42 (bt bc_Mod_rules_6 29 rfl)) rfl rfl ?_
        refine EJ_getI cf12 37 (by decide) 225 tw_1235 (fun _ _ _ => rfl) (dk_180 (bt bc_Mod_rules_6 30 rfl) (bt bc_Mod_rules_6 31 rfl) (bt bc_Mod_rules_7 0 rfl) (n := 483) rfl) rfl (kp_I (of_decide_eq_true h16)) ?_
        refine EJ_aload_n 226 0 (dk_42 (bt bc_Mod_rules_7 1 rfl)) rfl rfl ?_
        refine EJ_getI cf12 46 (by decide) 229 tw_1244 (fun _ _ _ => rfl) (dk_180 (bt bc_Mod_rules_7 2 rfl) (bt bc_Mod_rules_7 3 rfl) (bt bc_Mod_rules_7 4 rfl) (n := 486) rfl) rfl (kp_I (of_decide_eq_true h16)) ?_
        refine EJ_iload_n 230 1 (dk_29 (bt bc_Mod_rules_7 5 rfl)) rfl rfl ?_
        refine EJ_isub 231 (dk_100 (bt bc_Mod_rules_7 6 rfl)) rfl ?_
        refine EJ_ck (fun h24 => ?_)
        refine EJ_iast 232 h24 (dk_79 (bt bc_Mod_rules_7 7 rfl)) rfl ?_
        refine EJ_aload_n 233 0 (dk_42 (bt bc_Mod_rules_7 8 rfl)) rfl rfl ?_
        refine EJ_getR cf12 40 (by decide) 236 tw_1238 (fun _ _ _ => rfl) (dk_180 (bt bc_Mod_rules_7 9 rfl) (bt bc_Mod_rules_7 10 rfl) (bt bc_Mod_rules_7 11 rfl) (n := 100) rfl) rfl (kp_I (kp_I (of_decide_eq_true h16))) (fun b26 => ?_)
        refine EJ_aload_n 237 0 (dk_42 (bt bc_Mod_rules_7 12 rfl)) rfl rfl ?_
        refine EJ_getI cf12 37 (by decide) 240 tw_1235 (fun _ _ _ => rfl) (dk_180 (bt bc_Mod_rules_7 13 rfl) (bt bc_Mod_rules_7 14 rfl) (bt bc_Mod_rules_7 15 rfl) (n := 483) rfl) rfl (kp_I (kp_I (of_decide_eq_true h16))) ?_
        refine EJ_iload 242 3 (dk_21 (bt bc_Mod_rules_7 16 rfl) (bt bc_Mod_rules_7 17 rfl)) rfl rfl ?_
        refine EJ_ck (fun h27 => ?_)
        refine EJ_iast 243 h27 (dk_79 (bt bc_Mod_rules_7 18 rfl)) rfl ?_
        refine EJ_aload_n 244 0 (dk_42 (bt bc_Mod_rules_7 19 rfl)) rfl rfl ?_
        refine EJ_dup 245 (dk_89 (bt bc_Mod_rules_7 20 rfl)) rfl rfl ?_
        refine EJ_getI cf12 37 (by decide) 248 tw_1235 (fun _ _ _ => rfl) (dk_180 (bt bc_Mod_rules_7 21 rfl) (bt bc_Mod_rules_7 22 rfl) (bt bc_Mod_rules_7 23 rfl) (n := 483) rfl) rfl (kp_I (kp_I (kp_I (of_decide_eq_true h16)))) ?_
        refine EJ_iconst 249 (dk_4 (bt bc_Mod_rules_7 24 rfl)) rfl (v := 1) kI_1 ?_
        refine EJ_iadd 250 (dk_96 (bt bc_Mod_rules_7 25 rfl)) rfl ?_
        refine EJ_putI cf12 37 (by decide) 253 tw_1235 rfl (Or.inl rfl) (dk_181 (bt bc_Mod_rules_7 26 rfl) (bt bc_Mod_rules_7 27 rfl) (bt bc_Mod_rules_7 28 rfl) (n := 483) rfl) rfl (kp_I (kp_I (kp_I (of_decide_eq_true h16)))) ?_
        refine EJ_aload_n 254 0 (dk_42 (bt bc_Mod_rules_7 29 rfl)) rfl rfl ?_
        refine EJ_getI cf12 37 (by decide) 257 tw_1235 (fun _ _ _ => rfl) (dk_180 (bt bc_Mod_rules_7 30 rfl) (bt bc_Mod_rules_7 31 rfl) (bt bc_Mod_rules_8 0 rfl) (n := 483) rfl) rfl (kp_I (kp_I (kp_I (kp_I (of_decide_eq_true h16))))) ?_
        refine EJ_iconst 258 (dk_4 (bt bc_Mod_rules_8 1 rfl)) rfl (v := 1) kI_1 ?_
        refine EJ_isub 259 (dk_100 (bt bc_Mod_rules_8 2 rfl)) rfl ?_
        exact EJ_iret rfl (dk_172 (bt bc_Mod_rules_8 3 rfl))
      · exact EJ_pick (lv2 := [(0, .ref _), (3, .int _), (4, .int _)]) [0, 1, 2] rfl (e_Mod_rules_J182 _ _ _ _)
def Mod_rules_J135 (x0 : Nat) (x1 : Int32) (x3 : Int32) (x4 : Int32) (M : Mm) : Option (Int32 × Mm) :=
  ck (kO M x0 12 107) (
  if (mI M x0 65) = 0 then (
    bd (Mod_spreads M x0 x1 (mI M x0 0)) (fun _ M31 =>
    ck (kO M31 x0 12 107) (
    nn (mR M31 x0 7) (fun b33 =>
    ck (kA M31 b33 20 0) (
    let v35 : Int32 := mI M31 b33 (ix 0)
    Mod_rules_J162 x0 x3 x4 v35 M31)))))
  else (
    Mod_rules_J162 x0 x3 x4 (-1) M))
set_option maxRecDepth 100000 in
set_option maxHeartbeats 4000000 in
theorem e_Mod_rules_J135 {G : Gx} (x0 : Nat) (x1 : Int32) (x3 : Int32) (x4 : Int32) (M : Mm) : EJ G Y_Mod_rules cvI 7 135 [(0, .ref x0), (1, .int x1), (3, .int x3), (4, .int x4)] [] M (Mod_rules_J135 x0 x1 x3 x4 M) := by
  unfold Mod_rules_J135
  refine EJ_iconst 136 (dk_2 (bt bc_Mod_rules_4 7 rfl)) rfl (v := (-1)) kI_m1 ?_
  refine EJ_istore 138 (lv2 := [(5, .int _), (0, .ref _), (1, .int _), (3, .int _), (4, .int _)]) (dk_54 (bt bc_Mod_rules_4 8 rfl) (bt bc_Mod_rules_4 9 rfl)) rfl (by decide) rfl ?_
  refine EJ_aload_n 139 1 (dk_42 (bt bc_Mod_rules_4 10 rfl)) rfl rfl ?_
  refine EJ_ck (fun h15 => ?_)
  refine EJ_getI cf12 65 (by decide) 142 tw_1263 (fun _ _ _ => rfl) (dk_180 (bt bc_Mod_rules_4 11 rfl) (bt bc_Mod_rules_4 12 rfl) (bt bc_Mod_rules_4 13 rfl) (n := 372) rfl) rfl (of_decide_eq_true h15) ?_
  refine EJ_if_ne 162 145 (dk_154 (bt bc_Mod_rules_4 14 rfl) (bt bc_Mod_rules_4 15 rfl) (bt bc_Mod_rules_4 16 rfl) (n := 20) rfl) (by decide) rfl (fun _ => ?_) (fun _ => ?_)
  · exact EJ_pick (lv2 := [(0, .ref _), (3, .int _), (4, .int _), (5, .int _)]) [1, 3, 4, 0] rfl (e_Mod_rules_J162 _ _ _ _ _)
  · refine EJ_aload_n 146 1 (dk_42 (bt bc_Mod_rules_4 17 rfl)) rfl rfl ?_
    refine EJ_iload_n 147 2 (dk_27 (bt bc_Mod_rules_4 18 rfl)) rfl rfl ?_
    refine EJ_aload_n 148 1 (dk_42 (bt bc_Mod_rules_4 19 rfl)) rfl rfl ?_
    refine EJ_getI cf12 0 (by decide) 151 tw_1198 (fun _ _ _ => rfl) (dk_180 (bt bc_Mod_rules_4 20 rfl) (bt bc_Mod_rules_4 21 rfl) (bt bc_Mod_rules_4 22 rfl) (n := 284) rfl) rfl (of_decide_eq_true h15) ?_
    refine EJ_callVv (Y2 := Y_Mod_spreads) 154 cf12 (s_Mod_spreads G _ _ _ _) (of_decide_eq_true h15) rfl (dk_182 (bt bc_Mod_rules_4 23 rfl) (bt bc_Mod_rules_4 24 rfl) (bt bc_Mod_rules_4 25 rfl) (n := 265) rfl) rfl tw_1544 tw_1546 ts_37 tw_1547 hd_Mod_spreads rfl (by decide) (Nat.le_of_ble_eq_true rfl) (fun _ M31 => ?_)
    refine EJ_aload_n 155 1 (dk_42 (bt bc_Mod_rules_4 26 rfl)) rfl rfl ?_
    refine EJ_ck (fun h32 => ?_)
    refine EJ_getR cf12 7 (by decide) 158 tw_1205 (fun _ _ _ => rfl) (dk_180 (bt bc_Mod_rules_4 27 rfl) (bt bc_Mod_rules_4 28 rfl) (bt bc_Mod_rules_4 29 rfl) (n := 26) rfl) rfl (of_decide_eq_true h32) (fun b33 => ?_)
    refine EJ_iconst 159 (dk_3 (bt bc_Mod_rules_4 30 rfl)) rfl (v := 0) kI_0 ?_
    refine EJ_ck (fun h34 => ?_)
    refine EJ_iald 160 h34 (dk_46 (bt bc_Mod_rules_4 31 rfl)) rfl ?_
    refine EJ_istore 162 (lv2 := [(5, .int _), (0, .ref _), (1, .int _), (3, .int _), (4, .int _)]) (dk_54 (bt bc_Mod_rules_5 0 rfl) (bt bc_Mod_rules_5 1 rfl)) rfl (by decide) rfl ?_
    exact EJ_pick (lv2 := [(0, .ref _), (3, .int _), (4, .int _), (5, .int _)]) [1, 3, 4, 0] rfl (e_Mod_rules_J162 _ _ _ _ _)
def Mod_rules_B75 (k75 : Nat → Int32 → Int32 → Int32 → Mm → Option (Int32 × Mm)) (x0 : Nat) (x1 : Int32) (x3 : Int32) (x4 : Int32) (M : Mm) : Option (Int32 × Mm) :=
  ck (kO M x0 12 107) (
  if (mI M x0 59) = 0 then (
    Mod_rules_J135 x0 x1 x3 x4 M)
  else (
    if (mI M x0 65) = 0 then (
      if ((mI M x0 46) - x3) = 24 then (
        bd (Mod_fails0 M x0) (fun _ M41 =>
        k75 x0 x1 x3 x4 M41))
      else (
        bd (Mod_statement M x0 (mI M x0 46)) (fun _ M37 =>
        ck (kO M37 x0 12 107) (
        if (mI M37 x0 65) = 0 then (
          let M39 := sI M37 x0 46 ((mI M37 x0 46) + 1)
          k75 x0 x1 x3 x4 M39)
        else (
          k75 x0 x1 x3 x4 M37)))))
    else (
      Mod_rules_J135 x0 x1 x3 x4 M)))
set_option maxRecDepth 100000 in
set_option maxHeartbeats 4000000 in
theorem e_Mod_rules_B75 {G : Gx} (k75 : Nat → Int32 → Int32 → Int32 → Mm → Option (Int32 × Mm)) (hk75 : ∀ (x0 : Nat) (x1 : Int32) (x3 : Int32) (x4 : Int32) (M : Mm), EJ G Y_Mod_rules cvI 7 75 [(0, .ref x0), (1, .int x1), (3, .int x3), (4, .int x4)] [] M (k75 x0 x1 x3 x4 M)) (x0 : Nat) (x1 : Int32) (x3 : Int32) (x4 : Int32) (M : Mm) : EJ G Y_Mod_rules cvI 7 75 [(0, .ref x0), (1, .int x1), (3, .int x3), (4, .int x4)] [] M (Mod_rules_B75 k75 x0 x1 x3 x4 M) := by
  unfold Mod_rules_B75
  refine EJ_aload_n 76 0 (dk_42 (bt bc_Mod_rules_2 11 rfl)) rfl rfl ?_
  refine EJ_ck (fun h14 => ?_)
  refine EJ_getI cf12 59 (by decide) 79 tw_1257 (fun _ _ _ => rfl) (dk_180 (bt bc_Mod_rules_2 12 rfl) (bt bc_Mod_rules_2 13 rfl) (bt bc_Mod_rules_2 14 rfl) (n := 366) rfl) rfl (of_decide_eq_true h14) ?_
  refine EJ_if_eq 135 82 (dk_153 (bt bc_Mod_rules_2 15 rfl) (bt bc_Mod_rules_2 16 rfl) (bt bc_Mod_rules_2 17 rfl) (n := 56) rfl) (by decide) rfl (fun _ => ?_) (fun _ => ?_)
  · exact EJ_pick (lv2 := [(0, .ref _), (1, .int _), (3, .int _), (4, .int _)]) [0, 1, 2, 3] rfl (e_Mod_rules_J135 _ _ _ _ _)
  · refine EJ_aload_n 83 0 (dk_42 (bt bc_Mod_rules_2 18 rfl)) rfl rfl ?_
    refine EJ_getI cf12 65 (by decide) 86 tw_1263 (fun _ _ _ => rfl) (dk_180 (bt bc_Mod_rules_2 19 rfl) (bt bc_Mod_rules_2 20 rfl) (bt bc_Mod_rules_2 21 rfl) (n := 372) rfl) rfl (of_decide_eq_true h14) ?_
    refine EJ_if_ne 135 89 (dk_154 (bt bc_Mod_rules_2 22 rfl) (bt bc_Mod_rules_2 23 rfl) (bt bc_Mod_rules_2 24 rfl) (n := 49) rfl) (by decide) rfl (fun _ => ?_) (fun _ => ?_)
    · exact EJ_pick (lv2 := [(0, .ref _), (1, .int _), (3, .int _), (4, .int _)]) [0, 1, 2, 3] rfl (e_Mod_rules_J135 _ _ _ _ _)
    · refine EJ_aload_n 90 0 (dk_42 (bt bc_Mod_rules_2 25 rfl)) rfl rfl ?_
      refine EJ_getI cf12 46 (by decide) 93 tw_1244 (fun _ _ _ => rfl) (dk_180 (bt bc_Mod_rules_2 26 rfl) (bt bc_Mod_rules_2 27 rfl) (bt bc_Mod_rules_2 28 rfl) (n := 486) rfl) rfl (of_decide_eq_true h14) ?_
      refine EJ_iload_n 94 2 (dk_29 (bt bc_Mod_rules_2 29 rfl)) rfl rfl ?_
      refine EJ_isub 95 (dk_100 (bt bc_Mod_rules_2 30 rfl)) rfl ?_
      refine EJ_bipush 97 (dk_16 (bt bc_Mod_rules_2 31 rfl) (bt bc_Mod_rules_3 0 rfl) (n := 24) rfl) rfl (v := 24) kB_24 ?_
      refine EJ_icmp_ne 107 100 (dk_160 (bt bc_Mod_rules_3 1 rfl) (bt bc_Mod_rules_3 2 rfl) (bt bc_Mod_rules_3 3 rfl) (n := 10) rfl) (by decide) rfl (fun _ => ?_) (fun _ => ?_)
      · refine EJ_aload_n 108 0 (dk_42 (bt bc_Mod_rules_3 11 rfl)) rfl rfl ?_
        refine EJ_aload_n 109 0 (dk_42 (bt bc_Mod_rules_3 12 rfl)) rfl rfl ?_
        refine EJ_getI cf12 46 (by decide) 112 tw_1244 (fun _ _ _ => rfl) (dk_180 (bt bc_Mod_rules_3 13 rfl) (bt bc_Mod_rules_3 14 rfl) (bt bc_Mod_rules_3 15 rfl) (n := 486) rfl) rfl (of_decide_eq_true h14) ?_
        refine EJ_callVv (Y2 := Y_Mod_statement) 115 cf12 (s_Mod_statement G _ _ _) (of_decide_eq_true h14) rfl (dk_182 (bt bc_Mod_rules_3 16 rfl) (bt bc_Mod_rules_3 17 rfl) (bt bc_Mod_rules_3 18 rfl) (n := 489) rfl) rfl tw_1697 tw_1699 ts_54 tw_1700 hd_Mod_statement rfl (by decide) (Nat.le_of_ble_eq_true rfl) (fun _ M37 => ?_)
        refine EJ_aload_n 116 0 (dk_42 (bt bc_Mod_rules_3 19 rfl)) rfl rfl ?_
        refine EJ_ck (fun h38 => ?_)
        refine EJ_getI cf12 65 (by decide) 119 tw_1263 (fun _ _ _ => rfl) (dk_180 (bt bc_Mod_rules_3 20 rfl) (bt bc_Mod_rules_3 21 rfl) (bt bc_Mod_rules_3 22 rfl) (n := 372) rfl) rfl (of_decide_eq_true h38) ?_
        refine EJ_if_ne 75 122 (dk_154 (bt bc_Mod_rules_3 23 rfl) (bt bc_Mod_rules_3 24 rfl) (bt bc_Mod_rules_3 25 rfl) (n := -44) rfl) (by decide) rfl (fun _ => ?_) (fun _ => ?_)
        · exact EJ_pick (lv2 := [(0, .ref _), (1, .int _), (3, .int _), (4, .int _)]) [0, 1, 2, 3] rfl (hk75 _ _ _ _ _)
        · refine EJ_aload_n 123 0 (dk_42 (bt bc_Mod_rules_3 26 rfl)) rfl rfl ?_
          refine EJ_dup 124 (dk_89 (bt bc_Mod_rules_3 27 rfl)) rfl rfl ?_
          refine EJ_getI cf12 46 (by decide) 127 tw_1244 (fun _ _ _ => rfl) (dk_180 (bt bc_Mod_rules_3 28 rfl) (bt bc_Mod_rules_3 29 rfl) (bt bc_Mod_rules_3 30 rfl) (n := 486) rfl) rfl (of_decide_eq_true h38) ?_
          refine EJ_iconst 128 (dk_4 (bt bc_Mod_rules_3 31 rfl)) rfl (v := 1) kI_1 ?_
          refine EJ_iadd 129 (dk_96 (bt bc_Mod_rules_4 0 rfl)) rfl ?_
          refine EJ_putI cf12 46 (by decide) 132 tw_1244 rfl (Or.inl rfl) (dk_181 (bt bc_Mod_rules_4 1 rfl) (bt bc_Mod_rules_4 2 rfl) (bt bc_Mod_rules_4 3 rfl) (n := 486) rfl) rfl (of_decide_eq_true h38) ?_
          refine EJ_goto 75 (dk_167 (bt bc_Mod_rules_4 4 rfl) (bt bc_Mod_rules_4 5 rfl) (bt bc_Mod_rules_4 6 rfl) (n := -57) rfl) (by decide) ?_
          exact EJ_pick (lv2 := [(0, .ref _), (1, .int _), (3, .int _), (4, .int _)]) [0, 1, 2, 3] rfl (hk75 _ _ _ _ _)
      · refine EJ_aload_n 101 0 (dk_42 (bt bc_Mod_rules_3 4 rfl)) rfl rfl ?_
        refine EJ_callVv (Y2 := Y_Mod_fails0) 104 cf12 (s_Mod_fails0 G _ _) (of_decide_eq_true h14) rfl (dk_182 (bt bc_Mod_rules_3 5 rfl) (bt bc_Mod_rules_3 6 rfl) (bt bc_Mod_rules_3 7 rfl) (n := 379) rfl) rfl tw_1693 tw_1695 ts_53 tw_1696 hd_Mod_fails0 rfl (by decide) (Nat.le_of_ble_eq_true rfl) (fun _ M41 => ?_)
        refine EJ_goto 75 (dk_167 (bt bc_Mod_rules_3 8 rfl) (bt bc_Mod_rules_3 9 rfl) (bt bc_Mod_rules_3 10 rfl) (n := -29) rfl) (by decide) ?_
        exact EJ_pick (lv2 := [(0, .ref _), (1, .int _), (3, .int _), (4, .int _)]) [0, 1, 2, 3] rfl (hk75 _ _ _ _ _)
def Mod_rules_L75 (n : Nat) : Nat → Int32 → Int32 → Int32 → Mm → Option (Int32 × Mm) :=
  match n with
  | 0 => fun _ _ _ _ _ => none
  | n + 1 => Mod_rules_B75 (Mod_rules_L75 n)
theorem e_Mod_rules_L75 {G : Gx} : ∀ (n : Nat) (x0 : Nat) (x1 : Int32) (x3 : Int32) (x4 : Int32) (M : Mm), EJ G Y_Mod_rules cvI 7 75 [(0, .ref x0), (1, .int x1), (3, .int x3), (4, .int x4)] [] M (Mod_rules_L75 n x0 x1 x3 x4 M) := by
  intro n
  induction n with
  | zero => intros; exact EJ_none
  | succ n ih => intro x0 x1 x3 x4 M; exact e_Mod_rules_B75 _ ih x0 x1 x3 x4 M
def Mod_rules (M : Mm) (a0 : Nat) (a1 : Int32) (a2 : Int32) : Option (Int32 × Mm) :=
  ck (kO M a0 12 107) (
  bd (Mod_isTown M a0 a1) (fun r2 M3 =>
  if r2 = 0 then (
    some ((-2), M3))
  else (
    if a2 < 0 then (
      some ((-2), M3))
    else (
      ck (kO M3 a0 12 107) (
      if a2 ≤ (mI M3 a0 54) then (
        if (mI M3 a0 37) = 8 then (
          some ((-3), M3))
        else (
          let M5 := sI M3 a0 56 a2
          let M6 := sI M5 a0 54 0
          let M7 := sI M6 a0 57 0
          let M8 := sI M7 a0 55 (-1)
          let M9 := sI M8 a0 65 0
          let v10 : Int32 := mI M9 a0 46
          let v11 : Int32 := mI M9 a0 52
          bd (Mod_next M9 a0) (fun _ M13 =>
          Mod_rules_L75 fu a0 a1 v10 v11 M13)))
      else (
        some ((-2), M3)))))))
set_option maxRecDepth 100000 in
set_option maxHeartbeats 4000000 in
theorem s_Mod_rules (G : Gx) (M : Mm) (a0 : Nat) (a1 : Int32) (a2 : Int32) : FnS G Y_Mod_rules cvI 7 [.ref a0, .int a1, .int a2] M (Mod_rules M a0 a1 a2) := by
  refine FnS.ofE (by decide) (Nat.le_of_ble_eq_true rfl) ?_
  show EJ G Y_Mod_rules cvI 7 0 [(0, .ref a0), (1, .int a1), (2, .int a2)] [] M _
  unfold Mod_rules
  refine EJ_aload_n 1 0 (dk_42 (bt bc_Mod_rules_0 0 rfl)) rfl rfl ?_
  refine EJ_iload_n 2 1 (dk_27 (bt bc_Mod_rules_0 1 rfl)) rfl rfl ?_
  refine EJ_ck (fun h1 => ?_)
  refine EJ_callVi (Y2 := Y_Mod_isTown) 5 cf12 (s_Mod_isTown G _ _ _) (of_decide_eq_true h1) rfl (dk_182 (bt bc_Mod_rules_0 2 rfl) (bt bc_Mod_rules_0 3 rfl) (bt bc_Mod_rules_0 4 rfl) (n := 248) rfl) rfl tw_1528 tw_1530 ts_36 tw_1531 hd_Mod_isTown rfl (by decide) (Nat.le_of_ble_eq_true rfl) (fun r2 M3 => ?_)
  refine EJ_if_eq 20 8 (dk_153 (bt bc_Mod_rules_0 5 rfl) (bt bc_Mod_rules_0 6 rfl) (bt bc_Mod_rules_0 7 rfl) (n := 15) rfl) (by decide) rfl (fun _ => ?_) (fun _ => ?_)
  · refine EJ_bipush 22 (dk_16 (bt bc_Mod_rules_0 20 rfl) (bt bc_Mod_rules_0 21 rfl) (n := -2) rfl) rfl (v := (-2)) kB_m2 ?_
    exact EJ_iret rfl (dk_172 (bt bc_Mod_rules_0 22 rfl))
  · refine EJ_iload_n 9 2 (dk_28 (bt bc_Mod_rules_0 8 rfl)) rfl rfl ?_
    refine EJ_if_lt 20 12 (dk_155 (bt bc_Mod_rules_0 9 rfl) (bt bc_Mod_rules_0 10 rfl) (bt bc_Mod_rules_0 11 rfl) (n := 11) rfl) (by decide) rfl (fun _ => ?_) (fun _ => ?_)
    · refine EJ_bipush 22 (dk_16 (bt bc_Mod_rules_0 20 rfl) (bt bc_Mod_rules_0 21 rfl) (n := -2) rfl) rfl (v := (-2)) kB_m2 ?_
      exact EJ_iret rfl (dk_172 (bt bc_Mod_rules_0 22 rfl))
    · refine EJ_iload_n 13 2 (dk_28 (bt bc_Mod_rules_0 12 rfl)) rfl rfl ?_
      refine EJ_aload_n 14 0 (dk_42 (bt bc_Mod_rules_0 13 rfl)) rfl rfl ?_
      refine EJ_ck (fun h4 => ?_)
      refine EJ_getI cf12 54 (by decide) 17 tw_1252 (fun _ _ _ => rfl) (dk_180 (bt bc_Mod_rules_0 14 rfl) (bt bc_Mod_rules_0 15 rfl) (bt bc_Mod_rules_0 16 rfl) (n := 339) rfl) rfl (of_decide_eq_true h4) ?_
      refine EJ_icmp_le 23 20 (dk_164 (bt bc_Mod_rules_0 17 rfl) (bt bc_Mod_rules_0 18 rfl) (bt bc_Mod_rules_0 19 rfl) (n := 6) rfl) (by decide) rfl (fun _ => ?_) (fun _ => ?_)
      · refine EJ_aload_n 24 0 (dk_42 (bt bc_Mod_rules_0 23 rfl)) rfl rfl ?_
        refine EJ_getI cf12 37 (by decide) 27 tw_1235 (fun _ _ _ => rfl) (dk_180 (bt bc_Mod_rules_0 24 rfl) (bt bc_Mod_rules_0 25 rfl) (bt bc_Mod_rules_0 26 rfl) (n := 483) rfl) rfl (of_decide_eq_true h4) ?_
        refine EJ_bipush 29 (dk_16 (bt bc_Mod_rules_0 27 rfl) (bt bc_Mod_rules_0 28 rfl) (n := 8) rfl) rfl (v := 8) kB_8 ?_
        refine EJ_icmp_ne 35 32 (dk_160 (bt bc_Mod_rules_0 29 rfl) (bt bc_Mod_rules_0 30 rfl) (bt bc_Mod_rules_0 31 rfl) (n := 6) rfl) (by decide) rfl (fun _ => ?_) (fun _ => ?_)
        · refine EJ_aload_n 36 0 (dk_42 (bt bc_Mod_rules_1 3 rfl)) rfl rfl ?_
          refine EJ_iload_n 37 2 (dk_28 (bt bc_Mod_rules_1 4 rfl)) rfl rfl ?_
          refine EJ_putI cf12 56 (by decide) 40 tw_1254 rfl (Or.inl rfl) (dk_181 (bt bc_Mod_rules_1 5 rfl) (bt bc_Mod_rules_1 6 rfl) (bt bc_Mod_rules_1 7 rfl) (n := 345) rfl) rfl (of_decide_eq_true h4) ?_
          refine EJ_aload_n 41 0 (dk_42 (bt bc_Mod_rules_1 8 rfl)) rfl rfl ?_
          refine EJ_iconst 42 (dk_3 (bt bc_Mod_rules_1 9 rfl)) rfl (v := 0) kI_0 ?_
          refine EJ_putI cf12 54 (by decide) 45 tw_1252 rfl (Or.inl rfl) (dk_181 (bt bc_Mod_rules_1 10 rfl) (bt bc_Mod_rules_1 11 rfl) (bt bc_Mod_rules_1 12 rfl) (n := 339) rfl) rfl (kp_I (of_decide_eq_true h4)) ?_
          refine EJ_aload_n 46 0 (dk_42 (bt bc_Mod_rules_1 13 rfl)) rfl rfl ?_
          refine EJ_iconst 47 (dk_3 (bt bc_Mod_rules_1 14 rfl)) rfl (v := 0) kI_0 ?_
          refine EJ_putI cf12 57 (by decide) 50 tw_1255 rfl (Or.inl rfl) (dk_181 (bt bc_Mod_rules_1 15 rfl) (bt bc_Mod_rules_1 16 rfl) (bt bc_Mod_rules_1 17 rfl) (n := 342) rfl) rfl (kp_I (kp_I (of_decide_eq_true h4))) ?_
          refine EJ_aload_n 51 0 (dk_42 (bt bc_Mod_rules_1 18 rfl)) rfl rfl ?_
          refine EJ_iconst 52 (dk_2 (bt bc_Mod_rules_1 19 rfl)) rfl (v := (-1)) kI_m1 ?_
          refine EJ_putI cf12 55 (by decide) 55 tw_1253 rfl (Or.inl rfl) (dk_181 (bt bc_Mod_rules_1 20 rfl) (bt bc_Mod_rules_1 21 rfl) (bt bc_Mod_rules_1 22 rfl) (n := 137) rfl) rfl (kp_I (kp_I (kp_I (of_decide_eq_true h4)))) ?_
          refine EJ_aload_n 56 0 (dk_42 (bt bc_Mod_rules_1 23 rfl)) rfl rfl ?_
          refine EJ_iconst 57 (dk_3 (bt bc_Mod_rules_1 24 rfl)) rfl (v := 0) kI_0 ?_
          refine EJ_putZ cf12 65 (by decide) 60 tw_1263 rfl (Or.inl rfl) (by decide) (dk_181 (bt bc_Mod_rules_1 25 rfl) (bt bc_Mod_rules_1 26 rfl) (bt bc_Mod_rules_1 27 rfl) (n := 372) rfl) rfl (kp_I (kp_I (kp_I (kp_I (of_decide_eq_true h4))))) ?_
          refine EJ_aload_n 61 0 (dk_42 (bt bc_Mod_rules_1 28 rfl)) rfl rfl ?_
          refine EJ_getI cf12 46 (by decide) 64 tw_1244 (fun _ _ _ => rfl) (dk_180 (bt bc_Mod_rules_1 29 rfl) (bt bc_Mod_rules_1 30 rfl) (bt bc_Mod_rules_1 31 rfl) (n := 486) rfl) rfl (kp_I (kp_I (kp_I (kp_I (kp_I (of_decide_eq_true h4)))))) ?_
          refine EJ_istore_n 65 (lv2 := [(3, .int _), (0, .ref _), (1, .int _), (2, .int _)]) (dk_62 (bt bc_Mod_rules_2 0 rfl)) rfl (by decide) rfl ?_
          refine EJ_aload_n 66 1 (dk_42 (bt bc_Mod_rules_2 1 rfl)) rfl rfl ?_
          refine EJ_getI cf12 52 (by decide) 69 tw_1250 (fun _ _ _ => rfl) (dk_180 (bt bc_Mod_rules_2 2 rfl) (bt bc_Mod_rules_2 3 rfl) (bt bc_Mod_rules_2 4 rfl) (n := 418) rfl) rfl (kp_I (kp_I (kp_I (kp_I (kp_I (of_decide_eq_true h4)))))) ?_
          refine EJ_istore 71 (lv2 := [(4, .int _), (3, .int _), (0, .ref _), (1, .int _), (2, .int _)]) (dk_54 (bt bc_Mod_rules_2 5 rfl) (bt bc_Mod_rules_2 6 rfl)) rfl (by decide) rfl ?_
          refine EJ_aload_n 72 2 (dk_42 (bt bc_Mod_rules_2 7 rfl)) rfl rfl ?_
          refine EJ_callVv (Y2 := Y_Mod_next) 75 cf12 (s_Mod_next G _ _) (kp_I (kp_I (kp_I (kp_I (kp_I (of_decide_eq_true h4)))))) rfl (dk_182 (bt bc_Mod_rules_2 8 rfl) (bt bc_Mod_rules_2 9 rfl) (bt bc_Mod_rules_2 10 rfl) (n := 376) rfl) rfl tw_1682 tw_1684 ts_51 tw_1685 hd_Mod_next rfl (by decide) (Nat.le_of_ble_eq_true rfl) (fun _ M13 => ?_)
          exact EJ_pick (lv2 := [(0, .ref _), (1, .int _), (3, .int _), (4, .int _)]) [2, 3, 1, 0] rfl (e_Mod_rules_L75 fu _ _ _ _ _)
        · refine EJ_bipush 34 (dk_16 (bt bc_Mod_rules_1 0 rfl) (bt bc_Mod_rules_1 1 rfl) (n := -3) rfl) rfl (v := (-3)) kB_m3 ?_
          exact EJ_iret rfl (dk_172 (bt bc_Mod_rules_1 2 rfl))
      · refine EJ_bipush 22 (dk_16 (bt bc_Mod_rules_0 20 rfl) (bt bc_Mod_rules_0 21 rfl) (n := -2) rfl) rfl (v := (-2)) kB_m2 ?_
        exact EJ_iret rfl (dk_172 (bt bc_Mod_rules_0 22 rfl))
abbrev Y_Mod_fault : Ym := (⟨"RiceHallModel", "fault", "()I"⟩, prog_14_method_54_code, 1, (some FieldType.int))
theorem bc_Mod_fault_0 : bts prog_14_method_54_code 0 [42, 180, 0, 137, 172] := bts_of (by decide +kernel)
theorem hd_Mod_fault : Y_Mod_fault.1.cls = RX12 ∧ Y_Mod_fault.1.cls ≠ "java/lang/invoke/MethodHandle" ∧ Y_Mod_fault.1.cls ≠ "java/lang/invoke/VarHandle" ∧ (parseMethodDescriptor Y_Mod_fault.1.desc).map (fun d => d.parameters.length) = some 0 := by decide +kernel
def Mod_fault (M : Mm) (a0 : Nat) : Option (Int32 × Mm) :=
  ck (kO M a0 12 107) (
  some (mI M a0 55, M))
set_option maxRecDepth 100000 in
set_option maxHeartbeats 4000000 in
theorem s_Mod_fault (G : Gx) (M : Mm) (a0 : Nat) : FnS G Y_Mod_fault cvI 1 [.ref a0] M (Mod_fault M a0) := by
  refine FnS.ofE (by decide) (Nat.le_of_ble_eq_true rfl) ?_
  show EJ G Y_Mod_fault cvI 1 0 [(0, .ref a0)] [] M _
  unfold Mod_fault
  refine EJ_aload_n 1 0 (dk_42 (bt bc_Mod_fault_0 0 rfl)) rfl rfl ?_
  refine EJ_ck (fun h1 => ?_)
  refine EJ_getI cf12 55 (by decide) 4 tw_1253 (fun _ _ _ => rfl) (dk_180 (bt bc_Mod_fault_0 1 rfl) (bt bc_Mod_fault_0 2 rfl) (bt bc_Mod_fault_0 3 rfl) (n := 137) rfl) rfl (of_decide_eq_true h1) ?_
  exact EJ_iret rfl (dk_172 (bt bc_Mod_fault_0 4 rfl))
abbrev Y_Mod_heard : Ym := (⟨"RiceHallModel", "heard", "(I)I"⟩, prog_14_method_55_code, 2, (some FieldType.int))
theorem bc_Mod_heard_0 : bts prog_14_method_55_code 0 [27, 155, 0, 20, 27, 42, 180, 1, 227, 162, 0, 12, 42, 180, 0, 100, 27, 46, 167, 0, 4, 2, 172] := bts_of (by decide +kernel)
theorem hd_Mod_heard : Y_Mod_heard.1.cls = RX12 ∧ Y_Mod_heard.1.cls ≠ "java/lang/invoke/MethodHandle" ∧ Y_Mod_heard.1.cls ≠ "java/lang/invoke/VarHandle" ∧ (parseMethodDescriptor Y_Mod_heard.1.desc).map (fun d => d.parameters.length) = some 1 := by decide +kernel
def Mod_heard (M : Mm) (a0 : Nat) (a1 : Int32) : Option (Int32 × Mm) :=
  if a1 < 0 then (
    some ((-1), M))
  else (
    ck (kO M a0 12 107) (
    if (mI M a0 37) ≤ a1 then (
      some ((-1), M))
    else (
      nn (mR M a0 40) (fun b2 =>
      ck (kA M b2 20 a1) (
      some (mI M b2 (ix a1), M))))))
set_option maxRecDepth 100000 in
set_option maxHeartbeats 4000000 in
theorem s_Mod_heard (G : Gx) (M : Mm) (a0 : Nat) (a1 : Int32) : FnS G Y_Mod_heard cvI 1 [.ref a0, .int a1] M (Mod_heard M a0 a1) := by
  refine FnS.ofE (by decide) (Nat.le_of_ble_eq_true rfl) ?_
  show EJ G Y_Mod_heard cvI 1 0 [(0, .ref a0), (1, .int a1)] [] M _
  unfold Mod_heard
  refine EJ_iload_n 1 1 (dk_27 (bt bc_Mod_heard_0 0 rfl)) rfl rfl ?_
  refine EJ_if_lt 21 4 (dk_155 (bt bc_Mod_heard_0 1 rfl) (bt bc_Mod_heard_0 2 rfl) (bt bc_Mod_heard_0 3 rfl) (n := 20) rfl) (by decide) rfl (fun _ => ?_) (fun _ => ?_)
  · refine EJ_iconst 22 (dk_2 (bt bc_Mod_heard_0 21 rfl)) rfl (v := (-1)) kI_m1 ?_
    exact EJ_iret rfl (dk_172 (bt bc_Mod_heard_0 22 rfl))
  · refine EJ_iload_n 5 1 (dk_27 (bt bc_Mod_heard_0 4 rfl)) rfl rfl ?_
    refine EJ_aload_n 6 0 (dk_42 (bt bc_Mod_heard_0 5 rfl)) rfl rfl ?_
    refine EJ_ck (fun h1 => ?_)
    refine EJ_getI cf12 37 (by decide) 9 tw_1235 (fun _ _ _ => rfl) (dk_180 (bt bc_Mod_heard_0 6 rfl) (bt bc_Mod_heard_0 7 rfl) (bt bc_Mod_heard_0 8 rfl) (n := 483) rfl) rfl (of_decide_eq_true h1) ?_
    refine EJ_icmp_ge 21 12 (dk_162 (bt bc_Mod_heard_0 9 rfl) (bt bc_Mod_heard_0 10 rfl) (bt bc_Mod_heard_0 11 rfl) (n := 12) rfl) (by decide) rfl (fun _ => ?_) (fun _ => ?_)
    · refine EJ_iconst 22 (dk_2 (bt bc_Mod_heard_0 21 rfl)) rfl (v := (-1)) kI_m1 ?_
      exact EJ_iret rfl (dk_172 (bt bc_Mod_heard_0 22 rfl))
    · refine EJ_aload_n 13 0 (dk_42 (bt bc_Mod_heard_0 12 rfl)) rfl rfl ?_
      refine EJ_getR cf12 40 (by decide) 16 tw_1238 (fun _ _ _ => rfl) (dk_180 (bt bc_Mod_heard_0 13 rfl) (bt bc_Mod_heard_0 14 rfl) (bt bc_Mod_heard_0 15 rfl) (n := 100) rfl) rfl (of_decide_eq_true h1) (fun b2 => ?_)
      refine EJ_iload_n 17 1 (dk_27 (bt bc_Mod_heard_0 16 rfl)) rfl rfl ?_
      refine EJ_ck (fun h3 => ?_)
      refine EJ_iald 18 h3 (dk_46 (bt bc_Mod_heard_0 17 rfl)) rfl ?_
      refine EJ_goto 22 (dk_167 (bt bc_Mod_heard_0 18 rfl) (bt bc_Mod_heard_0 19 rfl) (bt bc_Mod_heard_0 20 rfl) (n := 4) rfl) (by decide) ?_
      exact EJ_iret rfl (dk_172 (bt bc_Mod_heard_0 22 rfl))
abbrev Y_Mod_rule : Ym := (⟨"RiceHallModel", "rule", "(I)I"⟩, prog_14_method_61_code, 2, (some FieldType.int))
theorem bc_Mod_rule_0 : bts prog_14_method_61_code 0 [27, 16, 11, 160, 0, 10, 42, 182, 1, 248, 167, 0, 22, 27, 3, 16, 10, 184, 0, 252, 153, 0, 11, 42, 27, 182, 1, 46, 167, 0, 4, 2] := bts_of (by decide +kernel)
theorem bc_Mod_rule_1 : bts prog_14_method_61_code 32 [172] := bts_of (by decide +kernel)
theorem hd_Mod_rule : Y_Mod_rule.1.cls = RX12 ∧ Y_Mod_rule.1.cls ≠ "java/lang/invoke/MethodHandle" ∧ Y_Mod_rule.1.cls ≠ "java/lang/invoke/VarHandle" ∧ (parseMethodDescriptor Y_Mod_rule.1.desc).map (fun d => d.parameters.length) = some 1 := by decide +kernel
def Mod_rule (M : Mm) (a0 : Nat) (a1 : Int32) : Option (Int32 × Mm) :=
  if a1 = 11 then (
    ck (kO M a0 12 107) (
    bd (Mod_inForce M a0) (fun r7 M8 =>
    some (r7, M8))))
  else (
    bd (Mod_in M a1 0 10) (fun r1 M2 =>
    if r1 = 0 then (
      some ((-1), M2))
    else (
      ck (kO M2 a0 12 107) (
      bd (Mod_asked M2 a0 a1) (fun r4 M5 =>
      some (r4, M5))))))
set_option maxRecDepth 100000 in
set_option maxHeartbeats 4000000 in
theorem s_Mod_rule (G : Gx) (M : Mm) (a0 : Nat) (a1 : Int32) : FnS G Y_Mod_rule cvI 5 [.ref a0, .int a1] M (Mod_rule M a0 a1) := by
  refine FnS.ofE (by decide) (Nat.le_of_ble_eq_true rfl) ?_
  show EJ G Y_Mod_rule cvI 5 0 [(0, .ref a0), (1, .int a1)] [] M _
  unfold Mod_rule
  refine EJ_iload_n 1 1 (dk_27 (bt bc_Mod_rule_0 0 rfl)) rfl rfl ?_
  refine EJ_bipush 3 (dk_16 (bt bc_Mod_rule_0 1 rfl) (bt bc_Mod_rule_0 2 rfl) (n := 11) rfl) rfl (v := 11) kB_11 ?_
  refine EJ_icmp_ne 13 6 (dk_160 (bt bc_Mod_rule_0 3 rfl) (bt bc_Mod_rule_0 4 rfl) (bt bc_Mod_rule_0 5 rfl) (n := 10) rfl) (by decide) rfl (fun _ => ?_) (fun _ => ?_)
  · refine EJ_iload_n 14 1 (dk_27 (bt bc_Mod_rule_0 13 rfl)) rfl rfl ?_
    refine EJ_iconst 15 (dk_3 (bt bc_Mod_rule_0 14 rfl)) rfl (v := 0) kI_0 ?_
    refine EJ_bipush 17 (dk_16 (bt bc_Mod_rule_0 15 rfl) (bt bc_Mod_rule_0 16 rfl) (n := 10) rfl) rfl (v := 10) kB_10 ?_
    refine EJ_callSi (Y2 := Y_Mod_in) 20 (s_Mod_in G _ _ _ _) rfl (dk_184 (bt bc_Mod_rule_0 17 rfl) (bt bc_Mod_rule_0 18 rfl) (bt bc_Mod_rule_0 19 rfl) (n := 252) rfl) rfl tw_1532 tw_1533 tw_8 tw_1534 hd_Mod_in rfl (by decide) (Nat.le_of_ble_eq_true rfl) (fun r1 M2 => ?_)
    refine EJ_if_eq 31 23 (dk_153 (bt bc_Mod_rule_0 20 rfl) (bt bc_Mod_rule_0 21 rfl) (bt bc_Mod_rule_0 22 rfl) (n := 11) rfl) (by decide) rfl (fun _ => ?_) (fun _ => ?_)
    · refine EJ_iconst 32 (dk_2 (bt bc_Mod_rule_0 31 rfl)) rfl (v := (-1)) kI_m1 ?_
      exact EJ_iret rfl (dk_172 (bt bc_Mod_rule_1 0 rfl))
    · refine EJ_aload_n 24 0 (dk_42 (bt bc_Mod_rule_0 23 rfl)) rfl rfl ?_
      refine EJ_iload_n 25 1 (dk_27 (bt bc_Mod_rule_0 24 rfl)) rfl rfl ?_
      refine EJ_ck (fun h3 => ?_)
      refine EJ_callVi (Y2 := Y_Mod_asked) 28 cf12 (s_Mod_asked G _ _ _) (of_decide_eq_true h3) rfl (dk_182 (bt bc_Mod_rule_0 25 rfl) (bt bc_Mod_rule_0 26 rfl) (bt bc_Mod_rule_0 27 rfl) (n := 302) rfl) rfl tw_1608 tw_1610 ts_44 tw_1611 hd_Mod_asked rfl (by decide) (Nat.le_of_ble_eq_true rfl) (fun r4 M5 => ?_)
      refine EJ_goto 32 (dk_167 (bt bc_Mod_rule_0 28 rfl) (bt bc_Mod_rule_0 29 rfl) (bt bc_Mod_rule_0 30 rfl) (n := 4) rfl) (by decide) ?_
      exact EJ_iret rfl (dk_172 (bt bc_Mod_rule_1 0 rfl))
  · refine EJ_aload_n 7 0 (dk_42 (bt bc_Mod_rule_0 6 rfl)) rfl rfl ?_
    refine EJ_ck (fun h6 => ?_)
    refine EJ_callVi (Y2 := Y_Mod_inForce) 10 cf12 (s_Mod_inForce G _ _) (of_decide_eq_true h6) rfl (dk_182 (bt bc_Mod_rule_0 7 rfl) (bt bc_Mod_rule_0 8 rfl) (bt bc_Mod_rule_0 9 rfl) (n := 504) rfl) rfl tw_1615 tw_1617 ts_45 tw_1618 hd_Mod_inForce rfl (by decide) (Nat.le_of_ble_eq_true rfl) (fun r7 M8 => ?_)
    refine EJ_goto 32 (dk_167 (bt bc_Mod_rule_0 10 rfl) (bt bc_Mod_rule_0 11 rfl) (bt bc_Mod_rule_0 12 rfl) (n := 22) rfl) (by decide) ?_
    exact EJ_iret rfl (dk_172 (bt bc_Mod_rule_1 0 rfl))
abbrev Y_Mod_wind : Ym := (⟨"RiceHallModel", "wind", "(I)Z"⟩, prog_14_method_62_code, 2, (some FieldType.boolean))
theorem bc_Mod_wind_0 : bts prog_14_method_62_code 0 [27, 3, 16, 9, 184, 0, 252, 154, 0, 5, 3, 172, 42, 27, 181, 1, 236, 4, 172] := bts_of (by decide +kernel)
theorem hd_Mod_wind : Y_Mod_wind.1.cls = RX12 ∧ Y_Mod_wind.1.cls ≠ "java/lang/invoke/MethodHandle" ∧ Y_Mod_wind.1.cls ≠ "java/lang/invoke/VarHandle" ∧ (parseMethodDescriptor Y_Mod_wind.1.desc).map (fun d => d.parameters.length) = some 1 := by decide +kernel
def Mod_wind (M : Mm) (a0 : Nat) (a1 : Int32) : Option (Int32 × Mm) :=
  bd (Mod_in M a1 0 9) (fun r1 M2 =>
  if r1 = 0 then (
    some (0, M2))
  else (
    ck (kO M2 a0 12 107) (
    let M4 := sI M2 a0 1 a1
    some (1, M4))))
set_option maxRecDepth 100000 in
set_option maxHeartbeats 4000000 in
theorem s_Mod_wind (G : Gx) (M : Mm) (a0 : Nat) (a1 : Int32) : FnS G Y_Mod_wind cvI 2 [.ref a0, .int a1] M (Mod_wind M a0 a1) := by
  refine FnS.ofE (by decide) (Nat.le_of_ble_eq_true rfl) ?_
  show EJ G Y_Mod_wind cvI 2 0 [(0, .ref a0), (1, .int a1)] [] M _
  unfold Mod_wind
  refine EJ_iload_n 1 1 (dk_27 (bt bc_Mod_wind_0 0 rfl)) rfl rfl ?_
  refine EJ_iconst 2 (dk_3 (bt bc_Mod_wind_0 1 rfl)) rfl (v := 0) kI_0 ?_
  refine EJ_bipush 4 (dk_16 (bt bc_Mod_wind_0 2 rfl) (bt bc_Mod_wind_0 3 rfl) (n := 9) rfl) rfl (v := 9) kB_9 ?_
  refine EJ_callSi (Y2 := Y_Mod_in) 7 (s_Mod_in G _ _ _ _) rfl (dk_184 (bt bc_Mod_wind_0 4 rfl) (bt bc_Mod_wind_0 5 rfl) (bt bc_Mod_wind_0 6 rfl) (n := 252) rfl) rfl tw_1532 tw_1533 tw_8 tw_1534 hd_Mod_in rfl (by decide) (Nat.le_of_ble_eq_true rfl) (fun r1 M2 => ?_)
  refine EJ_if_ne 12 10 (dk_154 (bt bc_Mod_wind_0 7 rfl) (bt bc_Mod_wind_0 8 rfl) (bt bc_Mod_wind_0 9 rfl) (n := 5) rfl) (by decide) rfl (fun _ => ?_) (fun _ => ?_)
  · refine EJ_aload_n 13 0 (dk_42 (bt bc_Mod_wind_0 12 rfl)) rfl rfl ?_
    refine EJ_iload_n 14 1 (dk_27 (bt bc_Mod_wind_0 13 rfl)) rfl rfl ?_
    refine EJ_ck (fun h3 => ?_)
    refine EJ_putI cf12 1 (by decide) 17 tw_1199 rfl (Or.inl rfl) (dk_181 (bt bc_Mod_wind_0 14 rfl) (bt bc_Mod_wind_0 15 rfl) (bt bc_Mod_wind_0 16 rfl) (n := 492) rfl) rfl (of_decide_eq_true h3) ?_
    refine EJ_iconst 18 (dk_4 (bt bc_Mod_wind_0 17 rfl)) rfl (v := 1) kI_1 ?_
    exact EJ_zret rfl (by decide) (dk_172 (bt bc_Mod_wind_0 18 rfl))
  · refine EJ_iconst 11 (dk_3 (bt bc_Mod_wind_0 10 rfl)) rfl (v := 0) kI_0 ?_
    exact EJ_zret rfl (by decide) (dk_172 (bt bc_Mod_wind_0 11 rfl))
abbrev Y_Mod_light : Ym := (⟨"RiceHallModel", "light", "()I"⟩, prog_14_method_63_code, 2, (some FieldType.int))
theorem bc_Mod_light_0 : bts prog_14_method_63_code 0 [42, 180, 1, 254, 154, 0, 12, 42, 180, 2, 1, 16, 24, 160, 0, 5, 2, 172, 42, 4, 181, 1, 254, 42, 42, 6, 182, 1, 46, 181, 2, 4] := bts_of (by decide +kernel)
theorem bc_Mod_light_1 : bts prog_14_method_63_code 32 [42, 180, 0, 149, 42, 180, 2, 1, 42, 180, 1, 28, 79, 42, 180, 0, 152, 42, 180, 2, 1, 2, 79, 42, 180, 0, 155, 42, 180, 2, 1, 2] := bts_of (by decide +kernel)
theorem bc_Mod_light_2 : bts prog_14_method_63_code 64 [79, 42, 89, 180, 2, 1, 4, 96, 181, 2, 1, 3, 60, 27, 16, 60, 162, 0, 16, 42, 180, 0, 227, 27, 3, 79, 132, 1, 1, 167, 255, 240] := bts_of (by decide +kernel)
theorem bc_Mod_light_3 : bts prog_14_method_63_code 96 [42, 180, 2, 1, 4, 100, 172] := bts_of (by decide +kernel)
theorem hd_Mod_light : Y_Mod_light.1.cls = RX12 ∧ Y_Mod_light.1.cls ≠ "java/lang/invoke/MethodHandle" ∧ Y_Mod_light.1.cls ≠ "java/lang/invoke/VarHandle" ∧ (parseMethodDescriptor Y_Mod_light.1.desc).map (fun d => d.parameters.length) = some 0 := by decide +kernel
def Mod_light_B77 (k77 : Nat → Int32 → Mm → Option (Int32 × Mm)) (x0 : Nat) (x1 : Int32) (M : Mm) : Option (Int32 × Mm) :=
  if 60 ≤ x1 then (
    ck (kO M x0 12 107) (
    some ((mI M x0 70) - 1, M)))
  else (
    ck (kO M x0 12 107) (
    nn (mR M x0 100) (fun b19 =>
    ck (kA M b19 20 x1) (
    let M21 := sI M b19 (ix x1) 0
    let v22 : Int32 := x1 + 1
    k77 x0 v22 M21))))
set_option maxRecDepth 100000 in
set_option maxHeartbeats 4000000 in
theorem e_Mod_light_B77 {G : Gx} (k77 : Nat → Int32 → Mm → Option (Int32 × Mm)) (hk77 : ∀ (x0 : Nat) (x1 : Int32) (M : Mm), EJ G Y_Mod_light cvI 5 77 [(0, .ref x0), (1, .int x1)] [] M (k77 x0 x1 M)) (x0 : Nat) (x1 : Int32) (M : Mm) : EJ G Y_Mod_light cvI 5 77 [(0, .ref x0), (1, .int x1)] [] M (Mod_light_B77 k77 x0 x1 M) := by
  unfold Mod_light_B77
  refine EJ_iload_n 78 1 (dk_27 (bt bc_Mod_light_2 13 rfl)) rfl rfl ?_
  refine EJ_bipush 80 (dk_16 (bt bc_Mod_light_2 14 rfl) (bt bc_Mod_light_2 15 rfl) (n := 60) rfl) rfl (v := 60) kB_60 ?_
  refine EJ_icmp_ge 96 83 (dk_162 (bt bc_Mod_light_2 16 rfl) (bt bc_Mod_light_2 17 rfl) (bt bc_Mod_light_2 18 rfl) (n := 16) rfl) (by decide) rfl (fun _ => ?_) (fun _ => ?_)
  · refine EJ_aload_n 97 0 (dk_42 (bt bc_Mod_light_3 0 rfl)) rfl rfl ?_
    refine EJ_ck (fun h17 => ?_)
    refine EJ_getI cf12 70 (by decide) 100 tw_1268 (fun _ _ _ => rfl) (dk_180 (bt bc_Mod_light_3 1 rfl) (bt bc_Mod_light_3 2 rfl) (bt bc_Mod_light_3 3 rfl) (n := 513) rfl) rfl (of_decide_eq_true h17) ?_
    refine EJ_iconst 101 (dk_4 (bt bc_Mod_light_3 4 rfl)) rfl (v := 1) kI_1 ?_
    refine EJ_isub 102 (dk_100 (bt bc_Mod_light_3 5 rfl)) rfl ?_
    exact EJ_iret rfl (dk_172 (bt bc_Mod_light_3 6 rfl))
  · refine EJ_aload_n 84 0 (dk_42 (bt bc_Mod_light_2 19 rfl)) rfl rfl ?_
    refine EJ_ck (fun h18 => ?_)
    refine EJ_getR cf12 100 (by decide) 87 tw_1298 (fun _ _ _ => rfl) (dk_180 (bt bc_Mod_light_2 20 rfl) (bt bc_Mod_light_2 21 rfl) (bt bc_Mod_light_2 22 rfl) (n := 227) rfl) rfl (of_decide_eq_true h18) (fun b19 => ?_)
    refine EJ_iload_n 88 1 (dk_27 (bt bc_Mod_light_2 23 rfl)) rfl rfl ?_
    refine EJ_iconst 89 (dk_3 (bt bc_Mod_light_2 24 rfl)) rfl (v := 0) kI_0 ?_
    refine EJ_ck (fun h20 => ?_)
    refine EJ_iast 90 h20 (dk_79 (bt bc_Mod_light_2 25 rfl)) rfl ?_
    refine EJ_iinc 93 1 (lv2 := [(1, .int _), (0, .ref _)]) (dk_132 (bt bc_Mod_light_2 26 rfl) (bt bc_Mod_light_2 27 rfl) (bt bc_Mod_light_2 28 rfl) (n := 1) rfl) rfl (by decide) rfl (v := 1) kI_1 rfl ?_
    refine EJ_goto 77 (dk_167 (bt bc_Mod_light_2 29 rfl) (bt bc_Mod_light_2 30 rfl) (bt bc_Mod_light_2 31 rfl) (n := -16) rfl) (by decide) ?_
    exact EJ_pick (lv2 := [(0, .ref _), (1, .int _)]) [1, 0] rfl (hk77 _ _ _)
def Mod_light_L77 (n : Nat) : Nat → Int32 → Mm → Option (Int32 × Mm) :=
  match n with
  | 0 => fun _ _ _ => none
  | n + 1 => Mod_light_B77 (Mod_light_L77 n)
theorem e_Mod_light_L77 {G : Gx} : ∀ (n : Nat) (x0 : Nat) (x1 : Int32) (M : Mm), EJ G Y_Mod_light cvI 5 77 [(0, .ref x0), (1, .int x1)] [] M (Mod_light_L77 n x0 x1 M) := by
  intro n
  induction n with
  | zero => intros; exact EJ_none
  | succ n ih => intro x0 x1 M; exact e_Mod_light_B77 _ ih x0 x1 M
def Mod_light (M : Mm) (a0 : Nat) : Option (Int32 × Mm) :=
  ck (kO M a0 12 107) (
  if (mI M a0 73) = 0 then (
    if (mI M a0 70) = 24 then (
      some ((-1), M))
    else (
      let M2 := sI M a0 73 1
      bd (Mod_asked M2 a0 3) (fun r3 M4 =>
      ck (kO M4 a0 12 107) (
      let M6 := sI M4 a0 72 r3
      nn (mR M6 a0 74) (fun b7 =>
      ck (kA M6 b7 20 (mI M6 a0 70)) (
      let M9 := sI M6 b7 (ix (mI M6 a0 70)) (mI M6 a0 0)
      nn (mR M9 a0 75) (fun b10 =>
      ck (kA M9 b10 20 (mI M9 a0 70)) (
      let M12 := sI M9 b10 (ix (mI M9 a0 70)) (-1)
      nn (mR M12 a0 76) (fun b13 =>
      ck (kA M12 b13 20 (mI M12 a0 70)) (
      let M15 := sI M12 b13 (ix (mI M12 a0 70)) (-1)
      let M16 := sI M15 a0 70 ((mI M15 a0 70) + 1)
      Mod_light_L77 fu a0 0 M16))))))))))
  else (
    some ((-1), M)))
set_option maxRecDepth 100000 in
set_option maxHeartbeats 4000000 in
theorem s_Mod_light (G : Gx) (M : Mm) (a0 : Nat) : FnS G Y_Mod_light cvI 5 [.ref a0] M (Mod_light M a0) := by
  refine FnS.ofE (by decide) (Nat.le_of_ble_eq_true rfl) ?_
  show EJ G Y_Mod_light cvI 5 0 [(0, .ref a0)] [] M _
  unfold Mod_light
  refine EJ_aload_n 1 0 (dk_42 (bt bc_Mod_light_0 0 rfl)) rfl rfl ?_
  refine EJ_ck (fun h1 => ?_)
  refine EJ_getI cf12 73 (by decide) 4 tw_1271 (fun _ _ _ => rfl) (dk_180 (bt bc_Mod_light_0 1 rfl) (bt bc_Mod_light_0 2 rfl) (bt bc_Mod_light_0 3 rfl) (n := 510) rfl) rfl (of_decide_eq_true h1) ?_
  refine EJ_if_ne 16 7 (dk_154 (bt bc_Mod_light_0 4 rfl) (bt bc_Mod_light_0 5 rfl) (bt bc_Mod_light_0 6 rfl) (n := 12) rfl) (by decide) rfl (fun _ => ?_) (fun _ => ?_)
  · refine EJ_iconst 17 (dk_2 (bt bc_Mod_light_0 16 rfl)) rfl (v := (-1)) kI_m1 ?_
    exact EJ_iret rfl (dk_172 (bt bc_Mod_light_0 17 rfl))
  · refine EJ_aload_n 8 0 (dk_42 (bt bc_Mod_light_0 7 rfl)) rfl rfl ?_
    refine EJ_getI cf12 70 (by decide) 11 tw_1268 (fun _ _ _ => rfl) (dk_180 (bt bc_Mod_light_0 8 rfl) (bt bc_Mod_light_0 9 rfl) (bt bc_Mod_light_0 10 rfl) (n := 513) rfl) rfl (of_decide_eq_true h1) ?_
    refine EJ_bipush 13 (dk_16 (bt bc_Mod_light_0 11 rfl) (bt bc_Mod_light_0 12 rfl) (n := 24) rfl) rfl (v := 24) kB_24 ?_
    refine EJ_icmp_ne 18 16 (dk_160 (bt bc_Mod_light_0 13 rfl) (bt bc_Mod_light_0 14 rfl) (bt bc_Mod_light_0 15 rfl) (n := 5) rfl) (by decide) rfl (fun _ => ?_) (fun _ => ?_)
    · refine EJ_aload_n 19 0 (dk_42 (bt bc_Mod_light_0 18 rfl)) rfl rfl ?_
      refine EJ_iconst 20 (dk_4 (bt bc_Mod_light_0 19 rfl)) rfl (v := 1) kI_1 ?_
      refine EJ_putZ cf12 73 (by decide) 23 tw_1271 rfl (Or.inl rfl) (by decide) (dk_181 (bt bc_Mod_light_0 20 rfl) (bt bc_Mod_light_0 21 rfl) (bt bc_Mod_light_0 22 rfl) (n := 510) rfl) rfl (of_decide_eq_true h1) ?_
      refine EJ_aload_n 24 0 (dk_42 (bt bc_Mod_light_0 23 rfl)) rfl rfl ?_
      refine EJ_aload_n 25 0 (dk_42 (bt bc_Mod_light_0 24 rfl)) rfl rfl ?_
      refine EJ_iconst 26 (dk_6 (bt bc_Mod_light_0 25 rfl)) rfl (v := 3) kI_3 ?_
      refine EJ_callVi (Y2 := Y_Mod_asked) 29 cf12 (s_Mod_asked G _ _ _) (kp_I (of_decide_eq_true h1)) rfl (dk_182 (bt bc_Mod_light_0 26 rfl) (bt bc_Mod_light_0 27 rfl) (bt bc_Mod_light_0 28 rfl) (n := 302) rfl) rfl tw_1608 tw_1610 ts_44 tw_1611 hd_Mod_asked rfl (by decide) (Nat.le_of_ble_eq_true rfl) (fun r3 M4 => ?_)
      refine EJ_ck (fun h5 => ?_)
      refine EJ_putI cf12 72 (by decide) 32 tw_1270 rfl (Or.inl rfl) (dk_181 (bt bc_Mod_light_0 29 rfl) (bt bc_Mod_light_0 30 rfl) (bt bc_Mod_light_0 31 rfl) (n := 516) rfl) rfl (of_decide_eq_true h5) ?_
      refine EJ_aload_n 33 0 (dk_42 (bt bc_Mod_light_1 0 rfl)) rfl rfl ?_
      refine EJ_getR cf12 74 (by decide) 36 tw_1272 (fun _ _ _ => rfl) (dk_180 (bt bc_Mod_light_1 1 rfl) (bt bc_Mod_light_1 2 rfl) (bt bc_Mod_light_1 3 rfl) (n := 149) rfl) rfl (kp_I (of_decide_eq_true h5)) (fun b7 => ?_)
      refine EJ_aload_n 37 0 (dk_42 (bt bc_Mod_light_1 4 rfl)) rfl rfl ?_
      refine EJ_getI cf12 70 (by decide) 40 tw_1268 (fun _ _ _ => rfl) (dk_180 (bt bc_Mod_light_1 5 rfl) (bt bc_Mod_light_1 6 rfl) (bt bc_Mod_light_1 7 rfl) (n := 513) rfl) rfl (kp_I (of_decide_eq_true h5)) ?_
      refine EJ_aload_n 41 0 (dk_42 (bt bc_Mod_light_1 8 rfl)) rfl rfl ?_
      refine EJ_getI cf12 0 (by decide) 44 tw_1198 (fun _ _ _ => rfl) (dk_180 (bt bc_Mod_light_1 9 rfl) (bt bc_Mod_light_1 10 rfl) (bt bc_Mod_light_1 11 rfl) (n := 284) rfl) rfl (kp_I (of_decide_eq_true h5)) ?_
      refine EJ_ck (fun h8 => ?_)
      refine EJ_iast 45 h8 (dk_79 (bt bc_Mod_light_1 12 rfl)) rfl ?_
      refine EJ_aload_n 46 0 (dk_42 (bt bc_Mod_light_1 13 rfl)) rfl rfl ?_
      refine EJ_getR cf12 75 (by decide) 49 tw_1273 (fun _ _ _ => rfl) (dk_180 (bt bc_Mod_light_1 14 rfl) (bt bc_Mod_light_1 15 rfl) (bt bc_Mod_light_1 16 rfl) (n := 152) rfl) rfl (kp_I (kp_I (of_decide_eq_true h5))) (fun b10 => ?_)
      refine EJ_aload_n 50 0 (dk_42 (bt bc_Mod_light_1 17 rfl)) rfl rfl ?_
      refine EJ_getI cf12 70 (by decide) 53 tw_1268 (fun _ _ _ => rfl) (dk_180 (bt bc_Mod_light_1 18 rfl) (bt bc_Mod_light_1 19 rfl) (bt bc_Mod_light_1 20 rfl) (n := 513) rfl) rfl (kp_I (kp_I (of_decide_eq_true h5))) ?_
      refine EJ_iconst 54 (dk_2 (bt bc_Mod_light_1 21 rfl)) rfl (v := (-1)) kI_m1 ?_
      refine EJ_ck (fun h11 => ?_)
      refine EJ_iast 55 h11 (dk_79 (bt bc_Mod_light_1 22 rfl)) rfl ?_
      refine EJ_aload_n 56 0 (dk_42 (bt bc_Mod_light_1 23 rfl)) rfl rfl ?_
      refine EJ_getR cf12 76 (by decide) 59 tw_1274 (fun _ _ _ => rfl) (dk_180 (bt bc_Mod_light_1 24 rfl) (bt bc_Mod_light_1 25 rfl) (bt bc_Mod_light_1 26 rfl) (n := 155) rfl) rfl (kp_I (kp_I (kp_I (of_decide_eq_true h5)))) (fun b13 => ?_)
      refine EJ_aload_n 60 0 (dk_42 (bt bc_Mod_light_1 27 rfl)) rfl rfl ?_
      refine EJ_getI cf12 70 (by decide) 63 tw_1268 (fun _ _ _ => rfl) (dk_180 (bt bc_Mod_light_1 28 rfl) (bt bc_Mod_light_1 29 rfl) (bt bc_Mod_light_1 30 rfl) (n := 513) rfl) rfl (kp_I (kp_I (kp_I (of_decide_eq_true h5)))) ?_
      refine EJ_iconst 64 (dk_2 (bt bc_Mod_light_1 31 rfl)) rfl (v := (-1)) kI_m1 ?_
      refine EJ_ck (fun h14 => ?_)
      refine EJ_iast 65 h14 (dk_79 (bt bc_Mod_light_2 0 rfl)) rfl ?_
      refine EJ_aload_n 66 0 (dk_42 (bt bc_Mod_light_2 1 rfl)) rfl rfl ?_
      refine EJ_dup 67 (dk_89 (bt bc_Mod_light_2 2 rfl)) rfl rfl ?_
      refine EJ_getI cf12 70 (by decide) 70 tw_1268 (fun _ _ _ => rfl) (dk_180 (bt bc_Mod_light_2 3 rfl) (bt bc_Mod_light_2 4 rfl) (bt bc_Mod_light_2 5 rfl) (n := 513) rfl) rfl (kp_I (kp_I (kp_I (kp_I (of_decide_eq_true h5))))) ?_
      refine EJ_iconst 71 (dk_4 (bt bc_Mod_light_2 6 rfl)) rfl (v := 1) kI_1 ?_
      refine EJ_iadd 72 (dk_96 (bt bc_Mod_light_2 7 rfl)) rfl ?_
      refine EJ_putI cf12 70 (by decide) 75 tw_1268 rfl (Or.inl rfl) (dk_181 (bt bc_Mod_light_2 8 rfl) (bt bc_Mod_light_2 9 rfl) (bt bc_Mod_light_2 10 rfl) (n := 513) rfl) rfl (kp_I (kp_I (kp_I (kp_I (of_decide_eq_true h5))))) ?_
      refine EJ_iconst 76 (dk_3 (bt bc_Mod_light_2 11 rfl)) rfl (v := 0) kI_0 ?_
      refine EJ_istore_n 77 (lv2 := [(1, .int _), (0, .ref _)]) (dk_60 (bt bc_Mod_light_2 12 rfl)) rfl (by decide) rfl ?_
      exact EJ_pick (lv2 := [(0, .ref _), (1, .int _)]) [1, 0] rfl (e_Mod_light_L77 fu _ _ _)
    · refine EJ_iconst 17 (dk_2 (bt bc_Mod_light_0 16 rfl)) rfl (v := (-1)) kI_m1 ?_
      exact EJ_iret rfl (dk_172 (bt bc_Mod_light_0 17 rfl))
abbrev Y_Mod_against : Ym := (⟨"RiceHallModel", "against", "(III)I"⟩, prog_14_method_64_code, 8, (some FieldType.int))
theorem bc_Mod_against_0 : bts prog_14_method_64_code 0 [2, 54, 4, 3, 54, 5, 21, 5, 29, 162, 0, 214, 16, 60, 27, 104, 21, 5, 96, 54, 6, 42, 180, 0, 227, 21, 5, 46, 153, 0, 189, 42] := bts_of (by decide +kernel)
theorem bc_Mod_against_1 : bts prog_14_method_64_code 32 [180, 0, 191, 21, 6, 51, 42, 180, 0, 191, 16, 60, 27, 104, 28, 96, 51, 159, 0, 168, 42, 180, 0, 176, 21, 6, 46, 42, 180, 0, 176, 16] := bts_of (by decide +kernel)
theorem bc_Mod_against_2 : bts prog_14_method_64_code 64 [60, 27, 104, 28, 96, 46, 160, 0, 6, 167, 0, 144, 42, 180, 0, 191, 21, 6, 51, 153, 0, 32, 42, 180, 0, 182, 21, 6, 46, 42, 180, 0] := bts_of (by decide +kernel)
theorem bc_Mod_against_3 : bts prog_14_method_64_code 96 [182, 16, 60, 27, 104, 28, 96, 46, 161, 0, 7, 4, 167, 0, 33, 3, 167, 0, 29, 42, 180, 0, 182, 21, 6, 46, 42, 180, 0, 182, 16, 60] := bts_of (by decide +kernel)
theorem bc_Mod_against_4 : bts prog_14_method_64_code 128 [27, 104, 28, 96, 46, 163, 0, 7, 4, 167, 0, 4, 3, 54, 7, 21, 7, 154, 0, 6, 167, 0, 69, 21, 4, 155, 0, 60, 42, 180, 0, 191] := bts_of (by decide +kernel)
theorem bc_Mod_against_5 : bts prog_14_method_64_code 160 [21, 6, 51, 153, 0, 28, 42, 180, 0, 182, 21, 6, 46, 42, 180, 0, 182, 16, 60, 27, 104, 21, 4, 96, 46, 164, 0, 32, 167, 0, 25, 42] := bts_of (by decide +kernel)
theorem bc_Mod_against_6 : bts prog_14_method_64_code 192 [180, 0, 182, 21, 6, 46, 42, 180, 0, 182, 16, 60, 27, 104, 21, 4, 96, 46, 162, 0, 7, 21, 5, 54, 4, 132, 5, 1, 167, 255, 42, 21] := bts_of (by decide +kernel)
theorem bc_Mod_against_7 : bts prog_14_method_64_code 224 [4, 172] := bts_of (by decide +kernel)
theorem hd_Mod_against : Y_Mod_against.1.cls = RX12 ∧ Y_Mod_against.1.cls ≠ "java/lang/invoke/MethodHandle" ∧ Y_Mod_against.1.cls ≠ "java/lang/invoke/VarHandle" ∧ (parseMethodDescriptor Y_Mod_against.1.desc).map (fun d => d.parameters.length) = some 3 := by decide +kernel
def Mod_against_J217 (k6 : Nat → Int32 → Int32 → Int32 → Int32 → Int32 → Mm → Option (Int32 × Mm)) (x0 : Nat) (x1 : Int32) (x2 : Int32) (x3 : Int32) (x4 : Int32) (x5 : Int32) (M : Mm) : Option (Int32 × Mm) :=
  let v5 : Int32 := x5 + 1
  k6 x0 x1 x2 x3 x4 v5 M
set_option maxRecDepth 100000 in
set_option maxHeartbeats 4000000 in
theorem e_Mod_against_J217 {G : Gx} (k6 : Nat → Int32 → Int32 → Int32 → Int32 → Int32 → Mm → Option (Int32 × Mm)) (hk6 : ∀ (x0 : Nat) (x1 : Int32) (x2 : Int32) (x3 : Int32) (x4 : Int32) (x5 : Int32) (M : Mm), EJ G Y_Mod_against cvI 1 6 [(0, .ref x0), (1, .int x1), (2, .int x2), (3, .int x3), (4, .int x4), (5, .int x5)] [] M (k6 x0 x1 x2 x3 x4 x5 M)) (x0 : Nat) (x1 : Int32) (x2 : Int32) (x3 : Int32) (x4 : Int32) (x5 : Int32) (M : Mm) : EJ G Y_Mod_against cvI 1 217 [(0, .ref x0), (1, .int x1), (2, .int x2), (3, .int x3), (4, .int x4), (5, .int x5)] [] M (Mod_against_J217 k6 x0 x1 x2 x3 x4 x5 M) := by
  unfold Mod_against_J217
  refine EJ_iinc 220 5 (lv2 := [(5, .int _), (0, .ref _), (1, .int _), (2, .int _), (3, .int _), (4, .int _)]) (dk_132 (bt bc_Mod_against_6 25 rfl) (bt bc_Mod_against_6 26 rfl) (bt bc_Mod_against_6 27 rfl) (n := 1) rfl) rfl (by decide) rfl (v := 1) kI_1 rfl ?_
  refine EJ_goto 6 (dk_167 (bt bc_Mod_against_6 28 rfl) (bt bc_Mod_against_6 29 rfl) (bt bc_Mod_against_6 30 rfl) (n := -214) rfl) (by decide) ?_
  exact EJ_pick (lv2 := [(0, .ref _), (1, .int _), (2, .int _), (3, .int _), (4, .int _), (5, .int _)]) [1, 2, 3, 4, 5, 0] rfl (hk6 _ _ _ _ _ _ _)
def Mod_against_J213 (k6 : Nat → Int32 → Int32 → Int32 → Int32 → Int32 → Mm → Option (Int32 × Mm)) (x0 : Nat) (x1 : Int32) (x2 : Int32) (x3 : Int32) (x5 : Int32) (M : Mm) : Option (Int32 × Mm) :=
  Mod_against_J217 k6 x0 x1 x2 x3 x5 x5 M
set_option maxRecDepth 100000 in
set_option maxHeartbeats 4000000 in
theorem e_Mod_against_J213 {G : Gx} (k6 : Nat → Int32 → Int32 → Int32 → Int32 → Int32 → Mm → Option (Int32 × Mm)) (hk6 : ∀ (x0 : Nat) (x1 : Int32) (x2 : Int32) (x3 : Int32) (x4 : Int32) (x5 : Int32) (M : Mm), EJ G Y_Mod_against cvI 1 6 [(0, .ref x0), (1, .int x1), (2, .int x2), (3, .int x3), (4, .int x4), (5, .int x5)] [] M (k6 x0 x1 x2 x3 x4 x5 M)) (x0 : Nat) (x1 : Int32) (x2 : Int32) (x3 : Int32) (x5 : Int32) (M : Mm) : EJ G Y_Mod_against cvI 1 213 [(0, .ref x0), (1, .int x1), (2, .int x2), (3, .int x3), (5, .int x5)] [] M (Mod_against_J213 k6 x0 x1 x2 x3 x5 M) := by
  unfold Mod_against_J213
  refine EJ_iload 215 4 (dk_21 (bt bc_Mod_against_6 21 rfl) (bt bc_Mod_against_6 22 rfl)) rfl rfl ?_
  refine EJ_istore 217 (lv2 := [(4, .int _), (0, .ref _), (1, .int _), (2, .int _), (3, .int _), (5, .int _)]) (dk_54 (bt bc_Mod_against_6 23 rfl) (bt bc_Mod_against_6 24 rfl)) rfl (by decide) rfl ?_
  exact EJ_pick (lv2 := [(0, .ref _), (1, .int _), (2, .int _), (3, .int _), (4, .int _), (5, .int _)]) [1, 2, 3, 4, 0, 5] rfl (e_Mod_against_J217 k6 hk6 _ _ _ _ _ _ _)
def Mod_against_J141 (k6 : Nat → Int32 → Int32 → Int32 → Int32 → Int32 → Mm → Option (Int32 × Mm)) (x0 : Nat) (x1 : Int32) (x2 : Int32) (x3 : Int32) (x4 : Int32) (x5 : Int32) (x6 : Int32) (s0 : Int32) (M : Mm) : Option (Int32 × Mm) :=
  if s0 = 0 then (
    Mod_against_J217 k6 x0 x1 x2 x3 x4 x5 M)
  else (
    if x4 < 0 then (
      Mod_against_J213 k6 x0 x1 x2 x3 x5 M)
    else (
      ck (kO M x0 12 107) (
      nn (mR M x0 88) (fun b21 =>
      ck (kA M b21 22 x6) (
      if (mI M b21 (ix x6)) = 0 then (
        nn (mR M x0 85) (fun b23 =>
        ck (kA M b23 20 x6) (
        nn (mR M x0 85) (fun b25 =>
        ck (kA M b25 20 ((60 * x1) + x4)) (
        if (mI M b25 (ix ((60 * x1) + x4))) ≤ (mI M b23 (ix x6)) then (
          Mod_against_J217 k6 x0 x1 x2 x3 x4 x5 M)
        else (
          Mod_against_J213 k6 x0 x1 x2 x3 x5 M))))))
      else (
        nn (mR M x0 85) (fun b27 =>
        ck (kA M b27 20 x6) (
        nn (mR M x0 85) (fun b29 =>
        ck (kA M b29 20 ((60 * x1) + x4)) (
        if (mI M b27 (ix x6)) ≤ (mI M b29 (ix ((60 * x1) + x4))) then (
          Mod_against_J217 k6 x0 x1 x2 x3 x4 x5 M)
        else (
          Mod_against_J213 k6 x0 x1 x2 x3 x5 M)))))))))))
set_option maxRecDepth 100000 in
set_option maxHeartbeats 4000000 in
theorem e_Mod_against_J141 {G : Gx} (k6 : Nat → Int32 → Int32 → Int32 → Int32 → Int32 → Mm → Option (Int32 × Mm)) (hk6 : ∀ (x0 : Nat) (x1 : Int32) (x2 : Int32) (x3 : Int32) (x4 : Int32) (x5 : Int32) (M : Mm), EJ G Y_Mod_against cvI 1 6 [(0, .ref x0), (1, .int x1), (2, .int x2), (3, .int x3), (4, .int x4), (5, .int x5)] [] M (k6 x0 x1 x2 x3 x4 x5 M)) (x0 : Nat) (x1 : Int32) (x2 : Int32) (x3 : Int32) (x4 : Int32) (x5 : Int32) (x6 : Int32) (s0 : Int32) (M : Mm) : EJ G Y_Mod_against cvI 1 141 [(0, .ref x0), (1, .int x1), (2, .int x2), (3, .int x3), (4, .int x4), (5, .int x5), (6, .int x6)] [.int s0] M (Mod_against_J141 k6 x0 x1 x2 x3 x4 x5 x6 s0 M) := by
  unfold Mod_against_J141
  refine EJ_istore 143 (lv2 := [(7, .int _), (0, .ref _), (1, .int _), (2, .int _), (3, .int _), (4, .int _), (5, .int _), (6, .int _)]) (dk_54 (bt bc_Mod_against_4 13 rfl) (bt bc_Mod_against_4 14 rfl)) rfl (by decide) rfl ?_
  refine EJ_iload 145 0 (dk_21 (bt bc_Mod_against_4 15 rfl) (bt bc_Mod_against_4 16 rfl)) rfl rfl ?_
  refine EJ_if_ne 151 148 (dk_154 (bt bc_Mod_against_4 17 rfl) (bt bc_Mod_against_4 18 rfl) (bt bc_Mod_against_4 19 rfl) (n := 6) rfl) (by decide) rfl (fun _ => ?_) (fun _ => ?_)
  · refine EJ_iload 153 5 (dk_21 (bt bc_Mod_against_4 23 rfl) (bt bc_Mod_against_4 24 rfl)) rfl rfl ?_
    refine EJ_if_lt 213 156 (dk_155 (bt bc_Mod_against_4 25 rfl) (bt bc_Mod_against_4 26 rfl) (bt bc_Mod_against_4 27 rfl) (n := 60) rfl) (by decide) rfl (fun _ => ?_) (fun _ => ?_)
    · exact EJ_pick (lv2 := [(0, .ref _), (1, .int _), (2, .int _), (3, .int _), (5, .int _)]) [1, 2, 3, 4, 6] rfl (e_Mod_against_J213 k6 hk6 _ _ _ _ _ _)
    · refine EJ_aload_n 157 1 (dk_42 (bt bc_Mod_against_4 28 rfl)) rfl rfl ?_
      refine EJ_ck (fun h20 => ?_)
      refine EJ_getR cf12 88 (by decide) 160 tw_1286 (fun _ _ _ => rfl) (dk_180 (bt bc_Mod_against_4 29 rfl) (bt bc_Mod_against_4 30 rfl) (bt bc_Mod_against_4 31 rfl) (n := 191) rfl) rfl (of_decide_eq_true h20) (fun b21 => ?_)
      refine EJ_iload 162 7 (dk_21 (bt bc_Mod_against_5 0 rfl) (bt bc_Mod_against_5 1 rfl)) rfl rfl ?_
      refine EJ_ck (fun h22 => ?_)
      refine EJ_zald 163 h22 (dk_51 (bt bc_Mod_against_5 2 rfl)) rfl ?_
      refine EJ_if_eq 191 166 (dk_153 (bt bc_Mod_against_5 3 rfl) (bt bc_Mod_against_5 4 rfl) (bt bc_Mod_against_5 5 rfl) (n := 28) rfl) (by decide) rfl (fun _ => ?_) (fun _ => ?_)
      · refine EJ_aload_n 192 1 (dk_42 (bt bc_Mod_against_5 31 rfl)) rfl rfl ?_
        refine EJ_getR cf12 85 (by decide) 195 tw_1283 (fun _ _ _ => rfl) (dk_180 (bt bc_Mod_against_6 0 rfl) (bt bc_Mod_against_6 1 rfl) (bt bc_Mod_against_6 2 rfl) (n := 182) rfl) rfl (of_decide_eq_true h20) (fun b23 => ?_)
        refine EJ_iload 197 7 (dk_21 (bt bc_Mod_against_6 3 rfl) (bt bc_Mod_against_6 4 rfl)) rfl rfl ?_
        refine EJ_ck (fun h24 => ?_)
        refine EJ_iald 198 h24 (dk_46 (bt bc_Mod_against_6 5 rfl)) rfl ?_
        refine EJ_aload_n 199 1 (dk_42 (bt bc_Mod_against_6 6 rfl)) rfl rfl ?_
        refine EJ_getR cf12 85 (by decide) 202 tw_1283 (fun _ _ _ => rfl) (dk_180 (bt bc_Mod_against_6 7 rfl) (bt bc_Mod_against_6 8 rfl) (bt bc_Mod_against_6 9 rfl) (n := 182) rfl) rfl (of_decide_eq_true h20) (fun b25 => ?_)
        refine EJ_bipush 204 (dk_16 (bt bc_Mod_against_6 10 rfl) (bt bc_Mod_against_6 11 rfl) (n := 60) rfl) rfl (v := 60) kB_60 ?_
        refine EJ_iload_n 205 2 (dk_27 (bt bc_Mod_against_6 12 rfl)) rfl rfl ?_
        refine EJ_imul 206 (dk_104 (bt bc_Mod_against_6 13 rfl)) rfl ?_
        refine EJ_iload 208 5 (dk_21 (bt bc_Mod_against_6 14 rfl) (bt bc_Mod_against_6 15 rfl)) rfl rfl ?_
        refine EJ_iadd 209 (dk_96 (bt bc_Mod_against_6 16 rfl)) rfl ?_
        refine EJ_ck (fun h26 => ?_)
        refine EJ_iald 210 h26 (dk_46 (bt bc_Mod_against_6 17 rfl)) rfl ?_
        refine EJ_icmp_ge 217 213 (dk_162 (bt bc_Mod_against_6 18 rfl) (bt bc_Mod_against_6 19 rfl) (bt bc_Mod_against_6 20 rfl) (n := 7) rfl) (by decide) rfl (fun _ => ?_) (fun _ => ?_)
        · exact EJ_pick (lv2 := [(0, .ref _), (1, .int _), (2, .int _), (3, .int _), (4, .int _), (5, .int _)]) [1, 2, 3, 4, 5, 6] rfl (e_Mod_against_J217 k6 hk6 _ _ _ _ _ _ _)
        · exact EJ_pick (lv2 := [(0, .ref _), (1, .int _), (2, .int _), (3, .int _), (5, .int _)]) [1, 2, 3, 4, 6] rfl (e_Mod_against_J213 k6 hk6 _ _ _ _ _ _)
      · refine EJ_aload_n 167 1 (dk_42 (bt bc_Mod_against_5 6 rfl)) rfl rfl ?_
        refine EJ_getR cf12 85 (by decide) 170 tw_1283 (fun _ _ _ => rfl) (dk_180 (bt bc_Mod_against_5 7 rfl) (bt bc_Mod_against_5 8 rfl) (bt bc_Mod_against_5 9 rfl) (n := 182) rfl) rfl (of_decide_eq_true h20) (fun b27 => ?_)
        refine EJ_iload 172 7 (dk_21 (bt bc_Mod_against_5 10 rfl) (bt bc_Mod_against_5 11 rfl)) rfl rfl ?_
        refine EJ_ck (fun h28 => ?_)
        refine EJ_iald 173 h28 (dk_46 (bt bc_Mod_against_5 12 rfl)) rfl ?_
        refine EJ_aload_n 174 1 (dk_42 (bt bc_Mod_against_5 13 rfl)) rfl rfl ?_
        refine EJ_getR cf12 85 (by decide) 177 tw_1283 (fun _ _ _ => rfl) (dk_180 (bt bc_Mod_against_5 14 rfl) (bt bc_Mod_against_5 15 rfl) (bt bc_Mod_against_5 16 rfl) (n := 182) rfl) rfl (of_decide_eq_true h20) (fun b29 => ?_)
        refine EJ_bipush 179 (dk_16 (bt bc_Mod_against_5 17 rfl) (bt bc_Mod_against_5 18 rfl) (n := 60) rfl) rfl (v := 60) kB_60 ?_
        refine EJ_iload_n 180 2 (dk_27 (bt bc_Mod_against_5 19 rfl)) rfl rfl ?_
        refine EJ_imul 181 (dk_104 (bt bc_Mod_against_5 20 rfl)) rfl ?_
        refine EJ_iload 183 5 (dk_21 (bt bc_Mod_against_5 21 rfl) (bt bc_Mod_against_5 22 rfl)) rfl rfl ?_
        refine EJ_iadd 184 (dk_96 (bt bc_Mod_against_5 23 rfl)) rfl ?_
        refine EJ_ck (fun h30 => ?_)
        refine EJ_iald 185 h30 (dk_46 (bt bc_Mod_against_5 24 rfl)) rfl ?_
        refine EJ_icmp_le 217 188 (dk_164 (bt bc_Mod_against_5 25 rfl) (bt bc_Mod_against_5 26 rfl) (bt bc_Mod_against_5 27 rfl) (n := 32) rfl) (by decide) rfl (fun _ => ?_) (fun _ => ?_)
        · exact EJ_pick (lv2 := [(0, .ref _), (1, .int _), (2, .int _), (3, .int _), (4, .int _), (5, .int _)]) [1, 2, 3, 4, 5, 6] rfl (e_Mod_against_J217 k6 hk6 _ _ _ _ _ _ _)
        · refine EJ_goto 213 (dk_167 (bt bc_Mod_against_5 28 rfl) (bt bc_Mod_against_5 29 rfl) (bt bc_Mod_against_5 30 rfl) (n := 25) rfl) (by decide) ?_
          exact EJ_pick (lv2 := [(0, .ref _), (1, .int _), (2, .int _), (3, .int _), (5, .int _)]) [1, 2, 3, 4, 6] rfl (e_Mod_against_J213 k6 hk6 _ _ _ _ _ _)
  · refine EJ_goto 217 (dk_167 (bt bc_Mod_against_4 20 rfl) (bt bc_Mod_against_4 21 rfl) (bt bc_Mod_against_4 22 rfl) (n := 69) rfl) (by decide) ?_
    exact EJ_pick (lv2 := [(0, .ref _), (1, .int _), (2, .int _), (3, .int _), (4, .int _), (5, .int _)]) [1, 2, 3, 4, 5, 6] rfl (e_Mod_against_J217 k6 hk6 _ _ _ _ _ _ _)
def Mod_against_B6 (k6 : Nat → Int32 → Int32 → Int32 → Int32 → Int32 → Mm → Option (Int32 × Mm)) (x0 : Nat) (x1 : Int32) (x2 : Int32) (x3 : Int32) (x4 : Int32) (x5 : Int32) (M : Mm) : Option (Int32 × Mm) :=
  if x3 ≤ x5 then (
    some (x4, M))
  else (
    let v1 : Int32 := (60 * x1) + x5
    ck (kO M x0 12 107) (
    nn (mR M x0 100) (fun b3 =>
    ck (kA M b3 20 x5) (
    if (mI M b3 (ix x5)) = 0 then (
      Mod_against_J217 k6 x0 x1 x2 x3 x4 x5 M)
    else (
      nn (mR M x0 88) (fun b6 =>
      ck (kA M b6 22 v1) (
      nn (mR M x0 88) (fun b8 =>
      ck (kA M b8 22 ((60 * x1) + x2)) (
      if (mI M b6 (ix v1)) = (mI M b8 (ix ((60 * x1) + x2))) then (
        Mod_against_J217 k6 x0 x1 x2 x3 x4 x5 M)
      else (
        nn (mR M x0 83) (fun b10 =>
        ck (kA M b10 20 v1) (
        nn (mR M x0 83) (fun b12 =>
        ck (kA M b12 20 ((60 * x1) + x2)) (
        if (mI M b10 (ix v1)) = (mI M b12 (ix ((60 * x1) + x2))) then (
          Mod_against_J217 k6 x0 x1 x2 x3 x4 x5 M)
        else (
          nn (mR M x0 88) (fun b14 =>
          ck (kA M b14 22 v1) (
          if (mI M b14 (ix v1)) = 0 then (
            nn (mR M x0 85) (fun b16 =>
            ck (kA M b16 20 v1) (
            nn (mR M x0 85) (fun b18 =>
            ck (kA M b18 20 ((60 * x1) + x2)) (
            if (mI M b18 (ix ((60 * x1) + x2))) < (mI M b16 (ix v1)) then (
              Mod_against_J141 k6 x0 x1 x2 x3 x4 x5 v1 0 M)
            else (
              Mod_against_J141 k6 x0 x1 x2 x3 x4 x5 v1 1 M))))))
          else (
            nn (mR M x0 85) (fun b31 =>
            ck (kA M b31 20 v1) (
            nn (mR M x0 85) (fun b33 =>
            ck (kA M b33 20 ((60 * x1) + x2)) (
            if (mI M b31 (ix v1)) < (mI M b33 (ix ((60 * x1) + x2))) then (
              Mod_against_J141 k6 x0 x1 x2 x3 x4 x5 v1 0 M)
            else (
              Mod_against_J141 k6 x0 x1 x2 x3 x4 x5 v1 1 M)))))))))))))))))))))))
set_option maxRecDepth 100000 in
set_option maxHeartbeats 4000000 in
theorem e_Mod_against_B6 {G : Gx} (k6 : Nat → Int32 → Int32 → Int32 → Int32 → Int32 → Mm → Option (Int32 × Mm)) (hk6 : ∀ (x0 : Nat) (x1 : Int32) (x2 : Int32) (x3 : Int32) (x4 : Int32) (x5 : Int32) (M : Mm), EJ G Y_Mod_against cvI 1 6 [(0, .ref x0), (1, .int x1), (2, .int x2), (3, .int x3), (4, .int x4), (5, .int x5)] [] M (k6 x0 x1 x2 x3 x4 x5 M)) (x0 : Nat) (x1 : Int32) (x2 : Int32) (x3 : Int32) (x4 : Int32) (x5 : Int32) (M : Mm) : EJ G Y_Mod_against cvI 1 6 [(0, .ref x0), (1, .int x1), (2, .int x2), (3, .int x3), (4, .int x4), (5, .int x5)] [] M (Mod_against_B6 k6 x0 x1 x2 x3 x4 x5 M) := by
  unfold Mod_against_B6
  refine EJ_iload 8 5 (dk_21 (bt bc_Mod_against_0 6 rfl) (bt bc_Mod_against_0 7 rfl)) rfl rfl ?_
  refine EJ_iload_n 9 3 (dk_29 (bt bc_Mod_against_0 8 rfl)) rfl rfl ?_
  refine EJ_icmp_ge 223 12 (dk_162 (bt bc_Mod_against_0 9 rfl) (bt bc_Mod_against_0 10 rfl) (bt bc_Mod_against_0 11 rfl) (n := 214) rfl) (by decide) rfl (fun _ => ?_) (fun _ => ?_)
  · refine EJ_iload 225 4 (dk_21 (bt bc_Mod_against_6 31 rfl) (bt bc_Mod_against_7 0 rfl)) rfl rfl ?_
    exact EJ_iret rfl (dk_172 (bt bc_Mod_against_7 1 rfl))
  · refine EJ_bipush 14 (dk_16 (bt bc_Mod_against_0 12 rfl) (bt bc_Mod_against_0 13 rfl) (n := 60) rfl) rfl (v := 60) kB_60 ?_
    refine EJ_iload_n 15 1 (dk_27 (bt bc_Mod_against_0 14 rfl)) rfl rfl ?_
    refine EJ_imul 16 (dk_104 (bt bc_Mod_against_0 15 rfl)) rfl ?_
    refine EJ_iload 18 5 (dk_21 (bt bc_Mod_against_0 16 rfl) (bt bc_Mod_against_0 17 rfl)) rfl rfl ?_
    refine EJ_iadd 19 (dk_96 (bt bc_Mod_against_0 18 rfl)) rfl ?_
    refine EJ_istore 21 (lv2 := [(6, .int _), (0, .ref _), (1, .int _), (2, .int _), (3, .int _), (4, .int _), (5, .int _)]) (dk_54 (bt bc_Mod_against_0 19 rfl) (bt bc_Mod_against_0 20 rfl)) rfl (by decide) rfl ?_
    refine EJ_aload_n 22 1 (dk_42 (bt bc_Mod_against_0 21 rfl)) rfl rfl ?_
    refine EJ_ck (fun h2 => ?_)
    refine EJ_getR cf12 100 (by decide) 25 tw_1298 (fun _ _ _ => rfl) (dk_180 (bt bc_Mod_against_0 22 rfl) (bt bc_Mod_against_0 23 rfl) (bt bc_Mod_against_0 24 rfl) (n := 227) rfl) rfl (of_decide_eq_true h2) (fun b3 => ?_)
    refine EJ_iload 27 6 (dk_21 (bt bc_Mod_against_0 25 rfl) (bt bc_Mod_against_0 26 rfl)) rfl rfl ?_
    refine EJ_ck (fun h4 => ?_)
    refine EJ_iald 28 h4 (dk_46 (bt bc_Mod_against_0 27 rfl)) rfl ?_
    refine EJ_if_eq 217 31 (dk_153 (bt bc_Mod_against_0 28 rfl) (bt bc_Mod_against_0 29 rfl) (bt bc_Mod_against_0 30 rfl) (n := 189) rfl) (by decide) rfl (fun _ => ?_) (fun _ => ?_)
    · exact EJ_pick (lv2 := [(0, .ref _), (1, .int _), (2, .int _), (3, .int _), (4, .int _), (5, .int _)]) [1, 2, 3, 4, 5, 6] rfl (e_Mod_against_J217 k6 hk6 _ _ _ _ _ _ _)
    · refine EJ_aload_n 32 1 (dk_42 (bt bc_Mod_against_0 31 rfl)) rfl rfl ?_
      refine EJ_getR cf12 88 (by decide) 35 tw_1286 (fun _ _ _ => rfl) (dk_180 (bt bc_Mod_against_1 0 rfl) (bt bc_Mod_against_1 1 rfl) (bt bc_Mod_against_1 2 rfl) (n := 191) rfl) rfl (of_decide_eq_true h2) (fun b6 => ?_)
      refine EJ_iload 37 0 (dk_21 (bt bc_Mod_against_1 3 rfl) (bt bc_Mod_against_1 4 rfl)) rfl rfl ?_
      refine EJ_ck (fun h7 => ?_)
      refine EJ_zald 38 h7 (dk_51 (bt bc_Mod_against_1 5 rfl)) rfl ?_
      refine EJ_aload_n 39 1 (dk_42 (bt bc_Mod_against_1 6 rfl)) rfl rfl ?_
      refine EJ_getR cf12 88 (by decide) 42 tw_1286 (fun _ _ _ => rfl) (dk_180 (bt bc_Mod_against_1 7 rfl) (bt bc_Mod_against_1 8 rfl) (bt bc_Mod_against_1 9 rfl) (n := 191) rfl) rfl (of_decide_eq_true h2) (fun b8 => ?_)
      refine EJ_bipush 44 (dk_16 (bt bc_Mod_against_1 10 rfl) (bt bc_Mod_against_1 11 rfl) (n := 60) rfl) rfl (v := 60) kB_60 ?_
      refine EJ_iload_n 45 2 (dk_27 (bt bc_Mod_against_1 12 rfl)) rfl rfl ?_
      refine EJ_imul 46 (dk_104 (bt bc_Mod_against_1 13 rfl)) rfl ?_
      refine EJ_iload_n 47 3 (dk_28 (bt bc_Mod_against_1 14 rfl)) rfl rfl ?_
      refine EJ_iadd 48 (dk_96 (bt bc_Mod_against_1 15 rfl)) rfl ?_
      refine EJ_ck (fun h9 => ?_)
      refine EJ_zald 49 h9 (dk_51 (bt bc_Mod_against_1 16 rfl)) rfl ?_
      refine EJ_icmp_eq 217 52 (dk_159 (bt bc_Mod_against_1 17 rfl) (bt bc_Mod_against_1 18 rfl) (bt bc_Mod_against_1 19 rfl) (n := 168) rfl) (by decide) rfl (fun _ => ?_) (fun _ => ?_)
      · exact EJ_pick (lv2 := [(0, .ref _), (1, .int _), (2, .int _), (3, .int _), (4, .int _), (5, .int _)]) [1, 2, 3, 4, 5, 6] rfl (e_Mod_against_J217 k6 hk6 _ _ _ _ _ _ _)
      · refine EJ_aload_n 53 1 (dk_42 (bt bc_Mod_against_1 20 rfl)) rfl rfl ?_
        refine EJ_getR cf12 83 (by decide) 56 tw_1281 (fun _ _ _ => rfl) (dk_180 (bt bc_Mod_against_1 21 rfl) (bt bc_Mod_against_1 22 rfl) (bt bc_Mod_against_1 23 rfl) (n := 176) rfl) rfl (of_decide_eq_true h2) (fun b10 => ?_)
        refine EJ_iload 58 0 (dk_21 (bt bc_Mod_against_1 24 rfl) (bt bc_Mod_against_1 25 rfl)) rfl rfl ?_
        refine EJ_ck (fun h11 => ?_)
        refine EJ_iald 59 h11 (dk_46 (bt bc_Mod_against_1 26 rfl)) rfl ?_
        refine EJ_aload_n 60 1 (dk_42 (bt bc_Mod_against_1 27 rfl)) rfl rfl ?_
        refine EJ_getR cf12 83 (by decide) 63 tw_1281 (fun _ _ _ => rfl) (dk_180 (bt bc_Mod_against_1 28 rfl) (bt bc_Mod_against_1 29 rfl) (bt bc_Mod_against_1 30 rfl) (n := 176) rfl) rfl (of_decide_eq_true h2) (fun b12 => ?_)
        refine EJ_bipush 65 (dk_16 (bt bc_Mod_against_1 31 rfl) (bt bc_Mod_against_2 0 rfl) (n := 60) rfl) rfl (v := 60) kB_60 ?_
        refine EJ_iload_n 66 2 (dk_27 (bt bc_Mod_against_2 1 rfl)) rfl rfl ?_
        refine EJ_imul 67 (dk_104 (bt bc_Mod_against_2 2 rfl)) rfl ?_
        refine EJ_iload_n 68 3 (dk_28 (bt bc_Mod_against_2 3 rfl)) rfl rfl ?_
        refine EJ_iadd 69 (dk_96 (bt bc_Mod_against_2 4 rfl)) rfl ?_
        refine EJ_ck (fun h13 => ?_)
        refine EJ_iald 70 h13 (dk_46 (bt bc_Mod_against_2 5 rfl)) rfl ?_
        refine EJ_icmp_ne 76 73 (dk_160 (bt bc_Mod_against_2 6 rfl) (bt bc_Mod_against_2 7 rfl) (bt bc_Mod_against_2 8 rfl) (n := 6) rfl) (by decide) rfl (fun _ => ?_) (fun _ => ?_)
        · refine EJ_aload_n 77 1 (dk_42 (bt bc_Mod_against_2 12 rfl)) rfl rfl ?_
          refine EJ_getR cf12 88 (by decide) 80 tw_1286 (fun _ _ _ => rfl) (dk_180 (bt bc_Mod_against_2 13 rfl) (bt bc_Mod_against_2 14 rfl) (bt bc_Mod_against_2 15 rfl) (n := 191) rfl) rfl (of_decide_eq_true h2) (fun b14 => ?_)
          refine EJ_iload 82 0 (dk_21 (bt bc_Mod_against_2 16 rfl) (bt bc_Mod_against_2 17 rfl)) rfl rfl ?_
          refine EJ_ck (fun h15 => ?_)
          refine EJ_zald 83 h15 (dk_51 (bt bc_Mod_against_2 18 rfl)) rfl ?_
          refine EJ_if_eq 115 86 (dk_153 (bt bc_Mod_against_2 19 rfl) (bt bc_Mod_against_2 20 rfl) (bt bc_Mod_against_2 21 rfl) (n := 32) rfl) (by decide) rfl (fun _ => ?_) (fun _ => ?_)
          · refine EJ_aload_n 116 1 (dk_42 (bt bc_Mod_against_3 19 rfl)) rfl rfl ?_
            refine EJ_getR cf12 85 (by decide) 119 tw_1283 (fun _ _ _ => rfl) (dk_180 (bt bc_Mod_against_3 20 rfl) (bt bc_Mod_against_3 21 rfl) (bt bc_Mod_against_3 22 rfl) (n := 182) rfl) rfl (of_decide_eq_true h2) (fun b16 => ?_)
            refine EJ_iload 121 0 (dk_21 (bt bc_Mod_against_3 23 rfl) (bt bc_Mod_against_3 24 rfl)) rfl rfl ?_
            refine EJ_ck (fun h17 => ?_)
            refine EJ_iald 122 h17 (dk_46 (bt bc_Mod_against_3 25 rfl)) rfl ?_
            refine EJ_aload_n 123 1 (dk_42 (bt bc_Mod_against_3 26 rfl)) rfl rfl ?_
            refine EJ_getR cf12 85 (by decide) 126 tw_1283 (fun _ _ _ => rfl) (dk_180 (bt bc_Mod_against_3 27 rfl) (bt bc_Mod_against_3 28 rfl) (bt bc_Mod_against_3 29 rfl) (n := 182) rfl) rfl (of_decide_eq_true h2) (fun b18 => ?_)
            refine EJ_bipush 128 (dk_16 (bt bc_Mod_against_3 30 rfl) (bt bc_Mod_against_3 31 rfl) (n := 60) rfl) rfl (v := 60) kB_60 ?_
            refine EJ_iload_n 129 2 (dk_27 (bt bc_Mod_against_4 0 rfl)) rfl rfl ?_
            refine EJ_imul 130 (dk_104 (bt bc_Mod_against_4 1 rfl)) rfl ?_
            refine EJ_iload_n 131 3 (dk_28 (bt bc_Mod_against_4 2 rfl)) rfl rfl ?_
            refine EJ_iadd 132 (dk_96 (bt bc_Mod_against_4 3 rfl)) rfl ?_
            refine EJ_ck (fun h19 => ?_)
            refine EJ_iald 133 h19 (dk_46 (bt bc_Mod_against_4 4 rfl)) rfl ?_
            refine EJ_icmp_gt 140 136 (dk_163 (bt bc_Mod_against_4 5 rfl) (bt bc_Mod_against_4 6 rfl) (bt bc_Mod_against_4 7 rfl) (n := 7) rfl) (by decide) rfl (fun _ => ?_) (fun _ => ?_)
            · refine EJ_iconst 141 (dk_3 (bt bc_Mod_against_4 12 rfl)) rfl (v := 0) kI_0 ?_
              exact EJ_pick (lv2 := [(0, .ref _), (1, .int _), (2, .int _), (3, .int _), (4, .int _), (5, .int _), (6, .int _)]) [1, 2, 3, 4, 5, 6, 0] rfl (e_Mod_against_J141 k6 hk6 _ _ _ _ _ _ _ _ _)
            · refine EJ_iconst 137 (dk_4 (bt bc_Mod_against_4 8 rfl)) rfl (v := 1) kI_1 ?_
              refine EJ_goto 141 (dk_167 (bt bc_Mod_against_4 9 rfl) (bt bc_Mod_against_4 10 rfl) (bt bc_Mod_against_4 11 rfl) (n := 4) rfl) (by decide) ?_
              exact EJ_pick (lv2 := [(0, .ref _), (1, .int _), (2, .int _), (3, .int _), (4, .int _), (5, .int _), (6, .int _)]) [1, 2, 3, 4, 5, 6, 0] rfl (e_Mod_against_J141 k6 hk6 _ _ _ _ _ _ _ _ _)
          · refine EJ_aload_n 87 1 (dk_42 (bt bc_Mod_against_2 22 rfl)) rfl rfl ?_
            refine EJ_getR cf12 85 (by decide) 90 tw_1283 (fun _ _ _ => rfl) (dk_180 (bt bc_Mod_against_2 23 rfl) (bt bc_Mod_against_2 24 rfl) (bt bc_Mod_against_2 25 rfl) (n := 182) rfl) rfl (of_decide_eq_true h2) (fun b31 => ?_)
            refine EJ_iload 92 0 (dk_21 (bt bc_Mod_against_2 26 rfl) (bt bc_Mod_against_2 27 rfl)) rfl rfl ?_
            refine EJ_ck (fun h32 => ?_)
            refine EJ_iald 93 h32 (dk_46 (bt bc_Mod_against_2 28 rfl)) rfl ?_
            refine EJ_aload_n 94 1 (dk_42 (bt bc_Mod_against_2 29 rfl)) rfl rfl ?_
            refine EJ_getR cf12 85 (by decide) 97 tw_1283 (fun _ _ _ => rfl) (dk_180 (bt bc_Mod_against_2 30 rfl) (bt bc_Mod_against_2 31 rfl) (bt bc_Mod_against_3 0 rfl) (n := 182) rfl) rfl (of_decide_eq_true h2) (fun b33 => ?_)
            refine EJ_bipush 99 (dk_16 (bt bc_Mod_against_3 1 rfl) (bt bc_Mod_against_3 2 rfl) (n := 60) rfl) rfl (v := 60) kB_60 ?_
            refine EJ_iload_n 100 2 (dk_27 (bt bc_Mod_against_3 3 rfl)) rfl rfl ?_
            refine EJ_imul 101 (dk_104 (bt bc_Mod_against_3 4 rfl)) rfl ?_
            refine EJ_iload_n 102 3 (dk_28 (bt bc_Mod_against_3 5 rfl)) rfl rfl ?_
            refine EJ_iadd 103 (dk_96 (bt bc_Mod_against_3 6 rfl)) rfl ?_
            refine EJ_ck (fun h34 => ?_)
            refine EJ_iald 104 h34 (dk_46 (bt bc_Mod_against_3 7 rfl)) rfl ?_
            refine EJ_icmp_lt 111 107 (dk_161 (bt bc_Mod_against_3 8 rfl) (bt bc_Mod_against_3 9 rfl) (bt bc_Mod_against_3 10 rfl) (n := 7) rfl) (by decide) rfl (fun _ => ?_) (fun _ => ?_)
            · refine EJ_iconst 112 (dk_3 (bt bc_Mod_against_3 15 rfl)) rfl (v := 0) kI_0 ?_
              refine EJ_goto 141 (dk_167 (bt bc_Mod_against_3 16 rfl) (bt bc_Mod_against_3 17 rfl) (bt bc_Mod_against_3 18 rfl) (n := 29) rfl) (by decide) ?_
              exact EJ_pick (lv2 := [(0, .ref _), (1, .int _), (2, .int _), (3, .int _), (4, .int _), (5, .int _), (6, .int _)]) [1, 2, 3, 4, 5, 6, 0] rfl (e_Mod_against_J141 k6 hk6 _ _ _ _ _ _ _ _ _)
            · refine EJ_iconst 108 (dk_4 (bt bc_Mod_against_3 11 rfl)) rfl (v := 1) kI_1 ?_
              refine EJ_goto 141 (dk_167 (bt bc_Mod_against_3 12 rfl) (bt bc_Mod_against_3 13 rfl) (bt bc_Mod_against_3 14 rfl) (n := 33) rfl) (by decide) ?_
              exact EJ_pick (lv2 := [(0, .ref _), (1, .int _), (2, .int _), (3, .int _), (4, .int _), (5, .int _), (6, .int _)]) [1, 2, 3, 4, 5, 6, 0] rfl (e_Mod_against_J141 k6 hk6 _ _ _ _ _ _ _ _ _)
        · refine EJ_goto 217 (dk_167 (bt bc_Mod_against_2 9 rfl) (bt bc_Mod_against_2 10 rfl) (bt bc_Mod_against_2 11 rfl) (n := 144) rfl) (by decide) ?_
          exact EJ_pick (lv2 := [(0, .ref _), (1, .int _), (2, .int _), (3, .int _), (4, .int _), (5, .int _)]) [1, 2, 3, 4, 5, 6] rfl (e_Mod_against_J217 k6 hk6 _ _ _ _ _ _ _)
def Mod_against_L6 (n : Nat) : Nat → Int32 → Int32 → Int32 → Int32 → Int32 → Mm → Option (Int32 × Mm) :=
  match n with
  | 0 => fun _ _ _ _ _ _ _ => none
  | n + 1 => Mod_against_B6 (Mod_against_L6 n)
theorem e_Mod_against_L6 {G : Gx} : ∀ (n : Nat) (x0 : Nat) (x1 : Int32) (x2 : Int32) (x3 : Int32) (x4 : Int32) (x5 : Int32) (M : Mm), EJ G Y_Mod_against cvI 1 6 [(0, .ref x0), (1, .int x1), (2, .int x2), (3, .int x3), (4, .int x4), (5, .int x5)] [] M (Mod_against_L6 n x0 x1 x2 x3 x4 x5 M) := by
  intro n
  induction n with
  | zero => intros; exact EJ_none
  | succ n ih => intro x0 x1 x2 x3 x4 x5 M; exact e_Mod_against_B6 _ ih x0 x1 x2 x3 x4 x5 M
def Mod_against (M : Mm) (a0 : Nat) (a1 : Int32) (a2 : Int32) (a3 : Int32) : Option (Int32 × Mm) :=
  Mod_against_L6 fu a0 a1 a2 a3 (-1) 0 M
set_option maxRecDepth 100000 in
set_option maxHeartbeats 4000000 in
theorem s_Mod_against (G : Gx) (M : Mm) (a0 : Nat) (a1 : Int32) (a2 : Int32) (a3 : Int32) : FnS G Y_Mod_against cvI 1 [.ref a0, .int a1, .int a2, .int a3] M (Mod_against M a0 a1 a2 a3) := by
  refine FnS.ofE (by decide) (Nat.le_of_ble_eq_true rfl) ?_
  show EJ G Y_Mod_against cvI 1 0 [(0, .ref a0), (1, .int a1), (2, .int a2), (3, .int a3)] [] M _
  unfold Mod_against
  refine EJ_iconst 1 (dk_2 (bt bc_Mod_against_0 0 rfl)) rfl (v := (-1)) kI_m1 ?_
  refine EJ_istore 3 (lv2 := [(4, .int _), (0, .ref _), (1, .int _), (2, .int _), (3, .int _)]) (dk_54 (bt bc_Mod_against_0 1 rfl) (bt bc_Mod_against_0 2 rfl)) rfl (by decide) rfl ?_
  refine EJ_iconst 4 (dk_3 (bt bc_Mod_against_0 3 rfl)) rfl (v := 0) kI_0 ?_
  refine EJ_istore 6 (lv2 := [(5, .int _), (4, .int _), (0, .ref _), (1, .int _), (2, .int _), (3, .int _)]) (dk_54 (bt bc_Mod_against_0 4 rfl) (bt bc_Mod_against_0 5 rfl)) rfl (by decide) rfl ?_
  exact EJ_pick (lv2 := [(0, .ref _), (1, .int _), (2, .int _), (3, .int _), (4, .int _), (5, .int _)]) [2, 3, 4, 5, 1, 0] rfl (e_Mod_against_L6 fu _ _ _ _ _ _ _)
