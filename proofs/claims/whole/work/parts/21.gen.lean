abbrev Y_Mod_spreads : Ym := (⟨"RiceHallModel", "spreads", "(II)V"⟩, prog_14_method_13_code, 7, none)
theorem bc_Mod_spreads_0 : bts prog_14_method_13_code 0 [3, 62, 29, 16, 10, 162, 0, 23, 42, 180, 0, 26, 29, 2, 79, 42, 180, 0, 29, 29, 3, 84, 132, 3, 1, 167, 255, 233, 42, 180, 0, 26] := bts_of (by decide +kernel)
theorem bc_Mod_spreads_1 : bts prog_14_method_13_code 32 [27, 28, 79, 3, 62, 29, 42, 180, 0, 7, 162, 0, 185, 2, 54, 4, 3, 54, 5, 21, 5, 42, 180, 0, 7, 162, 0, 55, 42, 180, 0, 29] := bts_of (by decide +kernel)
theorem bc_Mod_spreads_2 : bts prog_14_method_13_code 64 [21, 5, 51, 154, 0, 39, 42, 180, 0, 26, 21, 5, 46, 155, 0, 29, 21, 4, 155, 0, 20, 42, 180, 0, 26, 21, 5, 46, 42, 180, 0, 26] := bts_of (by decide +kernel)
theorem bc_Mod_spreads_3 : bts prog_14_method_13_code 96 [21, 4, 46, 162, 0, 7, 21, 5, 54, 4, 132, 5, 1, 167, 255, 198, 21, 4, 156, 0, 4, 177, 42, 180, 0, 29, 21, 4, 4, 84, 3, 54] := bts_of (by decide +kernel)
theorem bc_Mod_spreads_4 : bts prog_14_method_13_code 128 [5, 21, 5, 42, 180, 0, 7, 162, 0, 86, 42, 180, 0, 23, 16, 10, 21, 4, 104, 21, 5, 96, 46, 153, 0, 64, 42, 180, 0, 29, 21, 5] := bts_of (by decide +kernel)
theorem bc_Mod_spreads_5 : bts prog_14_method_13_code 160 [51, 153, 0, 6, 167, 0, 51, 42, 21, 4, 21, 5, 42, 180, 0, 26, 21, 4, 46, 182, 1, 4, 54, 6, 42, 180, 0, 26, 21, 5, 46, 155] := bts_of (by decide +kernel)
theorem bc_Mod_spreads_6 : bts prog_14_method_13_code 192 [0, 15, 21, 6, 42, 180, 0, 26, 21, 5, 46, 162, 0, 12, 42, 180, 0, 26, 21, 5, 21, 6, 79, 132, 5, 1, 167, 255, 167, 132, 3, 1] := bts_of (by decide +kernel)
theorem bc_Mod_spreads_7 : bts prog_14_method_13_code 224 [167, 255, 69, 177] := bts_of (by decide +kernel)
theorem hd_Mod_spreads : Y_Mod_spreads.1.cls = RX12 ∧ Y_Mod_spreads.1.cls ≠ "java/lang/invoke/MethodHandle" ∧ Y_Mod_spreads.1.cls ≠ "java/lang/invoke/VarHandle" ∧ (parseMethodDescriptor Y_Mod_spreads.1.desc).map (fun d => d.parameters.length) = some 2 := by decide +kernel
def Mod_spreads_J215 (k37 : Nat → Int32 → Mm → Option (Unit × Mm)) (k129 : Nat → Int32 → Int32 → Int32 → Mm → Option (Unit × Mm)) (x0 : Nat) (x3 : Int32) (x4 : Int32) (x5 : Int32) (M : Mm) : Option (Unit × Mm) :=
  let v14 : Int32 := x5 + 1
  k129 x0 x3 x4 v14 M
set_option maxRecDepth 100000 in
set_option maxHeartbeats 4000000 in
theorem e_Mod_spreads_J215 {G : Gx} (k37 : Nat → Int32 → Mm → Option (Unit × Mm)) (k129 : Nat → Int32 → Int32 → Int32 → Mm → Option (Unit × Mm)) (hk37 : ∀ (x0 : Nat) (x3 : Int32) (M : Mm), EJ G Y_Mod_spreads cvV 3 37 [(0, .ref x0), (3, .int x3)] [] M (k37 x0 x3 M)) (hk129 : ∀ (x0 : Nat) (x3 : Int32) (x4 : Int32) (x5 : Int32) (M : Mm), EJ G Y_Mod_spreads cvV 3 129 [(0, .ref x0), (3, .int x3), (4, .int x4), (5, .int x5)] [] M (k129 x0 x3 x4 x5 M)) (x0 : Nat) (x3 : Int32) (x4 : Int32) (x5 : Int32) (M : Mm) : EJ G Y_Mod_spreads cvV 3 215 [(0, .ref x0), (3, .int x3), (4, .int x4), (5, .int x5)] [] M (Mod_spreads_J215 k37 k129 x0 x3 x4 x5 M) := by
  unfold Mod_spreads_J215
  refine EJ_iinc 218 3 (lv2 := [(5, .int _), (0, .ref _), (3, .int _), (4, .int _)]) (dk_132 (bt bc_Mod_spreads_6 23 rfl) (bt bc_Mod_spreads_6 24 rfl) (bt bc_Mod_spreads_6 25 rfl) (n := 1) rfl) rfl (by decide) rfl (v := 1) kI_1 rfl ?_
  refine EJ_goto 129 (dk_167 (bt bc_Mod_spreads_6 26 rfl) (bt bc_Mod_spreads_6 27 rfl) (bt bc_Mod_spreads_6 28 rfl) (n := -89) rfl) (by decide) ?_
  exact EJ_pick (lv2 := [(0, .ref _), (3, .int _), (4, .int _), (5, .int _)]) [1, 2, 3, 0] rfl (hk129 _ _ _ _ _)
def Mod_spreads_J206 (k37 : Nat → Int32 → Mm → Option (Unit × Mm)) (k129 : Nat → Int32 → Int32 → Int32 → Mm → Option (Unit × Mm)) (x0 : Nat) (x3 : Int32) (x4 : Int32) (x5 : Int32) (x6 : Int32) (M : Mm) : Option (Unit × Mm) :=
  ck (kO M x0 12 107) (
  nn (mR M x0 7) (fun b25 =>
  ck (kA M b25 20 x5) (
  let M27 := sI M b25 (ix x5) x6
  Mod_spreads_J215 k37 k129 x0 x3 x4 x5 M27)))
set_option maxRecDepth 100000 in
set_option maxHeartbeats 4000000 in
theorem e_Mod_spreads_J206 {G : Gx} (k37 : Nat → Int32 → Mm → Option (Unit × Mm)) (k129 : Nat → Int32 → Int32 → Int32 → Mm → Option (Unit × Mm)) (hk37 : ∀ (x0 : Nat) (x3 : Int32) (M : Mm), EJ G Y_Mod_spreads cvV 3 37 [(0, .ref x0), (3, .int x3)] [] M (k37 x0 x3 M)) (hk129 : ∀ (x0 : Nat) (x3 : Int32) (x4 : Int32) (x5 : Int32) (M : Mm), EJ G Y_Mod_spreads cvV 3 129 [(0, .ref x0), (3, .int x3), (4, .int x4), (5, .int x5)] [] M (k129 x0 x3 x4 x5 M)) (x0 : Nat) (x3 : Int32) (x4 : Int32) (x5 : Int32) (x6 : Int32) (M : Mm) : EJ G Y_Mod_spreads cvV 3 206 [(0, .ref x0), (3, .int x3), (4, .int x4), (5, .int x5), (6, .int x6)] [] M (Mod_spreads_J206 k37 k129 x0 x3 x4 x5 x6 M) := by
  unfold Mod_spreads_J206
  refine EJ_aload_n 207 0 (dk_42 (bt bc_Mod_spreads_6 14 rfl)) rfl rfl ?_
  refine EJ_ck (fun h24 => ?_)
  refine EJ_getR cf12 7 (by decide) 210 tw_1205 (fun _ _ _ => rfl) (dk_180 (bt bc_Mod_spreads_6 15 rfl) (bt bc_Mod_spreads_6 16 rfl) (bt bc_Mod_spreads_6 17 rfl) (n := 26) rfl) rfl (of_decide_eq_true h24) (fun b25 => ?_)
  refine EJ_iload 212 3 (dk_21 (bt bc_Mod_spreads_6 18 rfl) (bt bc_Mod_spreads_6 19 rfl)) rfl rfl ?_
  refine EJ_iload 214 4 (dk_21 (bt bc_Mod_spreads_6 20 rfl) (bt bc_Mod_spreads_6 21 rfl)) rfl rfl ?_
  refine EJ_ck (fun h26 => ?_)
  refine EJ_iast 215 h26 (dk_79 (bt bc_Mod_spreads_6 22 rfl)) rfl ?_
  exact EJ_pick (lv2 := [(0, .ref _), (3, .int _), (4, .int _), (5, .int _)]) [0, 1, 2, 3] rfl (e_Mod_spreads_J215 k37 k129 hk37 hk129 _ _ _ _ _)
def Mod_spreads_B129 (k37 : Nat → Int32 → Mm → Option (Unit × Mm)) (k129 : Nat → Int32 → Int32 → Int32 → Mm → Option (Unit × Mm)) (x0 : Nat) (x3 : Int32) (x4 : Int32) (x5 : Int32) (M : Mm) : Option (Unit × Mm) :=
  ck (kO M x0 12 107) (
  if (mI M x0 2) ≤ x5 then (
    let v11 : Int32 := x3 + 1
    k37 x0 v11 M)
  else (
    nn (mR M x0 6) (fun b12 =>
    ck (kA M b12 20 ((10 * x4) + x5)) (
    if (mI M b12 (ix ((10 * x4) + x5))) = 0 then (
      Mod_spreads_J215 k37 k129 x0 x3 x4 x5 M)
    else (
      nn (mR M x0 8) (fun b15 =>
      ck (kA M b15 22 x5) (
      if (mI M b15 (ix x5)) = 0 then (
        nn (mR M x0 7) (fun b17 =>
        ck (kA M b17 20 x4) (
        bd (Mod_goes M x0 x4 x5 (mI M b17 (ix x4))) (fun r19 M20 =>
        ck (kO M20 x0 12 107) (
        nn (mR M20 x0 7) (fun b22 =>
        ck (kA M20 b22 20 x5) (
        if (mI M20 b22 (ix x5)) < 0 then (
          Mod_spreads_J206 k37 k129 x0 x3 x4 x5 r19 M20)
        else (
          nn (mR M20 x0 7) (fun b28 =>
          ck (kA M20 b28 20 x5) (
          if (mI M20 b28 (ix x5)) ≤ r19 then (
            Mod_spreads_J215 k37 k129 x0 x3 x4 x5 M20)
          else (
            Mod_spreads_J206 k37 k129 x0 x3 x4 x5 r19 M20)))))))))))
      else (
        Mod_spreads_J215 k37 k129 x0 x3 x4 x5 M))))))))
set_option maxRecDepth 100000 in
set_option maxHeartbeats 4000000 in
theorem e_Mod_spreads_B129 {G : Gx} (k37 : Nat → Int32 → Mm → Option (Unit × Mm)) (k129 : Nat → Int32 → Int32 → Int32 → Mm → Option (Unit × Mm)) (hk37 : ∀ (x0 : Nat) (x3 : Int32) (M : Mm), EJ G Y_Mod_spreads cvV 3 37 [(0, .ref x0), (3, .int x3)] [] M (k37 x0 x3 M)) (hk129 : ∀ (x0 : Nat) (x3 : Int32) (x4 : Int32) (x5 : Int32) (M : Mm), EJ G Y_Mod_spreads cvV 3 129 [(0, .ref x0), (3, .int x3), (4, .int x4), (5, .int x5)] [] M (k129 x0 x3 x4 x5 M)) (x0 : Nat) (x3 : Int32) (x4 : Int32) (x5 : Int32) (M : Mm) : EJ G Y_Mod_spreads cvV 3 129 [(0, .ref x0), (3, .int x3), (4, .int x4), (5, .int x5)] [] M (Mod_spreads_B129 k37 k129 x0 x3 x4 x5 M) := by
  unfold Mod_spreads_B129
  refine EJ_iload 131 3 (dk_21 (bt bc_Mod_spreads_4 1 rfl) (bt bc_Mod_spreads_4 2 rfl)) rfl rfl ?_
  refine EJ_aload_n 132 0 (dk_42 (bt bc_Mod_spreads_4 3 rfl)) rfl rfl ?_
  refine EJ_ck (fun h10 => ?_)
  refine EJ_getI cf12 2 (by decide) 135 tw_1200 (fun _ _ _ => rfl) (dk_180 (bt bc_Mod_spreads_4 4 rfl) (bt bc_Mod_spreads_4 5 rfl) (bt bc_Mod_spreads_4 6 rfl) (n := 7) rfl) rfl (of_decide_eq_true h10) ?_
  refine EJ_icmp_ge 221 138 (dk_162 (bt bc_Mod_spreads_4 7 rfl) (bt bc_Mod_spreads_4 8 rfl) (bt bc_Mod_spreads_4 9 rfl) (n := 86) rfl) (by decide) rfl (fun _ => ?_) (fun _ => ?_)
  · refine EJ_iinc 224 1 (lv2 := [(3, .int _), (0, .ref _), (4, .int _), (5, .int _)]) (dk_132 (bt bc_Mod_spreads_6 29 rfl) (bt bc_Mod_spreads_6 30 rfl) (bt bc_Mod_spreads_6 31 rfl) (n := 1) rfl) rfl (by decide) rfl (v := 1) kI_1 rfl ?_
    refine EJ_goto 37 (dk_167 (bt bc_Mod_spreads_7 0 rfl) (bt bc_Mod_spreads_7 1 rfl) (bt bc_Mod_spreads_7 2 rfl) (n := -187) rfl) (by decide) ?_
    exact EJ_pick (lv2 := [(0, .ref _), (3, .int _)]) [1, 0] rfl (hk37 _ _ _)
  · refine EJ_aload_n 139 0 (dk_42 (bt bc_Mod_spreads_4 10 rfl)) rfl rfl ?_
    refine EJ_getR cf12 6 (by decide) 142 tw_1204 (fun _ _ _ => rfl) (dk_180 (bt bc_Mod_spreads_4 11 rfl) (bt bc_Mod_spreads_4 12 rfl) (bt bc_Mod_spreads_4 13 rfl) (n := 23) rfl) rfl (of_decide_eq_true h10) (fun b12 => ?_)
    refine EJ_bipush 144 (dk_16 (bt bc_Mod_spreads_4 14 rfl) (bt bc_Mod_spreads_4 15 rfl) (n := 10) rfl) rfl (v := 10) kB_10 ?_
    refine EJ_iload 146 2 (dk_21 (bt bc_Mod_spreads_4 16 rfl) (bt bc_Mod_spreads_4 17 rfl)) rfl rfl ?_
    refine EJ_imul 147 (dk_104 (bt bc_Mod_spreads_4 18 rfl)) rfl ?_
    refine EJ_iload 149 3 (dk_21 (bt bc_Mod_spreads_4 19 rfl) (bt bc_Mod_spreads_4 20 rfl)) rfl rfl ?_
    refine EJ_iadd 150 (dk_96 (bt bc_Mod_spreads_4 21 rfl)) rfl ?_
    refine EJ_ck (fun h13 => ?_)
    refine EJ_iald 151 h13 (dk_46 (bt bc_Mod_spreads_4 22 rfl)) rfl ?_
    refine EJ_if_eq 215 154 (dk_153 (bt bc_Mod_spreads_4 23 rfl) (bt bc_Mod_spreads_4 24 rfl) (bt bc_Mod_spreads_4 25 rfl) (n := 64) rfl) (by decide) rfl (fun _ => ?_) (fun _ => ?_)
    · exact EJ_pick (lv2 := [(0, .ref _), (3, .int _), (4, .int _), (5, .int _)]) [0, 1, 2, 3] rfl (e_Mod_spreads_J215 k37 k129 hk37 hk129 _ _ _ _ _)
    · refine EJ_aload_n 155 0 (dk_42 (bt bc_Mod_spreads_4 26 rfl)) rfl rfl ?_
      refine EJ_getR cf12 8 (by decide) 158 tw_1206 (fun _ _ _ => rfl) (dk_180 (bt bc_Mod_spreads_4 27 rfl) (bt bc_Mod_spreads_4 28 rfl) (bt bc_Mod_spreads_4 29 rfl) (n := 29) rfl) rfl (of_decide_eq_true h10) (fun b15 => ?_)
      refine EJ_iload 160 3 (dk_21 (bt bc_Mod_spreads_4 30 rfl) (bt bc_Mod_spreads_4 31 rfl)) rfl rfl ?_
      refine EJ_ck (fun h16 => ?_)
      refine EJ_zald 161 h16 (dk_51 (bt bc_Mod_spreads_5 0 rfl)) rfl ?_
      refine EJ_if_eq 167 164 (dk_153 (bt bc_Mod_spreads_5 1 rfl) (bt bc_Mod_spreads_5 2 rfl) (bt bc_Mod_spreads_5 3 rfl) (n := 6) rfl) (by decide) rfl (fun _ => ?_) (fun _ => ?_)
      · refine EJ_aload_n 168 0 (dk_42 (bt bc_Mod_spreads_5 7 rfl)) rfl rfl ?_
        refine EJ_iload 170 2 (dk_21 (bt bc_Mod_spreads_5 8 rfl) (bt bc_Mod_spreads_5 9 rfl)) rfl rfl ?_
        refine EJ_iload 172 3 (dk_21 (bt bc_Mod_spreads_5 10 rfl) (bt bc_Mod_spreads_5 11 rfl)) rfl rfl ?_
        refine EJ_aload_n 173 0 (dk_42 (bt bc_Mod_spreads_5 12 rfl)) rfl rfl ?_
        refine EJ_getR cf12 7 (by decide) 176 tw_1205 (fun _ _ _ => rfl) (dk_180 (bt bc_Mod_spreads_5 13 rfl) (bt bc_Mod_spreads_5 14 rfl) (bt bc_Mod_spreads_5 15 rfl) (n := 26) rfl) rfl (of_decide_eq_true h10) (fun b17 => ?_)
        refine EJ_iload 178 2 (dk_21 (bt bc_Mod_spreads_5 16 rfl) (bt bc_Mod_spreads_5 17 rfl)) rfl rfl ?_
        refine EJ_ck (fun h18 => ?_)
        refine EJ_iald 179 h18 (dk_46 (bt bc_Mod_spreads_5 18 rfl)) rfl ?_
        refine EJ_callVi (Y2 := Y_Mod_goes) 182 cf12 (s_Mod_goes G _ _ _ _ _) (of_decide_eq_true h10) rfl (dk_182 (bt bc_Mod_spreads_5 19 rfl) (bt bc_Mod_spreads_5 20 rfl) (bt bc_Mod_spreads_5 21 rfl) (n := 260) rfl) rfl tw_1548 tw_1550 ts_38 tw_1551 hd_Mod_goes rfl (by decide) (Nat.le_of_ble_eq_true rfl) (fun r19 M20 => ?_)
        refine EJ_istore 184 (lv2 := [(6, .int _), (0, .ref _), (3, .int _), (4, .int _), (5, .int _)]) (dk_54 (bt bc_Mod_spreads_5 22 rfl) (bt bc_Mod_spreads_5 23 rfl)) rfl (by decide) rfl ?_
        refine EJ_aload_n 185 1 (dk_42 (bt bc_Mod_spreads_5 24 rfl)) rfl rfl ?_
        refine EJ_ck (fun h21 => ?_)
        refine EJ_getR cf12 7 (by decide) 188 tw_1205 (fun _ _ _ => rfl) (dk_180 (bt bc_Mod_spreads_5 25 rfl) (bt bc_Mod_spreads_5 26 rfl) (bt bc_Mod_spreads_5 27 rfl) (n := 26) rfl) rfl (of_decide_eq_true h21) (fun b22 => ?_)
        refine EJ_iload 190 4 (dk_21 (bt bc_Mod_spreads_5 28 rfl) (bt bc_Mod_spreads_5 29 rfl)) rfl rfl ?_
        refine EJ_ck (fun h23 => ?_)
        refine EJ_iald 191 h23 (dk_46 (bt bc_Mod_spreads_5 30 rfl)) rfl ?_
        refine EJ_if_lt 206 194 (dk_155 (bt bc_Mod_spreads_5 31 rfl) (bt bc_Mod_spreads_6 0 rfl) (bt bc_Mod_spreads_6 1 rfl) (n := 15) rfl) (by decide) rfl (fun _ => ?_) (fun _ => ?_)
        · exact EJ_pick (lv2 := [(0, .ref _), (3, .int _), (4, .int _), (5, .int _), (6, .int _)]) [1, 2, 3, 4, 0] rfl (e_Mod_spreads_J206 k37 k129 hk37 hk129 _ _ _ _ _ _)
        · refine EJ_iload 196 0 (dk_21 (bt bc_Mod_spreads_6 2 rfl) (bt bc_Mod_spreads_6 3 rfl)) rfl rfl ?_
          refine EJ_aload_n 197 1 (dk_42 (bt bc_Mod_spreads_6 4 rfl)) rfl rfl ?_
          refine EJ_getR cf12 7 (by decide) 200 tw_1205 (fun _ _ _ => rfl) (dk_180 (bt bc_Mod_spreads_6 5 rfl) (bt bc_Mod_spreads_6 6 rfl) (bt bc_Mod_spreads_6 7 rfl) (n := 26) rfl) rfl (of_decide_eq_true h21) (fun b28 => ?_)
          refine EJ_iload 202 4 (dk_21 (bt bc_Mod_spreads_6 8 rfl) (bt bc_Mod_spreads_6 9 rfl)) rfl rfl ?_
          refine EJ_ck (fun h29 => ?_)
          refine EJ_iald 203 h29 (dk_46 (bt bc_Mod_spreads_6 10 rfl)) rfl ?_
          refine EJ_icmp_ge 215 206 (dk_162 (bt bc_Mod_spreads_6 11 rfl) (bt bc_Mod_spreads_6 12 rfl) (bt bc_Mod_spreads_6 13 rfl) (n := 12) rfl) (by decide) rfl (fun _ => ?_) (fun _ => ?_)
          · exact EJ_pick (lv2 := [(0, .ref _), (3, .int _), (4, .int _), (5, .int _)]) [1, 2, 3, 4] rfl (e_Mod_spreads_J215 k37 k129 hk37 hk129 _ _ _ _ _)
          · exact EJ_pick (lv2 := [(0, .ref _), (3, .int _), (4, .int _), (5, .int _), (6, .int _)]) [1, 2, 3, 4, 0] rfl (e_Mod_spreads_J206 k37 k129 hk37 hk129 _ _ _ _ _ _)
      · refine EJ_goto 215 (dk_167 (bt bc_Mod_spreads_5 4 rfl) (bt bc_Mod_spreads_5 5 rfl) (bt bc_Mod_spreads_5 6 rfl) (n := 51) rfl) (by decide) ?_
        exact EJ_pick (lv2 := [(0, .ref _), (3, .int _), (4, .int _), (5, .int _)]) [0, 1, 2, 3] rfl (e_Mod_spreads_J215 k37 k129 hk37 hk129 _ _ _ _ _)
def Mod_spreads_L129 (k37 : Nat → Int32 → Mm → Option (Unit × Mm)) (n : Nat) : Nat → Int32 → Int32 → Int32 → Mm → Option (Unit × Mm) :=
  match n with
  | 0 => fun _ _ _ _ _ => none
  | n + 1 => Mod_spreads_B129 k37 (Mod_spreads_L129 k37 n)
theorem e_Mod_spreads_L129 {G : Gx} (k37 : Nat → Int32 → Mm → Option (Unit × Mm)) (hk37 : ∀ (x0 : Nat) (x3 : Int32) (M : Mm), EJ G Y_Mod_spreads cvV 3 37 [(0, .ref x0), (3, .int x3)] [] M (k37 x0 x3 M)) : ∀ (n : Nat) (x0 : Nat) (x3 : Int32) (x4 : Int32) (x5 : Int32) (M : Mm), EJ G Y_Mod_spreads cvV 3 129 [(0, .ref x0), (3, .int x3), (4, .int x4), (5, .int x5)] [] M (Mod_spreads_L129 k37 n x0 x3 x4 x5 M) := by
  intro n
  induction n with
  | zero => intros; exact EJ_none
  | succ n ih => intro x0 x3 x4 x5 M; exact e_Mod_spreads_B129 k37 _ hk37 ih x0 x3 x4 x5 M
def Mod_spreads_J106 (k37 : Nat → Int32 → Mm → Option (Unit × Mm)) (k51 : Nat → Int32 → Int32 → Int32 → Mm → Option (Unit × Mm)) (x0 : Nat) (x3 : Int32) (x4 : Int32) (x5 : Int32) (M : Mm) : Option (Unit × Mm) :=
  let v32 : Int32 := x5 + 1
  k51 x0 x3 x4 v32 M
set_option maxRecDepth 100000 in
set_option maxHeartbeats 4000000 in
theorem e_Mod_spreads_J106 {G : Gx} (k37 : Nat → Int32 → Mm → Option (Unit × Mm)) (k51 : Nat → Int32 → Int32 → Int32 → Mm → Option (Unit × Mm)) (hk37 : ∀ (x0 : Nat) (x3 : Int32) (M : Mm), EJ G Y_Mod_spreads cvV 3 37 [(0, .ref x0), (3, .int x3)] [] M (k37 x0 x3 M)) (hk51 : ∀ (x0 : Nat) (x3 : Int32) (x4 : Int32) (x5 : Int32) (M : Mm), EJ G Y_Mod_spreads cvV 3 51 [(0, .ref x0), (3, .int x3), (4, .int x4), (5, .int x5)] [] M (k51 x0 x3 x4 x5 M)) (x0 : Nat) (x3 : Int32) (x4 : Int32) (x5 : Int32) (M : Mm) : EJ G Y_Mod_spreads cvV 3 106 [(0, .ref x0), (3, .int x3), (4, .int x4), (5, .int x5)] [] M (Mod_spreads_J106 k37 k51 x0 x3 x4 x5 M) := by
  unfold Mod_spreads_J106
  refine EJ_iinc 109 3 (lv2 := [(5, .int _), (0, .ref _), (3, .int _), (4, .int _)]) (dk_132 (bt bc_Mod_spreads_3 10 rfl) (bt bc_Mod_spreads_3 11 rfl) (bt bc_Mod_spreads_3 12 rfl) (n := 1) rfl) rfl (by decide) rfl (v := 1) kI_1 rfl ?_
  refine EJ_goto 51 (dk_167 (bt bc_Mod_spreads_3 13 rfl) (bt bc_Mod_spreads_3 14 rfl) (bt bc_Mod_spreads_3 15 rfl) (n := -58) rfl) (by decide) ?_
  exact EJ_pick (lv2 := [(0, .ref _), (3, .int _), (4, .int _), (5, .int _)]) [1, 2, 3, 0] rfl (hk51 _ _ _ _ _)
def Mod_spreads_J102 (k37 : Nat → Int32 → Mm → Option (Unit × Mm)) (k51 : Nat → Int32 → Int32 → Int32 → Mm → Option (Unit × Mm)) (x0 : Nat) (x3 : Int32) (x5 : Int32) (M : Mm) : Option (Unit × Mm) :=
  Mod_spreads_J106 k37 k51 x0 x3 x5 x5 M
set_option maxRecDepth 100000 in
set_option maxHeartbeats 4000000 in
theorem e_Mod_spreads_J102 {G : Gx} (k37 : Nat → Int32 → Mm → Option (Unit × Mm)) (k51 : Nat → Int32 → Int32 → Int32 → Mm → Option (Unit × Mm)) (hk37 : ∀ (x0 : Nat) (x3 : Int32) (M : Mm), EJ G Y_Mod_spreads cvV 3 37 [(0, .ref x0), (3, .int x3)] [] M (k37 x0 x3 M)) (hk51 : ∀ (x0 : Nat) (x3 : Int32) (x4 : Int32) (x5 : Int32) (M : Mm), EJ G Y_Mod_spreads cvV 3 51 [(0, .ref x0), (3, .int x3), (4, .int x4), (5, .int x5)] [] M (k51 x0 x3 x4 x5 M)) (x0 : Nat) (x3 : Int32) (x5 : Int32) (M : Mm) : EJ G Y_Mod_spreads cvV 3 102 [(0, .ref x0), (3, .int x3), (5, .int x5)] [] M (Mod_spreads_J102 k37 k51 x0 x3 x5 M) := by
  unfold Mod_spreads_J102
  refine EJ_iload 104 2 (dk_21 (bt bc_Mod_spreads_3 6 rfl) (bt bc_Mod_spreads_3 7 rfl)) rfl rfl ?_
  refine EJ_istore 106 (lv2 := [(4, .int _), (0, .ref _), (3, .int _), (5, .int _)]) (dk_54 (bt bc_Mod_spreads_3 8 rfl) (bt bc_Mod_spreads_3 9 rfl)) rfl (by decide) rfl ?_
  exact EJ_pick (lv2 := [(0, .ref _), (3, .int _), (4, .int _), (5, .int _)]) [1, 2, 0, 3] rfl (e_Mod_spreads_J106 k37 k51 hk37 hk51 _ _ _ _ _)
def Mod_spreads_B51 (k37 : Nat → Int32 → Mm → Option (Unit × Mm)) (k51 : Nat → Int32 → Int32 → Int32 → Mm → Option (Unit × Mm)) (x0 : Nat) (x3 : Int32) (x4 : Int32) (x5 : Int32) (M : Mm) : Option (Unit × Mm) :=
  ck (kO M x0 12 107) (
  if (mI M x0 2) ≤ x5 then (
    if 0 ≤ x4 then (
      nn (mR M x0 8) (fun b7 =>
      ck (kA M b7 22 x4) (
      let M9 := sI M b7 (ix x4) 1
      Mod_spreads_L129 k37 fu x0 x3 x4 0 M9)))
    else (
      some ((), M)))
  else (
    nn (mR M x0 8) (fun b30 =>
    ck (kA M b30 22 x5) (
    if (mI M b30 (ix x5)) = 0 then (
      nn (mR M x0 7) (fun b33 =>
      ck (kA M b33 20 x5) (
      if (mI M b33 (ix x5)) < 0 then (
        Mod_spreads_J106 k37 k51 x0 x3 x4 x5 M)
      else (
        if x4 < 0 then (
          Mod_spreads_J102 k37 k51 x0 x3 x5 M)
        else (
          nn (mR M x0 7) (fun b35 =>
          ck (kA M b35 20 x5) (
          nn (mR M x0 7) (fun b37 =>
          ck (kA M b37 20 x4) (
          if (mI M b37 (ix x4)) ≤ (mI M b35 (ix x5)) then (
            Mod_spreads_J106 k37 k51 x0 x3 x4 x5 M)
          else (
            Mod_spreads_J102 k37 k51 x0 x3 x5 M))))))))))
    else (
      Mod_spreads_J106 k37 k51 x0 x3 x4 x5 M)))))
set_option maxRecDepth 100000 in
set_option maxHeartbeats 4000000 in
theorem e_Mod_spreads_B51 {G : Gx} (k37 : Nat → Int32 → Mm → Option (Unit × Mm)) (k51 : Nat → Int32 → Int32 → Int32 → Mm → Option (Unit × Mm)) (hk37 : ∀ (x0 : Nat) (x3 : Int32) (M : Mm), EJ G Y_Mod_spreads cvV 3 37 [(0, .ref x0), (3, .int x3)] [] M (k37 x0 x3 M)) (hk51 : ∀ (x0 : Nat) (x3 : Int32) (x4 : Int32) (x5 : Int32) (M : Mm), EJ G Y_Mod_spreads cvV 3 51 [(0, .ref x0), (3, .int x3), (4, .int x4), (5, .int x5)] [] M (k51 x0 x3 x4 x5 M)) (x0 : Nat) (x3 : Int32) (x4 : Int32) (x5 : Int32) (M : Mm) : EJ G Y_Mod_spreads cvV 3 51 [(0, .ref x0), (3, .int x3), (4, .int x4), (5, .int x5)] [] M (Mod_spreads_B51 k37 k51 x0 x3 x4 x5 M) := by
  unfold Mod_spreads_B51
  refine EJ_iload 53 3 (dk_21 (bt bc_Mod_spreads_1 19 rfl) (bt bc_Mod_spreads_1 20 rfl)) rfl rfl ?_
  refine EJ_aload_n 54 0 (dk_42 (bt bc_Mod_spreads_1 21 rfl)) rfl rfl ?_
  refine EJ_ck (fun h6 => ?_)
  refine EJ_getI cf12 2 (by decide) 57 tw_1200 (fun _ _ _ => rfl) (dk_180 (bt bc_Mod_spreads_1 22 rfl) (bt bc_Mod_spreads_1 23 rfl) (bt bc_Mod_spreads_1 24 rfl) (n := 7) rfl) rfl (of_decide_eq_true h6) ?_
  refine EJ_icmp_ge 112 60 (dk_162 (bt bc_Mod_spreads_1 25 rfl) (bt bc_Mod_spreads_1 26 rfl) (bt bc_Mod_spreads_1 27 rfl) (n := 55) rfl) (by decide) rfl (fun _ => ?_) (fun _ => ?_)
  · refine EJ_iload 114 2 (dk_21 (bt bc_Mod_spreads_3 16 rfl) (bt bc_Mod_spreads_3 17 rfl)) rfl rfl ?_
    refine EJ_if_ge 118 117 (dk_156 (bt bc_Mod_spreads_3 18 rfl) (bt bc_Mod_spreads_3 19 rfl) (bt bc_Mod_spreads_3 20 rfl) (n := 4) rfl) (by decide) rfl (fun _ => ?_) (fun _ => ?_)
    · refine EJ_aload_n 119 0 (dk_42 (bt bc_Mod_spreads_3 22 rfl)) rfl rfl ?_
      refine EJ_getR cf12 8 (by decide) 122 tw_1206 (fun _ _ _ => rfl) (dk_180 (bt bc_Mod_spreads_3 23 rfl) (bt bc_Mod_spreads_3 24 rfl) (bt bc_Mod_spreads_3 25 rfl) (n := 29) rfl) rfl (of_decide_eq_true h6) (fun b7 => ?_)
      refine EJ_iload 124 2 (dk_21 (bt bc_Mod_spreads_3 26 rfl) (bt bc_Mod_spreads_3 27 rfl)) rfl rfl ?_
      refine EJ_iconst 125 (dk_4 (bt bc_Mod_spreads_3 28 rfl)) rfl (v := 1) kI_1 ?_
      refine EJ_ck (fun h8 => ?_)
      refine EJ_zast 126 h8 rfl (dk_84 (bt bc_Mod_spreads_3 29 rfl)) rfl ?_
      refine EJ_iconst 127 (dk_3 (bt bc_Mod_spreads_3 30 rfl)) rfl (v := 0) kI_0 ?_
      refine EJ_istore 129 (lv2 := [(5, .int _), (0, .ref _), (3, .int _), (4, .int _)]) (dk_54 (bt bc_Mod_spreads_3 31 rfl) (bt bc_Mod_spreads_4 0 rfl)) rfl (by decide) rfl ?_
      exact EJ_pick (lv2 := [(0, .ref _), (3, .int _), (4, .int _), (5, .int _)]) [1, 2, 3, 0] rfl (e_Mod_spreads_L129 k37 hk37 fu _ _ _ _ _)
    · exact EJ_vret rfl (dk_177 (bt bc_Mod_spreads_3 21 rfl))
  · refine EJ_aload_n 61 0 (dk_42 (bt bc_Mod_spreads_1 28 rfl)) rfl rfl ?_
    refine EJ_getR cf12 8 (by decide) 64 tw_1206 (fun _ _ _ => rfl) (dk_180 (bt bc_Mod_spreads_1 29 rfl) (bt bc_Mod_spreads_1 30 rfl) (bt bc_Mod_spreads_1 31 rfl) (n := 29) rfl) rfl (of_decide_eq_true h6) (fun b30 => ?_)
    refine EJ_iload 66 3 (dk_21 (bt bc_Mod_spreads_2 0 rfl) (bt bc_Mod_spreads_2 1 rfl)) rfl rfl ?_
    refine EJ_ck (fun h31 => ?_)
    refine EJ_zald 67 h31 (dk_51 (bt bc_Mod_spreads_2 2 rfl)) rfl ?_
    refine EJ_if_ne 106 70 (dk_154 (bt bc_Mod_spreads_2 3 rfl) (bt bc_Mod_spreads_2 4 rfl) (bt bc_Mod_spreads_2 5 rfl) (n := 39) rfl) (by decide) rfl (fun _ => ?_) (fun _ => ?_)
    · exact EJ_pick (lv2 := [(0, .ref _), (3, .int _), (4, .int _), (5, .int _)]) [0, 1, 2, 3] rfl (e_Mod_spreads_J106 k37 k51 hk37 hk51 _ _ _ _ _)
    · refine EJ_aload_n 71 0 (dk_42 (bt bc_Mod_spreads_2 6 rfl)) rfl rfl ?_
      refine EJ_getR cf12 7 (by decide) 74 tw_1205 (fun _ _ _ => rfl) (dk_180 (bt bc_Mod_spreads_2 7 rfl) (bt bc_Mod_spreads_2 8 rfl) (bt bc_Mod_spreads_2 9 rfl) (n := 26) rfl) rfl (of_decide_eq_true h6) (fun b33 => ?_)
      refine EJ_iload 76 3 (dk_21 (bt bc_Mod_spreads_2 10 rfl) (bt bc_Mod_spreads_2 11 rfl)) rfl rfl ?_
      refine EJ_ck (fun h34 => ?_)
      refine EJ_iald 77 h34 (dk_46 (bt bc_Mod_spreads_2 12 rfl)) rfl ?_
      refine EJ_if_lt 106 80 (dk_155 (bt bc_Mod_spreads_2 13 rfl) (bt bc_Mod_spreads_2 14 rfl) (bt bc_Mod_spreads_2 15 rfl) (n := 29) rfl) (by decide) rfl (fun _ => ?_) (fun _ => ?_)
      · exact EJ_pick (lv2 := [(0, .ref _), (3, .int _), (4, .int _), (5, .int _)]) [0, 1, 2, 3] rfl (e_Mod_spreads_J106 k37 k51 hk37 hk51 _ _ _ _ _)
      · refine EJ_iload 82 2 (dk_21 (bt bc_Mod_spreads_2 16 rfl) (bt bc_Mod_spreads_2 17 rfl)) rfl rfl ?_
        refine EJ_if_lt 102 85 (dk_155 (bt bc_Mod_spreads_2 18 rfl) (bt bc_Mod_spreads_2 19 rfl) (bt bc_Mod_spreads_2 20 rfl) (n := 20) rfl) (by decide) rfl (fun _ => ?_) (fun _ => ?_)
        · exact EJ_pick (lv2 := [(0, .ref _), (3, .int _), (5, .int _)]) [0, 1, 3] rfl (e_Mod_spreads_J102 k37 k51 hk37 hk51 _ _ _ _)
        · refine EJ_aload_n 86 0 (dk_42 (bt bc_Mod_spreads_2 21 rfl)) rfl rfl ?_
          refine EJ_getR cf12 7 (by decide) 89 tw_1205 (fun _ _ _ => rfl) (dk_180 (bt bc_Mod_spreads_2 22 rfl) (bt bc_Mod_spreads_2 23 rfl) (bt bc_Mod_spreads_2 24 rfl) (n := 26) rfl) rfl (of_decide_eq_true h6) (fun b35 => ?_)
          refine EJ_iload 91 3 (dk_21 (bt bc_Mod_spreads_2 25 rfl) (bt bc_Mod_spreads_2 26 rfl)) rfl rfl ?_
          refine EJ_ck (fun h36 => ?_)
          refine EJ_iald 92 h36 (dk_46 (bt bc_Mod_spreads_2 27 rfl)) rfl ?_
          refine EJ_aload_n 93 0 (dk_42 (bt bc_Mod_spreads_2 28 rfl)) rfl rfl ?_
          refine EJ_getR cf12 7 (by decide) 96 tw_1205 (fun _ _ _ => rfl) (dk_180 (bt bc_Mod_spreads_2 29 rfl) (bt bc_Mod_spreads_2 30 rfl) (bt bc_Mod_spreads_2 31 rfl) (n := 26) rfl) rfl (of_decide_eq_true h6) (fun b37 => ?_)
          refine EJ_iload 98 2 (dk_21 (bt bc_Mod_spreads_3 0 rfl) (bt bc_Mod_spreads_3 1 rfl)) rfl rfl ?_
          refine EJ_ck (fun h38 => ?_)
          refine EJ_iald 99 h38 (dk_46 (bt bc_Mod_spreads_3 2 rfl)) rfl ?_
          refine EJ_icmp_ge 106 102 (dk_162 (bt bc_Mod_spreads_3 3 rfl) (bt bc_Mod_spreads_3 4 rfl) (bt bc_Mod_spreads_3 5 rfl) (n := 7) rfl) (by decide) rfl (fun _ => ?_) (fun _ => ?_)
          · exact EJ_pick (lv2 := [(0, .ref _), (3, .int _), (4, .int _), (5, .int _)]) [0, 1, 2, 3] rfl (e_Mod_spreads_J106 k37 k51 hk37 hk51 _ _ _ _ _)
          · exact EJ_pick (lv2 := [(0, .ref _), (3, .int _), (5, .int _)]) [0, 1, 3] rfl (e_Mod_spreads_J102 k37 k51 hk37 hk51 _ _ _ _)
def Mod_spreads_L51 (k37 : Nat → Int32 → Mm → Option (Unit × Mm)) (n : Nat) : Nat → Int32 → Int32 → Int32 → Mm → Option (Unit × Mm) :=
  match n with
  | 0 => fun _ _ _ _ _ => none
  | n + 1 => Mod_spreads_B51 k37 (Mod_spreads_L51 k37 n)
theorem e_Mod_spreads_L51 {G : Gx} (k37 : Nat → Int32 → Mm → Option (Unit × Mm)) (hk37 : ∀ (x0 : Nat) (x3 : Int32) (M : Mm), EJ G Y_Mod_spreads cvV 3 37 [(0, .ref x0), (3, .int x3)] [] M (k37 x0 x3 M)) : ∀ (n : Nat) (x0 : Nat) (x3 : Int32) (x4 : Int32) (x5 : Int32) (M : Mm), EJ G Y_Mod_spreads cvV 3 51 [(0, .ref x0), (3, .int x3), (4, .int x4), (5, .int x5)] [] M (Mod_spreads_L51 k37 n x0 x3 x4 x5 M) := by
  intro n
  induction n with
  | zero => intros; exact EJ_none
  | succ n ih => intro x0 x3 x4 x5 M; exact e_Mod_spreads_B51 k37 _ hk37 ih x0 x3 x4 x5 M
def Mod_spreads_B37 (k37 : Nat → Int32 → Mm → Option (Unit × Mm)) (x0 : Nat) (x3 : Int32) (M : Mm) : Option (Unit × Mm) :=
  ck (kO M x0 12 107) (
  if (mI M x0 2) ≤ x3 then (
    some ((), M))
  else (
    Mod_spreads_L51 k37 fu x0 x3 (-1) 0 M))
set_option maxRecDepth 100000 in
set_option maxHeartbeats 4000000 in
theorem e_Mod_spreads_B37 {G : Gx} (k37 : Nat → Int32 → Mm → Option (Unit × Mm)) (hk37 : ∀ (x0 : Nat) (x3 : Int32) (M : Mm), EJ G Y_Mod_spreads cvV 3 37 [(0, .ref x0), (3, .int x3)] [] M (k37 x0 x3 M)) (x0 : Nat) (x3 : Int32) (M : Mm) : EJ G Y_Mod_spreads cvV 3 37 [(0, .ref x0), (3, .int x3)] [] M (Mod_spreads_B37 k37 x0 x3 M) := by
  unfold Mod_spreads_B37
  refine EJ_iload_n 38 1 (dk_29 (bt bc_Mod_spreads_1 5 rfl)) rfl rfl ?_
  refine EJ_aload_n 39 0 (dk_42 (bt bc_Mod_spreads_1 6 rfl)) rfl rfl ?_
  refine EJ_ck (fun h5 => ?_)
  refine EJ_getI cf12 2 (by decide) 42 tw_1200 (fun _ _ _ => rfl) (dk_180 (bt bc_Mod_spreads_1 7 rfl) (bt bc_Mod_spreads_1 8 rfl) (bt bc_Mod_spreads_1 9 rfl) (n := 7) rfl) rfl (of_decide_eq_true h5) ?_
  refine EJ_icmp_ge 227 45 (dk_162 (bt bc_Mod_spreads_1 10 rfl) (bt bc_Mod_spreads_1 11 rfl) (bt bc_Mod_spreads_1 12 rfl) (n := 185) rfl) (by decide) rfl (fun _ => ?_) (fun _ => ?_)
  · exact EJ_vret rfl (dk_177 (bt bc_Mod_spreads_7 3 rfl))
  · refine EJ_iconst 46 (dk_2 (bt bc_Mod_spreads_1 13 rfl)) rfl (v := (-1)) kI_m1 ?_
    refine EJ_istore 48 (lv2 := [(4, .int _), (0, .ref _), (3, .int _)]) (dk_54 (bt bc_Mod_spreads_1 14 rfl) (bt bc_Mod_spreads_1 15 rfl)) rfl (by decide) rfl ?_
    refine EJ_iconst 49 (dk_3 (bt bc_Mod_spreads_1 16 rfl)) rfl (v := 0) kI_0 ?_
    refine EJ_istore 51 (lv2 := [(5, .int _), (4, .int _), (0, .ref _), (3, .int _)]) (dk_54 (bt bc_Mod_spreads_1 17 rfl) (bt bc_Mod_spreads_1 18 rfl)) rfl (by decide) rfl ?_
    exact EJ_pick (lv2 := [(0, .ref _), (3, .int _), (4, .int _), (5, .int _)]) [2, 3, 1, 0] rfl (e_Mod_spreads_L51 k37 hk37 fu _ _ _ _ _)
def Mod_spreads_L37 (n : Nat) : Nat → Int32 → Mm → Option (Unit × Mm) :=
  match n with
  | 0 => fun _ _ _ => none
  | n + 1 => Mod_spreads_B37 (Mod_spreads_L37 n)
theorem e_Mod_spreads_L37 {G : Gx} : ∀ (n : Nat) (x0 : Nat) (x3 : Int32) (M : Mm), EJ G Y_Mod_spreads cvV 3 37 [(0, .ref x0), (3, .int x3)] [] M (Mod_spreads_L37 n x0 x3 M) := by
  intro n
  induction n with
  | zero => intros; exact EJ_none
  | succ n ih => intro x0 x3 M; exact e_Mod_spreads_B37 _ ih x0 x3 M
def Mod_spreads_B2 (k2 : Nat → Int32 → Int32 → Int32 → Mm → Option (Unit × Mm)) (x0 : Nat) (x1 : Int32) (x2 : Int32) (x3 : Int32) (M : Mm) : Option (Unit × Mm) :=
  if 10 ≤ x3 then (
    ck (kO M x0 12 107) (
    nn (mR M x0 7) (fun b2 =>
    ck (kA M b2 20 x1) (
    let M4 := sI M b2 (ix x1) x2
    Mod_spreads_L37 fu x0 0 M4))))
  else (
    ck (kO M x0 12 107) (
    nn (mR M x0 7) (fun b40 =>
    ck (kA M b40 20 x3) (
    let M42 := sI M b40 (ix x3) (-1)
    nn (mR M42 x0 8) (fun b43 =>
    ck (kA M42 b43 22 x3) (
    let M45 := sI M42 b43 (ix x3) 0
    let v46 : Int32 := x3 + 1
    k2 x0 x1 x2 v46 M45))))))
set_option maxRecDepth 100000 in
set_option maxHeartbeats 4000000 in
theorem e_Mod_spreads_B2 {G : Gx} (k2 : Nat → Int32 → Int32 → Int32 → Mm → Option (Unit × Mm)) (hk2 : ∀ (x0 : Nat) (x1 : Int32) (x2 : Int32) (x3 : Int32) (M : Mm), EJ G Y_Mod_spreads cvV 3 2 [(0, .ref x0), (1, .int x1), (2, .int x2), (3, .int x3)] [] M (k2 x0 x1 x2 x3 M)) (x0 : Nat) (x1 : Int32) (x2 : Int32) (x3 : Int32) (M : Mm) : EJ G Y_Mod_spreads cvV 3 2 [(0, .ref x0), (1, .int x1), (2, .int x2), (3, .int x3)] [] M (Mod_spreads_B2 k2 x0 x1 x2 x3 M) := by
  unfold Mod_spreads_B2
  refine EJ_iload_n 3 3 (dk_29 (bt bc_Mod_spreads_0 2 rfl)) rfl rfl ?_
  refine EJ_bipush 5 (dk_16 (bt bc_Mod_spreads_0 3 rfl) (bt bc_Mod_spreads_0 4 rfl) (n := 10) rfl) rfl (v := 10) kB_10 ?_
  refine EJ_icmp_ge 28 8 (dk_162 (bt bc_Mod_spreads_0 5 rfl) (bt bc_Mod_spreads_0 6 rfl) (bt bc_Mod_spreads_0 7 rfl) (n := 23) rfl) (by decide) rfl (fun _ => ?_) (fun _ => ?_)
  · refine EJ_aload_n 29 0 (dk_42 (bt bc_Mod_spreads_0 28 rfl)) rfl rfl ?_
    refine EJ_ck (fun h1 => ?_)
    refine EJ_getR cf12 7 (by decide) 32 tw_1205 (fun _ _ _ => rfl) (dk_180 (bt bc_Mod_spreads_0 29 rfl) (bt bc_Mod_spreads_0 30 rfl) (bt bc_Mod_spreads_0 31 rfl) (n := 26) rfl) rfl (of_decide_eq_true h1) (fun b2 => ?_)
    refine EJ_iload_n 33 1 (dk_27 (bt bc_Mod_spreads_1 0 rfl)) rfl rfl ?_
    refine EJ_iload_n 34 2 (dk_28 (bt bc_Mod_spreads_1 1 rfl)) rfl rfl ?_
    refine EJ_ck (fun h3 => ?_)
    refine EJ_iast 35 h3 (dk_79 (bt bc_Mod_spreads_1 2 rfl)) rfl ?_
    refine EJ_iconst 36 (dk_3 (bt bc_Mod_spreads_1 3 rfl)) rfl (v := 0) kI_0 ?_
    refine EJ_istore_n 37 (lv2 := [(3, .int _), (0, .ref _), (1, .int _), (2, .int _)]) (dk_62 (bt bc_Mod_spreads_1 4 rfl)) rfl (by decide) rfl ?_
    exact EJ_pick (lv2 := [(0, .ref _), (3, .int _)]) [1, 0] rfl (e_Mod_spreads_L37 fu _ _ _)
  · refine EJ_aload_n 9 0 (dk_42 (bt bc_Mod_spreads_0 8 rfl)) rfl rfl ?_
    refine EJ_ck (fun h39 => ?_)
    refine EJ_getR cf12 7 (by decide) 12 tw_1205 (fun _ _ _ => rfl) (dk_180 (bt bc_Mod_spreads_0 9 rfl) (bt bc_Mod_spreads_0 10 rfl) (bt bc_Mod_spreads_0 11 rfl) (n := 26) rfl) rfl (of_decide_eq_true h39) (fun b40 => ?_)
    refine EJ_iload_n 13 3 (dk_29 (bt bc_Mod_spreads_0 12 rfl)) rfl rfl ?_
    refine EJ_iconst 14 (dk_2 (bt bc_Mod_spreads_0 13 rfl)) rfl (v := (-1)) kI_m1 ?_
    refine EJ_ck (fun h41 => ?_)
    refine EJ_iast 15 h41 (dk_79 (bt bc_Mod_spreads_0 14 rfl)) rfl ?_
    refine EJ_aload_n 16 0 (dk_42 (bt bc_Mod_spreads_0 15 rfl)) rfl rfl ?_
    refine EJ_getR cf12 8 (by decide) 19 tw_1206 (fun _ _ _ => rfl) (dk_180 (bt bc_Mod_spreads_0 16 rfl) (bt bc_Mod_spreads_0 17 rfl) (bt bc_Mod_spreads_0 18 rfl) (n := 29) rfl) rfl (kp_I (of_decide_eq_true h39)) (fun b43 => ?_)
    refine EJ_iload_n 20 3 (dk_29 (bt bc_Mod_spreads_0 19 rfl)) rfl rfl ?_
    refine EJ_iconst 21 (dk_3 (bt bc_Mod_spreads_0 20 rfl)) rfl (v := 0) kI_0 ?_
    refine EJ_ck (fun h44 => ?_)
    refine EJ_zast 22 h44 rfl (dk_84 (bt bc_Mod_spreads_0 21 rfl)) rfl ?_
    refine EJ_iinc 25 3 (lv2 := [(3, .int _), (0, .ref _), (1, .int _), (2, .int _)]) (dk_132 (bt bc_Mod_spreads_0 22 rfl) (bt bc_Mod_spreads_0 23 rfl) (bt bc_Mod_spreads_0 24 rfl) (n := 1) rfl) rfl (by decide) rfl (v := 1) kI_1 rfl ?_
    refine EJ_goto 2 (dk_167 (bt bc_Mod_spreads_0 25 rfl) (bt bc_Mod_spreads_0 26 rfl) (bt bc_Mod_spreads_0 27 rfl) (n := -23) rfl) (by decide) ?_
    exact EJ_pick (lv2 := [(0, .ref _), (1, .int _), (2, .int _), (3, .int _)]) [1, 2, 3, 0] rfl (hk2 _ _ _ _ _)
def Mod_spreads_L2 (n : Nat) : Nat → Int32 → Int32 → Int32 → Mm → Option (Unit × Mm) :=
  match n with
  | 0 => fun _ _ _ _ _ => none
  | n + 1 => Mod_spreads_B2 (Mod_spreads_L2 n)
theorem e_Mod_spreads_L2 {G : Gx} : ∀ (n : Nat) (x0 : Nat) (x1 : Int32) (x2 : Int32) (x3 : Int32) (M : Mm), EJ G Y_Mod_spreads cvV 3 2 [(0, .ref x0), (1, .int x1), (2, .int x2), (3, .int x3)] [] M (Mod_spreads_L2 n x0 x1 x2 x3 M) := by
  intro n
  induction n with
  | zero => intros; exact EJ_none
  | succ n ih => intro x0 x1 x2 x3 M; exact e_Mod_spreads_B2 _ ih x0 x1 x2 x3 M
def Mod_spreads (M : Mm) (a0 : Nat) (a1 : Int32) (a2 : Int32) : Option (Unit × Mm) :=
  Mod_spreads_L2 fu a0 a1 a2 0 M
set_option maxRecDepth 100000 in
set_option maxHeartbeats 4000000 in
theorem s_Mod_spreads (G : Gx) (M : Mm) (a0 : Nat) (a1 : Int32) (a2 : Int32) : FnS G Y_Mod_spreads cvV 3 [.ref a0, .int a1, .int a2] M (Mod_spreads M a0 a1 a2) := by
  refine FnS.ofE (by decide) (Nat.le_of_ble_eq_true rfl) ?_
  show EJ G Y_Mod_spreads cvV 3 0 [(0, .ref a0), (1, .int a1), (2, .int a2)] [] M _
  unfold Mod_spreads
  refine EJ_iconst 1 (dk_3 (bt bc_Mod_spreads_0 0 rfl)) rfl (v := 0) kI_0 ?_
  refine EJ_istore_n 2 (lv2 := [(3, .int _), (0, .ref _), (1, .int _), (2, .int _)]) (dk_62 (bt bc_Mod_spreads_0 1 rfl)) rfl (by decide) rfl ?_
  exact EJ_pick (lv2 := [(0, .ref _), (1, .int _), (2, .int _), (3, .int _)]) [1, 2, 3, 0] rfl (e_Mod_spreads_L2 fu _ _ _ _ _)
abbrev Y_Mod_news : Ym := (⟨"RiceHallModel", "news", "(III)I"⟩, prog_14_method_14_code, 4, (some FieldType.int))
theorem bc_Mod_news_0 : bts prog_14_method_14_code 0 [42, 27, 182, 0, 248, 153, 0, 22, 42, 28, 182, 0, 248, 153, 0, 14, 29, 3, 19, 1, 8, 184, 0, 252, 154, 0, 5, 2, 172, 42, 27, 29] := bts_of (by decide +kernel)
theorem bc_Mod_news_1 : bts prog_14_method_14_code 32 [182, 1, 9, 42, 180, 0, 26, 28, 46, 172] := bts_of (by decide +kernel)
theorem hd_Mod_news : Y_Mod_news.1.cls = RX12 ∧ Y_Mod_news.1.cls ≠ "java/lang/invoke/MethodHandle" ∧ Y_Mod_news.1.cls ≠ "java/lang/invoke/VarHandle" ∧ (parseMethodDescriptor Y_Mod_news.1.desc).map (fun d => d.parameters.length) = some 3 := by decide +kernel
def Mod_news (M : Mm) (a0 : Nat) (a1 : Int32) (a2 : Int32) (a3 : Int32) : Option (Int32 × Mm) :=
  ck (kO M a0 12 107) (
  bd (Mod_isTown M a0 a1) (fun r2 M3 =>
  if r2 = 0 then (
    some ((-1), M3))
  else (
    ck (kO M3 a0 12 107) (
    bd (Mod_isTown M3 a0 a2) (fun r5 M6 =>
    if r5 = 0 then (
      some ((-1), M6))
    else (
      bd (Mod_in M6 a3 0 57600) (fun r7 M8 =>
      if r7 = 0 then (
        some ((-1), M8))
      else (
        ck (kO M8 a0 12 107) (
        bd (Mod_spreads M8 a0 a1 a3) (fun _ M11 =>
        ck (kO M11 a0 12 107) (
        nn (mR M11 a0 7) (fun b13 =>
        ck (kA M11 b13 20 a2) (
        some (mI M11 b13 (ix a2), M11))))))))))))))
set_option maxRecDepth 100000 in
set_option maxHeartbeats 4000000 in
theorem s_Mod_news (G : Gx) (M : Mm) (a0 : Nat) (a1 : Int32) (a2 : Int32) (a3 : Int32) : FnS G Y_Mod_news cvI 4 [.ref a0, .int a1, .int a2, .int a3] M (Mod_news M a0 a1 a2 a3) := by
  refine FnS.ofE (by decide) (Nat.le_of_ble_eq_true rfl) ?_
  show EJ G Y_Mod_news cvI 4 0 [(0, .ref a0), (1, .int a1), (2, .int a2), (3, .int a3)] [] M _
  unfold Mod_news
  refine EJ_aload_n 1 0 (dk_42 (bt bc_Mod_news_0 0 rfl)) rfl rfl ?_
  refine EJ_iload_n 2 1 (dk_27 (bt bc_Mod_news_0 1 rfl)) rfl rfl ?_
  refine EJ_ck (fun h1 => ?_)
  refine EJ_callVi (Y2 := Y_Mod_isTown) 5 cf12 (s_Mod_isTown G _ _ _) (of_decide_eq_true h1) rfl (dk_182 (bt bc_Mod_news_0 2 rfl) (bt bc_Mod_news_0 3 rfl) (bt bc_Mod_news_0 4 rfl) (n := 248) rfl) rfl tw_1528 tw_1530 ts_36 tw_1531 hd_Mod_isTown rfl (by decide) (Nat.le_of_ble_eq_true rfl) (fun r2 M3 => ?_)
  refine EJ_if_eq 27 8 (dk_153 (bt bc_Mod_news_0 5 rfl) (bt bc_Mod_news_0 6 rfl) (bt bc_Mod_news_0 7 rfl) (n := 22) rfl) (by decide) rfl (fun _ => ?_) (fun _ => ?_)
  · refine EJ_iconst 28 (dk_2 (bt bc_Mod_news_0 27 rfl)) rfl (v := (-1)) kI_m1 ?_
    exact EJ_iret rfl (dk_172 (bt bc_Mod_news_0 28 rfl))
  · refine EJ_aload_n 9 0 (dk_42 (bt bc_Mod_news_0 8 rfl)) rfl rfl ?_
    refine EJ_iload_n 10 2 (dk_28 (bt bc_Mod_news_0 9 rfl)) rfl rfl ?_
    refine EJ_ck (fun h4 => ?_)
    refine EJ_callVi (Y2 := Y_Mod_isTown) 13 cf12 (s_Mod_isTown G _ _ _) (of_decide_eq_true h4) rfl (dk_182 (bt bc_Mod_news_0 10 rfl) (bt bc_Mod_news_0 11 rfl) (bt bc_Mod_news_0 12 rfl) (n := 248) rfl) rfl tw_1528 tw_1530 ts_36 tw_1531 hd_Mod_isTown rfl (by decide) (Nat.le_of_ble_eq_true rfl) (fun r5 M6 => ?_)
    refine EJ_if_eq 27 16 (dk_153 (bt bc_Mod_news_0 13 rfl) (bt bc_Mod_news_0 14 rfl) (bt bc_Mod_news_0 15 rfl) (n := 14) rfl) (by decide) rfl (fun _ => ?_) (fun _ => ?_)
    · refine EJ_iconst 28 (dk_2 (bt bc_Mod_news_0 27 rfl)) rfl (v := (-1)) kI_m1 ?_
      exact EJ_iret rfl (dk_172 (bt bc_Mod_news_0 28 rfl))
    · refine EJ_iload_n 17 3 (dk_29 (bt bc_Mod_news_0 16 rfl)) rfl rfl ?_
      refine EJ_iconst 18 (dk_3 (bt bc_Mod_news_0 17 rfl)) rfl (v := 0) kI_0 ?_
      refine EJ_ldcw 21 (dk_19 (bt bc_Mod_news_0 18 rfl) (bt bc_Mod_news_0 19 rfl) (bt bc_Mod_news_0 20 rfl) (n := 264) rfl) rfl tw_1543 ?_
      refine EJ_callSi (Y2 := Y_Mod_in) 24 (s_Mod_in G _ _ _ _) rfl (dk_184 (bt bc_Mod_news_0 21 rfl) (bt bc_Mod_news_0 22 rfl) (bt bc_Mod_news_0 23 rfl) (n := 252) rfl) rfl tw_1532 tw_1533 tw_8 tw_1534 hd_Mod_in rfl (by decide) (Nat.le_of_ble_eq_true rfl) (fun r7 M8 => ?_)
      refine EJ_if_ne 29 27 (dk_154 (bt bc_Mod_news_0 24 rfl) (bt bc_Mod_news_0 25 rfl) (bt bc_Mod_news_0 26 rfl) (n := 5) rfl) (by decide) rfl (fun _ => ?_) (fun _ => ?_)
      · refine EJ_aload_n 30 0 (dk_42 (bt bc_Mod_news_0 29 rfl)) rfl rfl ?_
        refine EJ_iload_n 31 1 (dk_27 (bt bc_Mod_news_0 30 rfl)) rfl rfl ?_
        refine EJ_iload_n 32 3 (dk_29 (bt bc_Mod_news_0 31 rfl)) rfl rfl ?_
        refine EJ_ck (fun h9 => ?_)
        refine EJ_callVv (Y2 := Y_Mod_spreads) 35 cf12 (s_Mod_spreads G _ _ _ _) (of_decide_eq_true h9) rfl (dk_182 (bt bc_Mod_news_1 0 rfl) (bt bc_Mod_news_1 1 rfl) (bt bc_Mod_news_1 2 rfl) (n := 265) rfl) rfl tw_1544 tw_1546 ts_37 tw_1547 hd_Mod_spreads rfl (by decide) (Nat.le_of_ble_eq_true rfl) (fun _ M11 => ?_)
        refine EJ_aload_n 36 0 (dk_42 (bt bc_Mod_news_1 3 rfl)) rfl rfl ?_
        refine EJ_ck (fun h12 => ?_)
        refine EJ_getR cf12 7 (by decide) 39 tw_1205 (fun _ _ _ => rfl) (dk_180 (bt bc_Mod_news_1 4 rfl) (bt bc_Mod_news_1 5 rfl) (bt bc_Mod_news_1 6 rfl) (n := 26) rfl) rfl (of_decide_eq_true h12) (fun b13 => ?_)
        refine EJ_iload_n 40 2 (dk_28 (bt bc_Mod_news_1 7 rfl)) rfl rfl ?_
        refine EJ_ck (fun h14 => ?_)
        refine EJ_iald 41 h14 (dk_46 (bt bc_Mod_news_1 8 rfl)) rfl ?_
        exact EJ_iret rfl (dk_172 (bt bc_Mod_news_1 9 rfl))
      · refine EJ_iconst 28 (dk_2 (bt bc_Mod_news_0 27 rfl)) rfl (v := (-1)) kI_m1 ?_
        exact EJ_iret rfl (dk_172 (bt bc_Mod_news_0 28 rfl))
abbrev Y_Mod_person : Ym := (⟨"RiceHallModel", "person", "(I)I"⟩, prog_14_method_16_code, 2, (some FieldType.int))
theorem bc_Mod_person_0 : bts prog_14_method_16_code 0 [42, 27, 182, 0, 248, 153, 0, 12, 42, 180, 1, 13, 16, 16, 160, 0, 5, 2, 172, 42, 180, 0, 33, 42, 180, 1, 13, 27, 79, 42, 180, 0] := bts_of (by decide +kernel)
theorem bc_Mod_person_1 : bts prog_14_method_16_code 32 [42, 42, 180, 1, 13, 2, 79, 42, 89, 180, 1, 13, 4, 96, 181, 1, 13, 42, 180, 1, 13, 4, 100, 172] := bts_of (by decide +kernel)
theorem hd_Mod_person : Y_Mod_person.1.cls = RX12 ∧ Y_Mod_person.1.cls ≠ "java/lang/invoke/MethodHandle" ∧ Y_Mod_person.1.cls ≠ "java/lang/invoke/VarHandle" ∧ (parseMethodDescriptor Y_Mod_person.1.desc).map (fun d => d.parameters.length) = some 1 := by decide +kernel
def Mod_person (M : Mm) (a0 : Nat) (a1 : Int32) : Option (Int32 × Mm) :=
  ck (kO M a0 12 107) (
  bd (Mod_isTown M a0 a1) (fun r2 M3 =>
  if r2 = 0 then (
    some ((-1), M3))
  else (
    ck (kO M3 a0 12 107) (
    if (mI M3 a0 9) = 16 then (
      some ((-1), M3))
    else (
      nn (mR M3 a0 10) (fun b5 =>
      ck (kA M3 b5 20 (mI M3 a0 9)) (
      let M7 := sI M3 b5 (ix (mI M3 a0 9)) a1
      nn (mR M7 a0 13) (fun b8 =>
      ck (kA M7 b8 20 (mI M7 a0 9)) (
      let M10 := sI M7 b8 (ix (mI M7 a0 9)) (-1)
      let M11 := sI M10 a0 9 ((mI M10 a0 9) + 1)
      some ((mI M11 a0 9) - 1, M11))))))))))
set_option maxRecDepth 100000 in
set_option maxHeartbeats 4000000 in
theorem s_Mod_person (G : Gx) (M : Mm) (a0 : Nat) (a1 : Int32) : FnS G Y_Mod_person cvI 2 [.ref a0, .int a1] M (Mod_person M a0 a1) := by
  refine FnS.ofE (by decide) (Nat.le_of_ble_eq_true rfl) ?_
  show EJ G Y_Mod_person cvI 2 0 [(0, .ref a0), (1, .int a1)] [] M _
  unfold Mod_person
  refine EJ_aload_n 1 0 (dk_42 (bt bc_Mod_person_0 0 rfl)) rfl rfl ?_
  refine EJ_iload_n 2 1 (dk_27 (bt bc_Mod_person_0 1 rfl)) rfl rfl ?_
  refine EJ_ck (fun h1 => ?_)
  refine EJ_callVi (Y2 := Y_Mod_isTown) 5 cf12 (s_Mod_isTown G _ _ _) (of_decide_eq_true h1) rfl (dk_182 (bt bc_Mod_person_0 2 rfl) (bt bc_Mod_person_0 3 rfl) (bt bc_Mod_person_0 4 rfl) (n := 248) rfl) rfl tw_1528 tw_1530 ts_36 tw_1531 hd_Mod_isTown rfl (by decide) (Nat.le_of_ble_eq_true rfl) (fun r2 M3 => ?_)
  refine EJ_if_eq 17 8 (dk_153 (bt bc_Mod_person_0 5 rfl) (bt bc_Mod_person_0 6 rfl) (bt bc_Mod_person_0 7 rfl) (n := 12) rfl) (by decide) rfl (fun _ => ?_) (fun _ => ?_)
  · refine EJ_iconst 18 (dk_2 (bt bc_Mod_person_0 17 rfl)) rfl (v := (-1)) kI_m1 ?_
    exact EJ_iret rfl (dk_172 (bt bc_Mod_person_0 18 rfl))
  · refine EJ_aload_n 9 0 (dk_42 (bt bc_Mod_person_0 8 rfl)) rfl rfl ?_
    refine EJ_ck (fun h4 => ?_)
    refine EJ_getI cf12 9 (by decide) 12 tw_1207 (fun _ _ _ => rfl) (dk_180 (bt bc_Mod_person_0 9 rfl) (bt bc_Mod_person_0 10 rfl) (bt bc_Mod_person_0 11 rfl) (n := 269) rfl) rfl (of_decide_eq_true h4) ?_
    refine EJ_bipush 14 (dk_16 (bt bc_Mod_person_0 12 rfl) (bt bc_Mod_person_0 13 rfl) (n := 16) rfl) rfl (v := 16) kB_16 ?_
    refine EJ_icmp_ne 19 17 (dk_160 (bt bc_Mod_person_0 14 rfl) (bt bc_Mod_person_0 15 rfl) (bt bc_Mod_person_0 16 rfl) (n := 5) rfl) (by decide) rfl (fun _ => ?_) (fun _ => ?_)
    · refine EJ_aload_n 20 0 (dk_42 (bt bc_Mod_person_0 19 rfl)) rfl rfl ?_
      refine EJ_getR cf12 10 (by decide) 23 tw_1208 (fun _ _ _ => rfl) (dk_180 (bt bc_Mod_person_0 20 rfl) (bt bc_Mod_person_0 21 rfl) (bt bc_Mod_person_0 22 rfl) (n := 33) rfl) rfl (of_decide_eq_true h4) (fun b5 => ?_)
      refine EJ_aload_n 24 0 (dk_42 (bt bc_Mod_person_0 23 rfl)) rfl rfl ?_
      refine EJ_getI cf12 9 (by decide) 27 tw_1207 (fun _ _ _ => rfl) (dk_180 (bt bc_Mod_person_0 24 rfl) (bt bc_Mod_person_0 25 rfl) (bt bc_Mod_person_0 26 rfl) (n := 269) rfl) rfl (of_decide_eq_true h4) ?_
      refine EJ_iload_n 28 1 (dk_27 (bt bc_Mod_person_0 27 rfl)) rfl rfl ?_
      refine EJ_ck (fun h6 => ?_)
      refine EJ_iast 29 h6 (dk_79 (bt bc_Mod_person_0 28 rfl)) rfl ?_
      refine EJ_aload_n 30 0 (dk_42 (bt bc_Mod_person_0 29 rfl)) rfl rfl ?_
      refine EJ_getR cf12 13 (by decide) 33 tw_1211 (fun _ _ _ => rfl) (dk_180 (bt bc_Mod_person_0 30 rfl) (bt bc_Mod_person_0 31 rfl) (bt bc_Mod_person_1 0 rfl) (n := 42) rfl) rfl (kp_I (of_decide_eq_true h4)) (fun b8 => ?_)
      refine EJ_aload_n 34 0 (dk_42 (bt bc_Mod_person_1 1 rfl)) rfl rfl ?_
      refine EJ_getI cf12 9 (by decide) 37 tw_1207 (fun _ _ _ => rfl) (dk_180 (bt bc_Mod_person_1 2 rfl) (bt bc_Mod_person_1 3 rfl) (bt bc_Mod_person_1 4 rfl) (n := 269) rfl) rfl (kp_I (of_decide_eq_true h4)) ?_
      refine EJ_iconst 38 (dk_2 (bt bc_Mod_person_1 5 rfl)) rfl (v := (-1)) kI_m1 ?_
      refine EJ_ck (fun h9 => ?_)
      refine EJ_iast 39 h9 (dk_79 (bt bc_Mod_person_1 6 rfl)) rfl ?_
      refine EJ_aload_n 40 0 (dk_42 (bt bc_Mod_person_1 7 rfl)) rfl rfl ?_
      refine EJ_dup 41 (dk_89 (bt bc_Mod_person_1 8 rfl)) rfl rfl ?_
      refine EJ_getI cf12 9 (by decide) 44 tw_1207 (fun _ _ _ => rfl) (dk_180 (bt bc_Mod_person_1 9 rfl) (bt bc_Mod_person_1 10 rfl) (bt bc_Mod_person_1 11 rfl) (n := 269) rfl) rfl (kp_I (kp_I (of_decide_eq_true h4))) ?_
      refine EJ_iconst 45 (dk_4 (bt bc_Mod_person_1 12 rfl)) rfl (v := 1) kI_1 ?_
      refine EJ_iadd 46 (dk_96 (bt bc_Mod_person_1 13 rfl)) rfl ?_
      refine EJ_putI cf12 9 (by decide) 49 tw_1207 rfl (Or.inl rfl) (dk_181 (bt bc_Mod_person_1 14 rfl) (bt bc_Mod_person_1 15 rfl) (bt bc_Mod_person_1 16 rfl) (n := 269) rfl) rfl (kp_I (kp_I (of_decide_eq_true h4))) ?_
      refine EJ_aload_n 50 0 (dk_42 (bt bc_Mod_person_1 17 rfl)) rfl rfl ?_
      refine EJ_getI cf12 9 (by decide) 53 tw_1207 (fun _ _ _ => rfl) (dk_180 (bt bc_Mod_person_1 18 rfl) (bt bc_Mod_person_1 19 rfl) (bt bc_Mod_person_1 20 rfl) (n := 269) rfl) rfl (kp_I (kp_I (kp_I (of_decide_eq_true h4)))) ?_
      refine EJ_iconst 54 (dk_4 (bt bc_Mod_person_1 21 rfl)) rfl (v := 1) kI_1 ?_
      refine EJ_isub 55 (dk_100 (bt bc_Mod_person_1 22 rfl)) rfl ?_
      exact EJ_iret rfl (dk_172 (bt bc_Mod_person_1 23 rfl))
    · refine EJ_iconst 18 (dk_2 (bt bc_Mod_person_0 17 rfl)) rfl (v := (-1)) kI_m1 ?_
      exact EJ_iret rfl (dk_172 (bt bc_Mod_person_0 18 rfl))
abbrev Y_Mod_hears : Ym := (⟨"RiceHallModel", "hears", "(III)I"⟩, prog_14_method_17_code, 9, (some FieldType.int))
theorem bc_Mod_hears_0 : bts prog_14_method_17_code 0 [42, 27, 182, 0, 248, 153, 0, 18, 28, 3, 19, 1, 8, 184, 0, 252, 153, 0, 7, 29, 156, 0, 5, 2, 172, 42, 27, 28, 182, 1, 9, 3] := bts_of (by decide +kernel)
theorem bc_Mod_hears_1 : bts prog_14_method_17_code 32 [54, 4, 21, 4, 42, 180, 1, 13, 162, 0, 104, 42, 180, 0, 26, 42, 180, 0, 33, 21, 4, 46, 46, 54, 5, 21, 5, 156, 0, 6, 167, 0] := bts_of (by decide +kernel)
theorem bc_Mod_hears_2 : bts prog_14_method_17_code 64 [76, 3, 54, 6, 3, 54, 7, 21, 7, 42, 180, 1, 13, 162, 0, 52, 42, 180, 0, 26, 42, 180, 0, 33, 21, 7, 46, 46, 54, 8, 21, 8] := bts_of (by decide +kernel)
theorem bc_Mod_hears_3 : bts prog_14_method_17_code 96 [155, 0, 27, 21, 8, 21, 5, 161, 0, 17, 21, 8, 21, 5, 160, 0, 13, 21, 7, 21, 4, 162, 0, 6, 132, 6, 1, 132, 7, 1, 167, 255] := bts_of (by decide +kernel)
theorem bc_Mod_hears_4 : bts prog_14_method_17_code 128 [201, 21, 6, 29, 160, 0, 6, 21, 4, 172, 132, 4, 1, 167, 255, 149, 2, 172] := bts_of (by decide +kernel)
theorem hd_Mod_hears : Y_Mod_hears.1.cls = RX12 ∧ Y_Mod_hears.1.cls ≠ "java/lang/invoke/MethodHandle" ∧ Y_Mod_hears.1.cls ≠ "java/lang/invoke/VarHandle" ∧ (parseMethodDescriptor Y_Mod_hears.1.desc).map (fun d => d.parameters.length) = some 3 := by decide +kernel
def Mod_hears_J138 (k34 : Nat → Int32 → Int32 → Mm → Option (Int32 × Mm)) (x0 : Nat) (x3 : Int32) (x4 : Int32) (M : Mm) : Option (Int32 × Mm) :=
  let v16 : Int32 := x4 + 1
  k34 x0 x3 v16 M
set_option maxRecDepth 100000 in
set_option maxHeartbeats 4000000 in
theorem e_Mod_hears_J138 {G : Gx} (k34 : Nat → Int32 → Int32 → Mm → Option (Int32 × Mm)) (hk34 : ∀ (x0 : Nat) (x3 : Int32) (x4 : Int32) (M : Mm), EJ G Y_Mod_hears cvI 4 34 [(0, .ref x0), (3, .int x3), (4, .int x4)] [] M (k34 x0 x3 x4 M)) (x0 : Nat) (x3 : Int32) (x4 : Int32) (M : Mm) : EJ G Y_Mod_hears cvI 4 138 [(0, .ref x0), (3, .int x3), (4, .int x4)] [] M (Mod_hears_J138 k34 x0 x3 x4 M) := by
  unfold Mod_hears_J138
  refine EJ_iinc 141 2 (lv2 := [(4, .int _), (0, .ref _), (3, .int _)]) (dk_132 (bt bc_Mod_hears_4 10 rfl) (bt bc_Mod_hears_4 11 rfl) (bt bc_Mod_hears_4 12 rfl) (n := 1) rfl) rfl (by decide) rfl (v := 1) kI_1 rfl ?_
  refine EJ_goto 34 (dk_167 (bt bc_Mod_hears_4 13 rfl) (bt bc_Mod_hears_4 14 rfl) (bt bc_Mod_hears_4 15 rfl) (n := -107) rfl) (by decide) ?_
  exact EJ_pick (lv2 := [(0, .ref _), (3, .int _), (4, .int _)]) [1, 2, 0] rfl (hk34 _ _ _ _)
def Mod_hears_J123 (k34 : Nat → Int32 → Int32 → Mm → Option (Int32 × Mm)) (k71 : Nat → Int32 → Int32 → Int32 → Int32 → Int32 → Mm → Option (Int32 × Mm)) (x0 : Nat) (x3 : Int32) (x4 : Int32) (x5 : Int32) (x6 : Int32) (x7 : Int32) (M : Mm) : Option (Int32 × Mm) :=
  let v22 : Int32 := x7 + 1
  k71 x0 x3 x4 x5 x6 v22 M
set_option maxRecDepth 100000 in
set_option maxHeartbeats 4000000 in
theorem e_Mod_hears_J123 {G : Gx} (k34 : Nat → Int32 → Int32 → Mm → Option (Int32 × Mm)) (k71 : Nat → Int32 → Int32 → Int32 → Int32 → Int32 → Mm → Option (Int32 × Mm)) (hk34 : ∀ (x0 : Nat) (x3 : Int32) (x4 : Int32) (M : Mm), EJ G Y_Mod_hears cvI 4 34 [(0, .ref x0), (3, .int x3), (4, .int x4)] [] M (k34 x0 x3 x4 M)) (hk71 : ∀ (x0 : Nat) (x3 : Int32) (x4 : Int32) (x5 : Int32) (x6 : Int32) (x7 : Int32) (M : Mm), EJ G Y_Mod_hears cvI 4 71 [(0, .ref x0), (3, .int x3), (4, .int x4), (5, .int x5), (6, .int x6), (7, .int x7)] [] M (k71 x0 x3 x4 x5 x6 x7 M)) (x0 : Nat) (x3 : Int32) (x4 : Int32) (x5 : Int32) (x6 : Int32) (x7 : Int32) (M : Mm) : EJ G Y_Mod_hears cvI 4 123 [(0, .ref x0), (3, .int x3), (4, .int x4), (5, .int x5), (6, .int x6), (7, .int x7)] [] M (Mod_hears_J123 k34 k71 x0 x3 x4 x5 x6 x7 M) := by
  unfold Mod_hears_J123
  refine EJ_iinc 126 5 (lv2 := [(7, .int _), (0, .ref _), (3, .int _), (4, .int _), (5, .int _), (6, .int _)]) (dk_132 (bt bc_Mod_hears_3 27 rfl) (bt bc_Mod_hears_3 28 rfl) (bt bc_Mod_hears_3 29 rfl) (n := 1) rfl) rfl (by decide) rfl (v := 1) kI_1 rfl ?_
  refine EJ_goto 71 (dk_167 (bt bc_Mod_hears_3 30 rfl) (bt bc_Mod_hears_3 31 rfl) (bt bc_Mod_hears_4 0 rfl) (n := -55) rfl) (by decide) ?_
  exact EJ_pick (lv2 := [(0, .ref _), (3, .int _), (4, .int _), (5, .int _), (6, .int _), (7, .int _)]) [1, 2, 3, 4, 5, 0] rfl (hk71 _ _ _ _ _ _ _)
def Mod_hears_J120 (k34 : Nat → Int32 → Int32 → Mm → Option (Int32 × Mm)) (k71 : Nat → Int32 → Int32 → Int32 → Int32 → Int32 → Mm → Option (Int32 × Mm)) (x0 : Nat) (x3 : Int32) (x4 : Int32) (x5 : Int32) (x6 : Int32) (x7 : Int32) (M : Mm) : Option (Int32 × Mm) :=
  let v23 : Int32 := x6 + 1
  Mod_hears_J123 k34 k71 x0 x3 x4 x5 v23 x7 M
set_option maxRecDepth 100000 in
set_option maxHeartbeats 4000000 in
theorem e_Mod_hears_J120 {G : Gx} (k34 : Nat → Int32 → Int32 → Mm → Option (Int32 × Mm)) (k71 : Nat → Int32 → Int32 → Int32 → Int32 → Int32 → Mm → Option (Int32 × Mm)) (hk34 : ∀ (x0 : Nat) (x3 : Int32) (x4 : Int32) (M : Mm), EJ G Y_Mod_hears cvI 4 34 [(0, .ref x0), (3, .int x3), (4, .int x4)] [] M (k34 x0 x3 x4 M)) (hk71 : ∀ (x0 : Nat) (x3 : Int32) (x4 : Int32) (x5 : Int32) (x6 : Int32) (x7 : Int32) (M : Mm), EJ G Y_Mod_hears cvI 4 71 [(0, .ref x0), (3, .int x3), (4, .int x4), (5, .int x5), (6, .int x6), (7, .int x7)] [] M (k71 x0 x3 x4 x5 x6 x7 M)) (x0 : Nat) (x3 : Int32) (x4 : Int32) (x5 : Int32) (x6 : Int32) (x7 : Int32) (M : Mm) : EJ G Y_Mod_hears cvI 4 120 [(0, .ref x0), (3, .int x3), (4, .int x4), (5, .int x5), (6, .int x6), (7, .int x7)] [] M (Mod_hears_J120 k34 k71 x0 x3 x4 x5 x6 x7 M) := by
  unfold Mod_hears_J120
  refine EJ_iinc 123 4 (lv2 := [(6, .int _), (0, .ref _), (3, .int _), (4, .int _), (5, .int _), (7, .int _)]) (dk_132 (bt bc_Mod_hears_3 24 rfl) (bt bc_Mod_hears_3 25 rfl) (bt bc_Mod_hears_3 26 rfl) (n := 1) rfl) rfl (by decide) rfl (v := 1) kI_1 rfl ?_
  exact EJ_pick (lv2 := [(0, .ref _), (3, .int _), (4, .int _), (5, .int _), (6, .int _), (7, .int _)]) [1, 2, 3, 4, 0, 5] rfl (e_Mod_hears_J123 k34 k71 hk34 hk71 _ _ _ _ _ _ _)
def Mod_hears_B71 (k34 : Nat → Int32 → Int32 → Mm → Option (Int32 × Mm)) (k71 : Nat → Int32 → Int32 → Int32 → Int32 → Int32 → Mm → Option (Int32 × Mm)) (x0 : Nat) (x3 : Int32) (x4 : Int32) (x5 : Int32) (x6 : Int32) (x7 : Int32) (M : Mm) : Option (Int32 × Mm) :=
  ck (kO M x0 12 107) (
  if (mI M x0 9) ≤ x7 then (
    if x6 = x3 then (
      some (x4, M))
    else (
      Mod_hears_J138 k34 x0 x3 x4 M))
  else (
    nn (mR M x0 7) (fun b17 =>
    nn (mR M x0 10) (fun b18 =>
    ck (kA M b18 20 x7) (
    ck (kA M b17 20 (mI M b18 (ix x7))) (
    let v21 : Int32 := mI M b17 (ix (mI M b18 (ix x7)))
    if v21 < 0 then (
      Mod_hears_J123 k34 k71 x0 x3 x4 x5 x6 x7 M)
    else (
      if v21 < x5 then (
        Mod_hears_J120 k34 k71 x0 x3 x4 x5 x6 x7 M)
      else (
        if v21 = x5 then (
          if x4 ≤ x7 then (
            Mod_hears_J123 k34 k71 x0 x3 x4 x5 x6 x7 M)
          else (
            Mod_hears_J120 k34 k71 x0 x3 x4 x5 x6 x7 M))
        else (
          Mod_hears_J123 k34 k71 x0 x3 x4 x5 x6 x7 M)))))))))
set_option maxRecDepth 100000 in
set_option maxHeartbeats 4000000 in
theorem e_Mod_hears_B71 {G : Gx} (k34 : Nat → Int32 → Int32 → Mm → Option (Int32 × Mm)) (k71 : Nat → Int32 → Int32 → Int32 → Int32 → Int32 → Mm → Option (Int32 × Mm)) (hk34 : ∀ (x0 : Nat) (x3 : Int32) (x4 : Int32) (M : Mm), EJ G Y_Mod_hears cvI 4 34 [(0, .ref x0), (3, .int x3), (4, .int x4)] [] M (k34 x0 x3 x4 M)) (hk71 : ∀ (x0 : Nat) (x3 : Int32) (x4 : Int32) (x5 : Int32) (x6 : Int32) (x7 : Int32) (M : Mm), EJ G Y_Mod_hears cvI 4 71 [(0, .ref x0), (3, .int x3), (4, .int x4), (5, .int x5), (6, .int x6), (7, .int x7)] [] M (k71 x0 x3 x4 x5 x6 x7 M)) (x0 : Nat) (x3 : Int32) (x4 : Int32) (x5 : Int32) (x6 : Int32) (x7 : Int32) (M : Mm) : EJ G Y_Mod_hears cvI 4 71 [(0, .ref x0), (3, .int x3), (4, .int x4), (5, .int x5), (6, .int x6), (7, .int x7)] [] M (Mod_hears_B71 k34 k71 x0 x3 x4 x5 x6 x7 M) := by
  unfold Mod_hears_B71
  refine EJ_iload 73 5 (dk_21 (bt bc_Mod_hears_2 7 rfl) (bt bc_Mod_hears_2 8 rfl)) rfl rfl ?_
  refine EJ_aload_n 74 0 (dk_42 (bt bc_Mod_hears_2 9 rfl)) rfl rfl ?_
  refine EJ_ck (fun h15 => ?_)
  refine EJ_getI cf12 9 (by decide) 77 tw_1207 (fun _ _ _ => rfl) (dk_180 (bt bc_Mod_hears_2 10 rfl) (bt bc_Mod_hears_2 11 rfl) (bt bc_Mod_hears_2 12 rfl) (n := 269) rfl) rfl (of_decide_eq_true h15) ?_
  refine EJ_icmp_ge 129 80 (dk_162 (bt bc_Mod_hears_2 13 rfl) (bt bc_Mod_hears_2 14 rfl) (bt bc_Mod_hears_2 15 rfl) (n := 52) rfl) (by decide) rfl (fun _ => ?_) (fun _ => ?_)
  · refine EJ_iload 131 4 (dk_21 (bt bc_Mod_hears_4 1 rfl) (bt bc_Mod_hears_4 2 rfl)) rfl rfl ?_
    refine EJ_iload_n 132 1 (dk_29 (bt bc_Mod_hears_4 3 rfl)) rfl rfl ?_
    refine EJ_icmp_ne 138 135 (dk_160 (bt bc_Mod_hears_4 4 rfl) (bt bc_Mod_hears_4 5 rfl) (bt bc_Mod_hears_4 6 rfl) (n := 6) rfl) (by decide) rfl (fun _ => ?_) (fun _ => ?_)
    · exact EJ_pick (lv2 := [(0, .ref _), (3, .int _), (4, .int _)]) [0, 1, 2] rfl (e_Mod_hears_J138 k34 hk34 _ _ _ _)
    · refine EJ_iload 137 2 (dk_21 (bt bc_Mod_hears_4 7 rfl) (bt bc_Mod_hears_4 8 rfl)) rfl rfl ?_
      exact EJ_iret rfl (dk_172 (bt bc_Mod_hears_4 9 rfl))
  · refine EJ_aload_n 81 0 (dk_42 (bt bc_Mod_hears_2 16 rfl)) rfl rfl ?_
    refine EJ_getR cf12 7 (by decide) 84 tw_1205 (fun _ _ _ => rfl) (dk_180 (bt bc_Mod_hears_2 17 rfl) (bt bc_Mod_hears_2 18 rfl) (bt bc_Mod_hears_2 19 rfl) (n := 26) rfl) rfl (of_decide_eq_true h15) (fun b17 => ?_)
    refine EJ_aload_n 85 0 (dk_42 (bt bc_Mod_hears_2 20 rfl)) rfl rfl ?_
    refine EJ_getR cf12 10 (by decide) 88 tw_1208 (fun _ _ _ => rfl) (dk_180 (bt bc_Mod_hears_2 21 rfl) (bt bc_Mod_hears_2 22 rfl) (bt bc_Mod_hears_2 23 rfl) (n := 33) rfl) rfl (of_decide_eq_true h15) (fun b18 => ?_)
    refine EJ_iload 90 5 (dk_21 (bt bc_Mod_hears_2 24 rfl) (bt bc_Mod_hears_2 25 rfl)) rfl rfl ?_
    refine EJ_ck (fun h19 => ?_)
    refine EJ_iald 91 h19 (dk_46 (bt bc_Mod_hears_2 26 rfl)) rfl ?_
    refine EJ_ck (fun h20 => ?_)
    refine EJ_iald 92 h20 (dk_46 (bt bc_Mod_hears_2 27 rfl)) rfl ?_
    refine EJ_istore 94 (lv2 := [(8, .int _), (0, .ref _), (3, .int _), (4, .int _), (5, .int _), (6, .int _), (7, .int _)]) (dk_54 (bt bc_Mod_hears_2 28 rfl) (bt bc_Mod_hears_2 29 rfl)) rfl (by decide) rfl ?_
    refine EJ_iload 96 0 (dk_21 (bt bc_Mod_hears_2 30 rfl) (bt bc_Mod_hears_2 31 rfl)) rfl rfl ?_
    refine EJ_if_lt 123 99 (dk_155 (bt bc_Mod_hears_3 0 rfl) (bt bc_Mod_hears_3 1 rfl) (bt bc_Mod_hears_3 2 rfl) (n := 27) rfl) (by decide) rfl (fun _ => ?_) (fun _ => ?_)
    · exact EJ_pick (lv2 := [(0, .ref _), (3, .int _), (4, .int _), (5, .int _), (6, .int _), (7, .int _)]) [1, 2, 3, 4, 5, 6] rfl (e_Mod_hears_J123 k34 k71 hk34 hk71 _ _ _ _ _ _ _)
    · refine EJ_iload 101 0 (dk_21 (bt bc_Mod_hears_3 3 rfl) (bt bc_Mod_hears_3 4 rfl)) rfl rfl ?_
      refine EJ_iload 103 4 (dk_21 (bt bc_Mod_hears_3 5 rfl) (bt bc_Mod_hears_3 6 rfl)) rfl rfl ?_
      refine EJ_icmp_lt 120 106 (dk_161 (bt bc_Mod_hears_3 7 rfl) (bt bc_Mod_hears_3 8 rfl) (bt bc_Mod_hears_3 9 rfl) (n := 17) rfl) (by decide) rfl (fun _ => ?_) (fun _ => ?_)
      · exact EJ_pick (lv2 := [(0, .ref _), (3, .int _), (4, .int _), (5, .int _), (6, .int _), (7, .int _)]) [1, 2, 3, 4, 5, 6] rfl (e_Mod_hears_J120 k34 k71 hk34 hk71 _ _ _ _ _ _ _)
      · refine EJ_iload 108 0 (dk_21 (bt bc_Mod_hears_3 10 rfl) (bt bc_Mod_hears_3 11 rfl)) rfl rfl ?_
        refine EJ_iload 110 4 (dk_21 (bt bc_Mod_hears_3 12 rfl) (bt bc_Mod_hears_3 13 rfl)) rfl rfl ?_
        refine EJ_icmp_ne 123 113 (dk_160 (bt bc_Mod_hears_3 14 rfl) (bt bc_Mod_hears_3 15 rfl) (bt bc_Mod_hears_3 16 rfl) (n := 13) rfl) (by decide) rfl (fun _ => ?_) (fun _ => ?_)
        · exact EJ_pick (lv2 := [(0, .ref _), (3, .int _), (4, .int _), (5, .int _), (6, .int _), (7, .int _)]) [1, 2, 3, 4, 5, 6] rfl (e_Mod_hears_J123 k34 k71 hk34 hk71 _ _ _ _ _ _ _)
        · refine EJ_iload 115 6 (dk_21 (bt bc_Mod_hears_3 17 rfl) (bt bc_Mod_hears_3 18 rfl)) rfl rfl ?_
          refine EJ_iload 117 3 (dk_21 (bt bc_Mod_hears_3 19 rfl) (bt bc_Mod_hears_3 20 rfl)) rfl rfl ?_
          refine EJ_icmp_ge 123 120 (dk_162 (bt bc_Mod_hears_3 21 rfl) (bt bc_Mod_hears_3 22 rfl) (bt bc_Mod_hears_3 23 rfl) (n := 6) rfl) (by decide) rfl (fun _ => ?_) (fun _ => ?_)
          · exact EJ_pick (lv2 := [(0, .ref _), (3, .int _), (4, .int _), (5, .int _), (6, .int _), (7, .int _)]) [1, 2, 3, 4, 5, 6] rfl (e_Mod_hears_J123 k34 k71 hk34 hk71 _ _ _ _ _ _ _)
          · exact EJ_pick (lv2 := [(0, .ref _), (3, .int _), (4, .int _), (5, .int _), (6, .int _), (7, .int _)]) [1, 2, 3, 4, 5, 6] rfl (e_Mod_hears_J120 k34 k71 hk34 hk71 _ _ _ _ _ _ _)
def Mod_hears_L71 (k34 : Nat → Int32 → Int32 → Mm → Option (Int32 × Mm)) (n : Nat) : Nat → Int32 → Int32 → Int32 → Int32 → Int32 → Mm → Option (Int32 × Mm) :=
  match n with
  | 0 => fun _ _ _ _ _ _ _ => none
  | n + 1 => Mod_hears_B71 k34 (Mod_hears_L71 k34 n)
theorem e_Mod_hears_L71 {G : Gx} (k34 : Nat → Int32 → Int32 → Mm → Option (Int32 × Mm)) (hk34 : ∀ (x0 : Nat) (x3 : Int32) (x4 : Int32) (M : Mm), EJ G Y_Mod_hears cvI 4 34 [(0, .ref x0), (3, .int x3), (4, .int x4)] [] M (k34 x0 x3 x4 M)) : ∀ (n : Nat) (x0 : Nat) (x3 : Int32) (x4 : Int32) (x5 : Int32) (x6 : Int32) (x7 : Int32) (M : Mm), EJ G Y_Mod_hears cvI 4 71 [(0, .ref x0), (3, .int x3), (4, .int x4), (5, .int x5), (6, .int x6), (7, .int x7)] [] M (Mod_hears_L71 k34 n x0 x3 x4 x5 x6 x7 M) := by
  intro n
  induction n with
  | zero => intros; exact EJ_none
  | succ n ih => intro x0 x3 x4 x5 x6 x7 M; exact e_Mod_hears_B71 k34 _ hk34 ih x0 x3 x4 x5 x6 x7 M
def Mod_hears_B34 (k34 : Nat → Int32 → Int32 → Mm → Option (Int32 × Mm)) (x0 : Nat) (x3 : Int32) (x4 : Int32) (M : Mm) : Option (Int32 × Mm) :=
  ck (kO M x0 12 107) (
  if (mI M x0 9) ≤ x4 then (
    some ((-1), M))
  else (
    nn (mR M x0 7) (fun b10 =>
    nn (mR M x0 10) (fun b11 =>
    ck (kA M b11 20 x4) (
    ck (kA M b10 20 (mI M b11 (ix x4))) (
    let v14 : Int32 := mI M b10 (ix (mI M b11 (ix x4)))
    if 0 ≤ v14 then (
      Mod_hears_L71 k34 fu x0 x3 x4 v14 0 0 M)
    else (
      Mod_hears_J138 k34 x0 x3 x4 M)))))))
set_option maxRecDepth 100000 in
set_option maxHeartbeats 4000000 in
theorem e_Mod_hears_B34 {G : Gx} (k34 : Nat → Int32 → Int32 → Mm → Option (Int32 × Mm)) (hk34 : ∀ (x0 : Nat) (x3 : Int32) (x4 : Int32) (M : Mm), EJ G Y_Mod_hears cvI 4 34 [(0, .ref x0), (3, .int x3), (4, .int x4)] [] M (k34 x0 x3 x4 M)) (x0 : Nat) (x3 : Int32) (x4 : Int32) (M : Mm) : EJ G Y_Mod_hears cvI 4 34 [(0, .ref x0), (3, .int x3), (4, .int x4)] [] M (Mod_hears_B34 k34 x0 x3 x4 M) := by
  unfold Mod_hears_B34
  refine EJ_iload 36 2 (dk_21 (bt bc_Mod_hears_1 2 rfl) (bt bc_Mod_hears_1 3 rfl)) rfl rfl ?_
  refine EJ_aload_n 37 0 (dk_42 (bt bc_Mod_hears_1 4 rfl)) rfl rfl ?_
  refine EJ_ck (fun h9 => ?_)
  refine EJ_getI cf12 9 (by decide) 40 tw_1207 (fun _ _ _ => rfl) (dk_180 (bt bc_Mod_hears_1 5 rfl) (bt bc_Mod_hears_1 6 rfl) (bt bc_Mod_hears_1 7 rfl) (n := 269) rfl) rfl (of_decide_eq_true h9) ?_
  refine EJ_icmp_ge 144 43 (dk_162 (bt bc_Mod_hears_1 8 rfl) (bt bc_Mod_hears_1 9 rfl) (bt bc_Mod_hears_1 10 rfl) (n := 104) rfl) (by decide) rfl (fun _ => ?_) (fun _ => ?_)
  · refine EJ_iconst 145 (dk_2 (bt bc_Mod_hears_4 16 rfl)) rfl (v := (-1)) kI_m1 ?_
    exact EJ_iret rfl (dk_172 (bt bc_Mod_hears_4 17 rfl))
  · refine EJ_aload_n 44 0 (dk_42 (bt bc_Mod_hears_1 11 rfl)) rfl rfl ?_
    refine EJ_getR cf12 7 (by decide) 47 tw_1205 (fun _ _ _ => rfl) (dk_180 (bt bc_Mod_hears_1 12 rfl) (bt bc_Mod_hears_1 13 rfl) (bt bc_Mod_hears_1 14 rfl) (n := 26) rfl) rfl (of_decide_eq_true h9) (fun b10 => ?_)
    refine EJ_aload_n 48 0 (dk_42 (bt bc_Mod_hears_1 15 rfl)) rfl rfl ?_
    refine EJ_getR cf12 10 (by decide) 51 tw_1208 (fun _ _ _ => rfl) (dk_180 (bt bc_Mod_hears_1 16 rfl) (bt bc_Mod_hears_1 17 rfl) (bt bc_Mod_hears_1 18 rfl) (n := 33) rfl) rfl (of_decide_eq_true h9) (fun b11 => ?_)
    refine EJ_iload 53 2 (dk_21 (bt bc_Mod_hears_1 19 rfl) (bt bc_Mod_hears_1 20 rfl)) rfl rfl ?_
    refine EJ_ck (fun h12 => ?_)
    refine EJ_iald 54 h12 (dk_46 (bt bc_Mod_hears_1 21 rfl)) rfl ?_
    refine EJ_ck (fun h13 => ?_)
    refine EJ_iald 55 h13 (dk_46 (bt bc_Mod_hears_1 22 rfl)) rfl ?_
    refine EJ_istore 57 (lv2 := [(5, .int _), (0, .ref _), (3, .int _), (4, .int _)]) (dk_54 (bt bc_Mod_hears_1 23 rfl) (bt bc_Mod_hears_1 24 rfl)) rfl (by decide) rfl ?_
    refine EJ_iload 59 0 (dk_21 (bt bc_Mod_hears_1 25 rfl) (bt bc_Mod_hears_1 26 rfl)) rfl rfl ?_
    refine EJ_if_ge 65 62 (dk_156 (bt bc_Mod_hears_1 27 rfl) (bt bc_Mod_hears_1 28 rfl) (bt bc_Mod_hears_1 29 rfl) (n := 6) rfl) (by decide) rfl (fun _ => ?_) (fun _ => ?_)
    · refine EJ_iconst 66 (dk_3 (bt bc_Mod_hears_2 1 rfl)) rfl (v := 0) kI_0 ?_
      refine EJ_istore 68 (lv2 := [(6, .int _), (5, .int _), (0, .ref _), (3, .int _), (4, .int _)]) (dk_54 (bt bc_Mod_hears_2 2 rfl) (bt bc_Mod_hears_2 3 rfl)) rfl (by decide) rfl ?_
      refine EJ_iconst 69 (dk_3 (bt bc_Mod_hears_2 4 rfl)) rfl (v := 0) kI_0 ?_
      refine EJ_istore 71 (lv2 := [(7, .int _), (6, .int _), (5, .int _), (0, .ref _), (3, .int _), (4, .int _)]) (dk_54 (bt bc_Mod_hears_2 5 rfl) (bt bc_Mod_hears_2 6 rfl)) rfl (by decide) rfl ?_
      exact EJ_pick (lv2 := [(0, .ref _), (3, .int _), (4, .int _), (5, .int _), (6, .int _), (7, .int _)]) [3, 4, 5, 2, 1, 0] rfl (e_Mod_hears_L71 k34 hk34 fu _ _ _ _ _ _ _)
    · refine EJ_goto 138 (dk_167 (bt bc_Mod_hears_1 30 rfl) (bt bc_Mod_hears_1 31 rfl) (bt bc_Mod_hears_2 0 rfl) (n := 76) rfl) (by decide) ?_
      exact EJ_pick (lv2 := [(0, .ref _), (3, .int _), (4, .int _)]) [1, 2, 3] rfl (e_Mod_hears_J138 k34 hk34 _ _ _ _)
def Mod_hears_L34 (n : Nat) : Nat → Int32 → Int32 → Mm → Option (Int32 × Mm) :=
  match n with
  | 0 => fun _ _ _ _ => none
  | n + 1 => Mod_hears_B34 (Mod_hears_L34 n)
theorem e_Mod_hears_L34 {G : Gx} : ∀ (n : Nat) (x0 : Nat) (x3 : Int32) (x4 : Int32) (M : Mm), EJ G Y_Mod_hears cvI 4 34 [(0, .ref x0), (3, .int x3), (4, .int x4)] [] M (Mod_hears_L34 n x0 x3 x4 M) := by
  intro n
  induction n with
  | zero => intros; exact EJ_none
  | succ n ih => intro x0 x3 x4 M; exact e_Mod_hears_B34 _ ih x0 x3 x4 M
def Mod_hears (M : Mm) (a0 : Nat) (a1 : Int32) (a2 : Int32) (a3 : Int32) : Option (Int32 × Mm) :=
  ck (kO M a0 12 107) (
  bd (Mod_isTown M a0 a1) (fun r2 M3 =>
  if r2 = 0 then (
    some ((-1), M3))
  else (
    bd (Mod_in M3 a2 0 57600) (fun r4 M5 =>
    if r4 = 0 then (
      some ((-1), M5))
    else (
      if 0 ≤ a3 then (
        ck (kO M5 a0 12 107) (
        bd (Mod_spreads M5 a0 a1 a2) (fun _ M8 =>
        Mod_hears_L34 fu a0 a3 0 M8)))
      else (
        some ((-1), M5)))))))
set_option maxRecDepth 100000 in
set_option maxHeartbeats 4000000 in
theorem s_Mod_hears (G : Gx) (M : Mm) (a0 : Nat) (a1 : Int32) (a2 : Int32) (a3 : Int32) : FnS G Y_Mod_hears cvI 4 [.ref a0, .int a1, .int a2, .int a3] M (Mod_hears M a0 a1 a2 a3) := by
  refine FnS.ofE (by decide) (Nat.le_of_ble_eq_true rfl) ?_
  show EJ G Y_Mod_hears cvI 4 0 [(0, .ref a0), (1, .int a1), (2, .int a2), (3, .int a3)] [] M _
  unfold Mod_hears
  refine EJ_aload_n 1 0 (dk_42 (bt bc_Mod_hears_0 0 rfl)) rfl rfl ?_
  refine EJ_iload_n 2 1 (dk_27 (bt bc_Mod_hears_0 1 rfl)) rfl rfl ?_
  refine EJ_ck (fun h1 => ?_)
  refine EJ_callVi (Y2 := Y_Mod_isTown) 5 cf12 (s_Mod_isTown G _ _ _) (of_decide_eq_true h1) rfl (dk_182 (bt bc_Mod_hears_0 2 rfl) (bt bc_Mod_hears_0 3 rfl) (bt bc_Mod_hears_0 4 rfl) (n := 248) rfl) rfl tw_1528 tw_1530 ts_36 tw_1531 hd_Mod_isTown rfl (by decide) (Nat.le_of_ble_eq_true rfl) (fun r2 M3 => ?_)
  refine EJ_if_eq 23 8 (dk_153 (bt bc_Mod_hears_0 5 rfl) (bt bc_Mod_hears_0 6 rfl) (bt bc_Mod_hears_0 7 rfl) (n := 18) rfl) (by decide) rfl (fun _ => ?_) (fun _ => ?_)
  · refine EJ_iconst 24 (dk_2 (bt bc_Mod_hears_0 23 rfl)) rfl (v := (-1)) kI_m1 ?_
    exact EJ_iret rfl (dk_172 (bt bc_Mod_hears_0 24 rfl))
  · refine EJ_iload_n 9 2 (dk_28 (bt bc_Mod_hears_0 8 rfl)) rfl rfl ?_
    refine EJ_iconst 10 (dk_3 (bt bc_Mod_hears_0 9 rfl)) rfl (v := 0) kI_0 ?_
    refine EJ_ldcw 13 (dk_19 (bt bc_Mod_hears_0 10 rfl) (bt bc_Mod_hears_0 11 rfl) (bt bc_Mod_hears_0 12 rfl) (n := 264) rfl) rfl tw_1543 ?_
    refine EJ_callSi (Y2 := Y_Mod_in) 16 (s_Mod_in G _ _ _ _) rfl (dk_184 (bt bc_Mod_hears_0 13 rfl) (bt bc_Mod_hears_0 14 rfl) (bt bc_Mod_hears_0 15 rfl) (n := 252) rfl) rfl tw_1532 tw_1533 tw_8 tw_1534 hd_Mod_in rfl (by decide) (Nat.le_of_ble_eq_true rfl) (fun r4 M5 => ?_)
    refine EJ_if_eq 23 19 (dk_153 (bt bc_Mod_hears_0 16 rfl) (bt bc_Mod_hears_0 17 rfl) (bt bc_Mod_hears_0 18 rfl) (n := 7) rfl) (by decide) rfl (fun _ => ?_) (fun _ => ?_)
    · refine EJ_iconst 24 (dk_2 (bt bc_Mod_hears_0 23 rfl)) rfl (v := (-1)) kI_m1 ?_
      exact EJ_iret rfl (dk_172 (bt bc_Mod_hears_0 24 rfl))
    · refine EJ_iload_n 20 3 (dk_29 (bt bc_Mod_hears_0 19 rfl)) rfl rfl ?_
      refine EJ_if_ge 25 23 (dk_156 (bt bc_Mod_hears_0 20 rfl) (bt bc_Mod_hears_0 21 rfl) (bt bc_Mod_hears_0 22 rfl) (n := 5) rfl) (by decide) rfl (fun _ => ?_) (fun _ => ?_)
      · refine EJ_aload_n 26 0 (dk_42 (bt bc_Mod_hears_0 25 rfl)) rfl rfl ?_
        refine EJ_iload_n 27 1 (dk_27 (bt bc_Mod_hears_0 26 rfl)) rfl rfl ?_
        refine EJ_iload_n 28 2 (dk_28 (bt bc_Mod_hears_0 27 rfl)) rfl rfl ?_
        refine EJ_ck (fun h6 => ?_)
        refine EJ_callVv (Y2 := Y_Mod_spreads) 31 cf12 (s_Mod_spreads G _ _ _ _) (of_decide_eq_true h6) rfl (dk_182 (bt bc_Mod_hears_0 28 rfl) (bt bc_Mod_hears_0 29 rfl) (bt bc_Mod_hears_0 30 rfl) (n := 265) rfl) rfl tw_1544 tw_1546 ts_37 tw_1547 hd_Mod_spreads rfl (by decide) (Nat.le_of_ble_eq_true rfl) (fun _ M8 => ?_)
        refine EJ_iconst 32 (dk_3 (bt bc_Mod_hears_0 31 rfl)) rfl (v := 0) kI_0 ?_
        refine EJ_istore 34 (lv2 := [(4, .int _), (0, .ref _), (1, .int _), (2, .int _), (3, .int _)]) (dk_54 (bt bc_Mod_hears_1 0 rfl) (bt bc_Mod_hears_1 1 rfl)) rfl (by decide) rfl ?_
        exact EJ_pick (lv2 := [(0, .ref _), (3, .int _), (4, .int _)]) [1, 4, 0] rfl (e_Mod_hears_L34 fu _ _ _ _)
      · refine EJ_iconst 24 (dk_2 (bt bc_Mod_hears_0 23 rfl)) rfl (v := (-1)) kI_m1 ?_
        exact EJ_iret rfl (dk_172 (bt bc_Mod_hears_0 24 rfl))
abbrev Y_Mod_store : Ym := (⟨"RiceHallModel", "store", "()I"⟩, prog_14_method_19_code, 1, (some FieldType.int))
theorem bc_Mod_store_0 : bts prog_14_method_19_code 0 [42, 180, 1, 16, 7, 160, 0, 5, 2, 172, 42, 89, 180, 1, 16, 4, 96, 181, 1, 16, 42, 180, 1, 16, 4, 100, 172] := bts_of (by decide +kernel)
theorem hd_Mod_store : Y_Mod_store.1.cls = RX12 ∧ Y_Mod_store.1.cls ≠ "java/lang/invoke/MethodHandle" ∧ Y_Mod_store.1.cls ≠ "java/lang/invoke/VarHandle" ∧ (parseMethodDescriptor Y_Mod_store.1.desc).map (fun d => d.parameters.length) = some 0 := by decide +kernel
def Mod_store (M : Mm) (a0 : Nat) : Option (Int32 × Mm) :=
  ck (kO M a0 12 107) (
  if (mI M a0 22) = 4 then (
    some ((-1), M))
  else (
    let M2 := sI M a0 22 ((mI M a0 22) + 1)
    some ((mI M2 a0 22) - 1, M2)))
set_option maxRecDepth 100000 in
set_option maxHeartbeats 4000000 in
theorem s_Mod_store (G : Gx) (M : Mm) (a0 : Nat) : FnS G Y_Mod_store cvI 1 [.ref a0] M (Mod_store M a0) := by
  refine FnS.ofE (by decide) (Nat.le_of_ble_eq_true rfl) ?_
  show EJ G Y_Mod_store cvI 1 0 [(0, .ref a0)] [] M _
  unfold Mod_store
  refine EJ_aload_n 1 0 (dk_42 (bt bc_Mod_store_0 0 rfl)) rfl rfl ?_
  refine EJ_ck (fun h1 => ?_)
  refine EJ_getI cf12 22 (by decide) 4 tw_1220 (fun _ _ _ => rfl) (dk_180 (bt bc_Mod_store_0 1 rfl) (bt bc_Mod_store_0 2 rfl) (bt bc_Mod_store_0 3 rfl) (n := 272) rfl) rfl (of_decide_eq_true h1) ?_
  refine EJ_iconst 5 (dk_7 (bt bc_Mod_store_0 4 rfl)) rfl (v := 4) kI_4 ?_
  refine EJ_icmp_ne 10 8 (dk_160 (bt bc_Mod_store_0 5 rfl) (bt bc_Mod_store_0 6 rfl) (bt bc_Mod_store_0 7 rfl) (n := 5) rfl) (by decide) rfl (fun _ => ?_) (fun _ => ?_)
  · refine EJ_aload_n 11 0 (dk_42 (bt bc_Mod_store_0 10 rfl)) rfl rfl ?_
    refine EJ_dup 12 (dk_89 (bt bc_Mod_store_0 11 rfl)) rfl rfl ?_
    refine EJ_getI cf12 22 (by decide) 15 tw_1220 (fun _ _ _ => rfl) (dk_180 (bt bc_Mod_store_0 12 rfl) (bt bc_Mod_store_0 13 rfl) (bt bc_Mod_store_0 14 rfl) (n := 272) rfl) rfl (of_decide_eq_true h1) ?_
    refine EJ_iconst 16 (dk_4 (bt bc_Mod_store_0 15 rfl)) rfl (v := 1) kI_1 ?_
    refine EJ_iadd 17 (dk_96 (bt bc_Mod_store_0 16 rfl)) rfl ?_
    refine EJ_putI cf12 22 (by decide) 20 tw_1220 rfl (Or.inl rfl) (dk_181 (bt bc_Mod_store_0 17 rfl) (bt bc_Mod_store_0 18 rfl) (bt bc_Mod_store_0 19 rfl) (n := 272) rfl) rfl (of_decide_eq_true h1) ?_
    refine EJ_aload_n 21 0 (dk_42 (bt bc_Mod_store_0 20 rfl)) rfl rfl ?_
    refine EJ_getI cf12 22 (by decide) 24 tw_1220 (fun _ _ _ => rfl) (dk_180 (bt bc_Mod_store_0 21 rfl) (bt bc_Mod_store_0 22 rfl) (bt bc_Mod_store_0 23 rfl) (n := 272) rfl) rfl (kp_I (of_decide_eq_true h1)) ?_
    refine EJ_iconst 25 (dk_4 (bt bc_Mod_store_0 24 rfl)) rfl (v := 1) kI_1 ?_
    refine EJ_isub 26 (dk_100 (bt bc_Mod_store_0 25 rfl)) rfl ?_
    exact EJ_iret rfl (dk_172 (bt bc_Mod_store_0 26 rfl))
  · refine EJ_iconst 9 (dk_2 (bt bc_Mod_store_0 8 rfl)) rfl (v := (-1)) kI_m1 ?_
    exact EJ_iret rfl (dk_172 (bt bc_Mod_store_0 9 rfl))
abbrev Y_Mod_isStore : Ym := (⟨"RiceHallModel", "isStore", "(I)Z"⟩, prog_14_method_18_code, 2, (some FieldType.boolean))
theorem bc_Mod_isStore_0 : bts prog_14_method_18_code 0 [27, 155, 0, 15, 27, 42, 180, 1, 16, 162, 0, 7, 4, 167, 0, 4, 3, 172] := bts_of (by decide +kernel)
theorem hd_Mod_isStore : Y_Mod_isStore.1.cls = RX12 ∧ Y_Mod_isStore.1.cls ≠ "java/lang/invoke/MethodHandle" ∧ Y_Mod_isStore.1.cls ≠ "java/lang/invoke/VarHandle" ∧ (parseMethodDescriptor Y_Mod_isStore.1.desc).map (fun d => d.parameters.length) = some 1 := by decide +kernel
def Mod_isStore (M : Mm) (a0 : Nat) (a1 : Int32) : Option (Int32 × Mm) :=
  if a1 < 0 then (
    some (0, M))
  else (
    ck (kO M a0 12 107) (
    if (mI M a0 22) ≤ a1 then (
      some (0, M))
    else (
      some (1, M))))
set_option maxRecDepth 100000 in
set_option maxHeartbeats 4000000 in
theorem s_Mod_isStore (G : Gx) (M : Mm) (a0 : Nat) (a1 : Int32) : FnS G Y_Mod_isStore cvI 1 [.ref a0, .int a1] M (Mod_isStore M a0 a1) := by
  refine FnS.ofE (by decide) (Nat.le_of_ble_eq_true rfl) ?_
  show EJ G Y_Mod_isStore cvI 1 0 [(0, .ref a0), (1, .int a1)] [] M _
  unfold Mod_isStore
  refine EJ_iload_n 1 1 (dk_27 (bt bc_Mod_isStore_0 0 rfl)) rfl rfl ?_
  refine EJ_if_lt 16 4 (dk_155 (bt bc_Mod_isStore_0 1 rfl) (bt bc_Mod_isStore_0 2 rfl) (bt bc_Mod_isStore_0 3 rfl) (n := 15) rfl) (by decide) rfl (fun _ => ?_) (fun _ => ?_)
  · refine EJ_iconst 17 (dk_3 (bt bc_Mod_isStore_0 16 rfl)) rfl (v := 0) kI_0 ?_
    exact EJ_zret rfl (by decide) (dk_172 (bt bc_Mod_isStore_0 17 rfl))
  · refine EJ_iload_n 5 1 (dk_27 (bt bc_Mod_isStore_0 4 rfl)) rfl rfl ?_
    refine EJ_aload_n 6 0 (dk_42 (bt bc_Mod_isStore_0 5 rfl)) rfl rfl ?_
    refine EJ_ck (fun h1 => ?_)
    refine EJ_getI cf12 22 (by decide) 9 tw_1220 (fun _ _ _ => rfl) (dk_180 (bt bc_Mod_isStore_0 6 rfl) (bt bc_Mod_isStore_0 7 rfl) (bt bc_Mod_isStore_0 8 rfl) (n := 272) rfl) rfl (of_decide_eq_true h1) ?_
    refine EJ_icmp_ge 16 12 (dk_162 (bt bc_Mod_isStore_0 9 rfl) (bt bc_Mod_isStore_0 10 rfl) (bt bc_Mod_isStore_0 11 rfl) (n := 7) rfl) (by decide) rfl (fun _ => ?_) (fun _ => ?_)
    · refine EJ_iconst 17 (dk_3 (bt bc_Mod_isStore_0 16 rfl)) rfl (v := 0) kI_0 ?_
      exact EJ_zret rfl (by decide) (dk_172 (bt bc_Mod_isStore_0 17 rfl))
    · refine EJ_iconst 13 (dk_4 (bt bc_Mod_isStore_0 12 rfl)) rfl (v := 1) kI_1 ?_
      refine EJ_goto 17 (dk_167 (bt bc_Mod_isStore_0 13 rfl) (bt bc_Mod_isStore_0 14 rfl) (bt bc_Mod_isStore_0 15 rfl) (n := 4) rfl) (by decide) ?_
      exact EJ_zret rfl (by decide) (dk_172 (bt bc_Mod_isStore_0 17 rfl))
abbrev Y_Mod_isPerson : Ym := (⟨"RiceHallModel", "isPerson", "(I)Z"⟩, prog_14_method_15_code, 2, (some FieldType.boolean))
theorem bc_Mod_isPerson_0 : bts prog_14_method_15_code 0 [27, 155, 0, 15, 27, 42, 180, 1, 13, 162, 0, 7, 4, 167, 0, 4, 3, 172] := bts_of (by decide +kernel)
theorem hd_Mod_isPerson : Y_Mod_isPerson.1.cls = RX12 ∧ Y_Mod_isPerson.1.cls ≠ "java/lang/invoke/MethodHandle" ∧ Y_Mod_isPerson.1.cls ≠ "java/lang/invoke/VarHandle" ∧ (parseMethodDescriptor Y_Mod_isPerson.1.desc).map (fun d => d.parameters.length) = some 1 := by decide +kernel
def Mod_isPerson (M : Mm) (a0 : Nat) (a1 : Int32) : Option (Int32 × Mm) :=
  if a1 < 0 then (
    some (0, M))
  else (
    ck (kO M a0 12 107) (
    if (mI M a0 9) ≤ a1 then (
      some (0, M))
    else (
      some (1, M))))
set_option maxRecDepth 100000 in
set_option maxHeartbeats 4000000 in
theorem s_Mod_isPerson (G : Gx) (M : Mm) (a0 : Nat) (a1 : Int32) : FnS G Y_Mod_isPerson cvI 1 [.ref a0, .int a1] M (Mod_isPerson M a0 a1) := by
  refine FnS.ofE (by decide) (Nat.le_of_ble_eq_true rfl) ?_
  show EJ G Y_Mod_isPerson cvI 1 0 [(0, .ref a0), (1, .int a1)] [] M _
  unfold Mod_isPerson
  refine EJ_iload_n 1 1 (dk_27 (bt bc_Mod_isPerson_0 0 rfl)) rfl rfl ?_
  refine EJ_if_lt 16 4 (dk_155 (bt bc_Mod_isPerson_0 1 rfl) (bt bc_Mod_isPerson_0 2 rfl) (bt bc_Mod_isPerson_0 3 rfl) (n := 15) rfl) (by decide) rfl (fun _ => ?_) (fun _ => ?_)
  · refine EJ_iconst 17 (dk_3 (bt bc_Mod_isPerson_0 16 rfl)) rfl (v := 0) kI_0 ?_
    exact EJ_zret rfl (by decide) (dk_172 (bt bc_Mod_isPerson_0 17 rfl))
  · refine EJ_iload_n 5 1 (dk_27 (bt bc_Mod_isPerson_0 4 rfl)) rfl rfl ?_
    refine EJ_aload_n 6 0 (dk_42 (bt bc_Mod_isPerson_0 5 rfl)) rfl rfl ?_
    refine EJ_ck (fun h1 => ?_)
    refine EJ_getI cf12 9 (by decide) 9 tw_1207 (fun _ _ _ => rfl) (dk_180 (bt bc_Mod_isPerson_0 6 rfl) (bt bc_Mod_isPerson_0 7 rfl) (bt bc_Mod_isPerson_0 8 rfl) (n := 269) rfl) rfl (of_decide_eq_true h1) ?_
    refine EJ_icmp_ge 16 12 (dk_162 (bt bc_Mod_isPerson_0 9 rfl) (bt bc_Mod_isPerson_0 10 rfl) (bt bc_Mod_isPerson_0 11 rfl) (n := 7) rfl) (by decide) rfl (fun _ => ?_) (fun _ => ?_)
    · refine EJ_iconst 17 (dk_3 (bt bc_Mod_isPerson_0 16 rfl)) rfl (v := 0) kI_0 ?_
      exact EJ_zret rfl (by decide) (dk_172 (bt bc_Mod_isPerson_0 17 rfl))
    · refine EJ_iconst 13 (dk_4 (bt bc_Mod_isPerson_0 12 rfl)) rfl (v := 1) kI_1 ?_
      refine EJ_goto 17 (dk_167 (bt bc_Mod_isPerson_0 13 rfl) (bt bc_Mod_isPerson_0 14 rfl) (bt bc_Mod_isPerson_0 15 rfl) (n := 4) rfl) (by decide) ?_
      exact EJ_zret rfl (by decide) (dk_172 (bt bc_Mod_isPerson_0 17 rfl))
abbrev Y_Mod_outOf : Ym := (⟨"RiceHallModel", "outOf", "(I)I"⟩, prog_14_method_20_code, 2, (some FieldType.int))
theorem bc_Mod_outOf_0 : bts prog_14_method_20_code 0 [42, 180, 0, 61, 27, 46, 42, 180, 0, 64, 27, 46, 100, 42, 180, 0, 67, 27, 46, 100, 172] := bts_of (by decide +kernel)
theorem hd_Mod_outOf : Y_Mod_outOf.1.cls = RX12 ∧ Y_Mod_outOf.1.cls ≠ "java/lang/invoke/MethodHandle" ∧ Y_Mod_outOf.1.cls ≠ "java/lang/invoke/VarHandle" ∧ (parseMethodDescriptor Y_Mod_outOf.1.desc).map (fun d => d.parameters.length) = some 1 := by decide +kernel
def Mod_outOf (M : Mm) (a0 : Nat) (a1 : Int32) : Option (Int32 × Mm) :=
  ck (kO M a0 12 107) (
  nn (mR M a0 26) (fun b2 =>
  ck (kA M b2 20 a1) (
  nn (mR M a0 27) (fun b4 =>
  ck (kA M b4 20 a1) (
  nn (mR M a0 28) (fun b6 =>
  ck (kA M b6 20 a1) (
  some (((mI M b2 (ix a1)) - (mI M b4 (ix a1))) - (mI M b6 (ix a1)), M))))))))
set_option maxRecDepth 100000 in
set_option maxHeartbeats 4000000 in
theorem s_Mod_outOf (G : Gx) (M : Mm) (a0 : Nat) (a1 : Int32) : FnS G Y_Mod_outOf cvI 1 [.ref a0, .int a1] M (Mod_outOf M a0 a1) := by
  refine FnS.ofE (by decide) (Nat.le_of_ble_eq_true rfl) ?_
  show EJ G Y_Mod_outOf cvI 1 0 [(0, .ref a0), (1, .int a1)] [] M _
  unfold Mod_outOf
  refine EJ_aload_n 1 0 (dk_42 (bt bc_Mod_outOf_0 0 rfl)) rfl rfl ?_
  refine EJ_ck (fun h1 => ?_)
  refine EJ_getR cf12 26 (by decide) 4 tw_1224 (fun _ _ _ => rfl) (dk_180 (bt bc_Mod_outOf_0 1 rfl) (bt bc_Mod_outOf_0 2 rfl) (bt bc_Mod_outOf_0 3 rfl) (n := 61) rfl) rfl (of_decide_eq_true h1) (fun b2 => ?_)
  refine EJ_iload_n 5 1 (dk_27 (bt bc_Mod_outOf_0 4 rfl)) rfl rfl ?_
  refine EJ_ck (fun h3 => ?_)
  refine EJ_iald 6 h3 (dk_46 (bt bc_Mod_outOf_0 5 rfl)) rfl ?_
  refine EJ_aload_n 7 0 (dk_42 (bt bc_Mod_outOf_0 6 rfl)) rfl rfl ?_
  refine EJ_getR cf12 27 (by decide) 10 tw_1225 (fun _ _ _ => rfl) (dk_180 (bt bc_Mod_outOf_0 7 rfl) (bt bc_Mod_outOf_0 8 rfl) (bt bc_Mod_outOf_0 9 rfl) (n := 64) rfl) rfl (of_decide_eq_true h1) (fun b4 => ?_)
  refine EJ_iload_n 11 1 (dk_27 (bt bc_Mod_outOf_0 10 rfl)) rfl rfl ?_
  refine EJ_ck (fun h5 => ?_)
  refine EJ_iald 12 h5 (dk_46 (bt bc_Mod_outOf_0 11 rfl)) rfl ?_
  refine EJ_isub 13 (dk_100 (bt bc_Mod_outOf_0 12 rfl)) rfl ?_
  refine EJ_aload_n 14 0 (dk_42 (bt bc_Mod_outOf_0 13 rfl)) rfl rfl ?_
  refine EJ_getR cf12 28 (by decide) 17 tw_1226 (fun _ _ _ => rfl) (dk_180 (bt bc_Mod_outOf_0 14 rfl) (bt bc_Mod_outOf_0 15 rfl) (bt bc_Mod_outOf_0 16 rfl) (n := 67) rfl) rfl (of_decide_eq_true h1) (fun b6 => ?_)
  refine EJ_iload_n 18 1 (dk_27 (bt bc_Mod_outOf_0 17 rfl)) rfl rfl ?_
  refine EJ_ck (fun h7 => ?_)
  refine EJ_iald 19 h7 (dk_46 (bt bc_Mod_outOf_0 18 rfl)) rfl ?_
  refine EJ_isub 20 (dk_100 (bt bc_Mod_outOf_0 19 rfl)) rfl ?_
  exact EJ_iret rfl (dk_172 (bt bc_Mod_outOf_0 20 rfl))
abbrev Y_Mod_issue : Ym := (⟨"RiceHallModel", "issue", "(IIII)I"⟩, prog_14_method_21_code, 5, (some FieldType.int))
theorem bc_Mod_issue_0 : bts prog_14_method_21_code 0 [42, 27, 182, 1, 19, 153, 0, 43, 42, 28, 182, 1, 22, 153, 0, 35, 29, 4, 17, 1, 244, 184, 0, 252, 153, 0, 24, 21, 4, 3, 17, 7] := bts_of (by decide +kernel)
theorem bc_Mod_issue_1 : bts prog_14_method_21_code 32 [208, 184, 0, 252, 153, 0, 12, 42, 180, 1, 25, 16, 60, 160, 0, 5, 2, 172, 42, 180, 0, 73, 42, 180, 1, 25, 27, 79, 42, 180, 0, 76] := bts_of (by decide +kernel)
theorem bc_Mod_issue_2 : bts prog_14_method_21_code 64 [42, 180, 1, 25, 29, 79, 42, 180, 0, 79, 42, 180, 1, 25, 42, 180, 1, 28, 21, 4, 96, 79, 42, 89, 180, 1, 25, 4, 96, 181, 1, 25] := bts_of (by decide +kernel)
theorem bc_Mod_issue_3 : bts prog_14_method_21_code 96 [42, 180, 0, 61, 27, 92, 46, 29, 96, 79, 42, 180, 0, 55, 7, 28, 104, 27, 96, 92, 46, 29, 96, 79, 42, 27, 182, 1, 31, 172] := bts_of (by decide +kernel)
theorem hd_Mod_issue : Y_Mod_issue.1.cls = RX12 ∧ Y_Mod_issue.1.cls ≠ "java/lang/invoke/MethodHandle" ∧ Y_Mod_issue.1.cls ≠ "java/lang/invoke/VarHandle" ∧ (parseMethodDescriptor Y_Mod_issue.1.desc).map (fun d => d.parameters.length) = some 4 := by decide +kernel
def Mod_issue (M : Mm) (a0 : Nat) (a1 : Int32) (a2 : Int32) (a3 : Int32) (a4 : Int32) : Option (Int32 × Mm) :=
  ck (kO M a0 12 107) (
  bd (Mod_isStore M a0 a1) (fun r2 M3 =>
  if r2 = 0 then (
    some ((-1), M3))
  else (
    ck (kO M3 a0 12 107) (
    bd (Mod_isPerson M3 a0 a2) (fun r5 M6 =>
    if r5 = 0 then (
      some ((-1), M6))
    else (
      bd (Mod_in M6 a3 1 500) (fun r7 M8 =>
      if r7 = 0 then (
        some ((-1), M8))
      else (
        bd (Mod_in M8 a4 0 2000) (fun r9 M10 =>
        if r9 = 0 then (
          some ((-1), M10))
        else (
          ck (kO M10 a0 12 107) (
          if (mI M10 a0 23) = 60 then (
            some ((-1), M10))
          else (
            nn (mR M10 a0 30) (fun b12 =>
            ck (kA M10 b12 20 (mI M10 a0 23)) (
            let M14 := sI M10 b12 (ix (mI M10 a0 23)) a1
            nn (mR M14 a0 31) (fun b15 =>
            ck (kA M14 b15 20 (mI M14 a0 23)) (
            let M17 := sI M14 b15 (ix (mI M14 a0 23)) a3
            nn (mR M17 a0 32) (fun b18 =>
            ck (kA M17 b18 20 (mI M17 a0 23)) (
            let M20 := sI M17 b18 (ix (mI M17 a0 23)) ((mI M17 a0 0) + a4)
            let M21 := sI M20 a0 23 ((mI M20 a0 23) + 1)
            nn (mR M21 a0 26) (fun b22 =>
            ck (kA M21 b22 20 a1) (
            let M24 := sI M21 b22 (ix a1) ((mI M21 b22 (ix a1)) + a3)
            nn (mR M24 a0 17) (fun b25 =>
            ck (kA M24 b25 20 ((4 * a2) + a1)) (
            let M27 := sI M24 b25 (ix ((4 * a2) + a1)) ((mI M24 b25 (ix ((4 * a2) + a1))) + a3)
            bd (Mod_outOf M27 a0 a1) (fun r28 M29 =>
            some (r28, M29))))))))))))))))))))))))
set_option maxRecDepth 100000 in
set_option maxHeartbeats 4000000 in
theorem s_Mod_issue (G : Gx) (M : Mm) (a0 : Nat) (a1 : Int32) (a2 : Int32) (a3 : Int32) (a4 : Int32) : FnS G Y_Mod_issue cvI 2 [.ref a0, .int a1, .int a2, .int a3, .int a4] M (Mod_issue M a0 a1 a2 a3 a4) := by
  refine FnS.ofE (by decide) (Nat.le_of_ble_eq_true rfl) ?_
  show EJ G Y_Mod_issue cvI 2 0 [(0, .ref a0), (1, .int a1), (2, .int a2), (3, .int a3), (4, .int a4)] [] M _
  unfold Mod_issue
  refine EJ_aload_n 1 0 (dk_42 (bt bc_Mod_issue_0 0 rfl)) rfl rfl ?_
  refine EJ_iload_n 2 1 (dk_27 (bt bc_Mod_issue_0 1 rfl)) rfl rfl ?_
  refine EJ_ck (fun h1 => ?_)
  refine EJ_callVi (Y2 := Y_Mod_isStore) 5 cf12 (s_Mod_isStore G _ _ _) (of_decide_eq_true h1) rfl (dk_182 (bt bc_Mod_issue_0 2 rfl) (bt bc_Mod_issue_0 3 rfl) (bt bc_Mod_issue_0 4 rfl) (n := 275) rfl) rfl tw_1572 tw_1574 ts_40 tw_1575 hd_Mod_isStore rfl (by decide) (Nat.le_of_ble_eq_true rfl) (fun r2 M3 => ?_)
  refine EJ_if_eq 48 8 (dk_153 (bt bc_Mod_issue_0 5 rfl) (bt bc_Mod_issue_0 6 rfl) (bt bc_Mod_issue_0 7 rfl) (n := 43) rfl) (by decide) rfl (fun _ => ?_) (fun _ => ?_)
  · refine EJ_iconst 49 (dk_2 (bt bc_Mod_issue_1 16 rfl)) rfl (v := (-1)) kI_m1 ?_
    exact EJ_iret rfl (dk_172 (bt bc_Mod_issue_1 17 rfl))
  · refine EJ_aload_n 9 0 (dk_42 (bt bc_Mod_issue_0 8 rfl)) rfl rfl ?_
    refine EJ_iload_n 10 2 (dk_28 (bt bc_Mod_issue_0 9 rfl)) rfl rfl ?_
    refine EJ_ck (fun h4 => ?_)
    refine EJ_callVi (Y2 := Y_Mod_isPerson) 13 cf12 (s_Mod_isPerson G _ _ _) (of_decide_eq_true h4) rfl (dk_182 (bt bc_Mod_issue_0 10 rfl) (bt bc_Mod_issue_0 11 rfl) (bt bc_Mod_issue_0 12 rfl) (n := 278) rfl) rfl tw_1576 tw_1578 ts_41 tw_1579 hd_Mod_isPerson rfl (by decide) (Nat.le_of_ble_eq_true rfl) (fun r5 M6 => ?_)
    refine EJ_if_eq 48 16 (dk_153 (bt bc_Mod_issue_0 13 rfl) (bt bc_Mod_issue_0 14 rfl) (bt bc_Mod_issue_0 15 rfl) (n := 35) rfl) (by decide) rfl (fun _ => ?_) (fun _ => ?_)
    · refine EJ_iconst 49 (dk_2 (bt bc_Mod_issue_1 16 rfl)) rfl (v := (-1)) kI_m1 ?_
      exact EJ_iret rfl (dk_172 (bt bc_Mod_issue_1 17 rfl))
    · refine EJ_iload_n 17 3 (dk_29 (bt bc_Mod_issue_0 16 rfl)) rfl rfl ?_
      refine EJ_iconst 18 (dk_4 (bt bc_Mod_issue_0 17 rfl)) rfl (v := 1) kI_1 ?_
      refine EJ_sipush 21 (dk_17 (bt bc_Mod_issue_0 18 rfl) (bt bc_Mod_issue_0 19 rfl) (bt bc_Mod_issue_0 20 rfl) (n := 500) rfl) rfl (v := 500) kS_500 ?_
      refine EJ_callSi (Y2 := Y_Mod_in) 24 (s_Mod_in G _ _ _ _) rfl (dk_184 (bt bc_Mod_issue_0 21 rfl) (bt bc_Mod_issue_0 22 rfl) (bt bc_Mod_issue_0 23 rfl) (n := 252) rfl) rfl tw_1532 tw_1533 tw_8 tw_1534 hd_Mod_in rfl (by decide) (Nat.le_of_ble_eq_true rfl) (fun r7 M8 => ?_)
      refine EJ_if_eq 48 27 (dk_153 (bt bc_Mod_issue_0 24 rfl) (bt bc_Mod_issue_0 25 rfl) (bt bc_Mod_issue_0 26 rfl) (n := 24) rfl) (by decide) rfl (fun _ => ?_) (fun _ => ?_)
      · refine EJ_iconst 49 (dk_2 (bt bc_Mod_issue_1 16 rfl)) rfl (v := (-1)) kI_m1 ?_
        exact EJ_iret rfl (dk_172 (bt bc_Mod_issue_1 17 rfl))
      · refine EJ_iload 29 4 (dk_21 (bt bc_Mod_issue_0 27 rfl) (bt bc_Mod_issue_0 28 rfl)) rfl rfl ?_
        refine EJ_iconst 30 (dk_3 (bt bc_Mod_issue_0 29 rfl)) rfl (v := 0) kI_0 ?_
        refine EJ_sipush 33 (dk_17 (bt bc_Mod_issue_0 30 rfl) (bt bc_Mod_issue_0 31 rfl) (bt bc_Mod_issue_1 0 rfl) (n := 2000) rfl) rfl (v := 2000) kS_2000 ?_
        refine EJ_callSi (Y2 := Y_Mod_in) 36 (s_Mod_in G _ _ _ _) rfl (dk_184 (bt bc_Mod_issue_1 1 rfl) (bt bc_Mod_issue_1 2 rfl) (bt bc_Mod_issue_1 3 rfl) (n := 252) rfl) rfl tw_1532 tw_1533 tw_8 tw_1534 hd_Mod_in rfl (by decide) (Nat.le_of_ble_eq_true rfl) (fun r9 M10 => ?_)
        refine EJ_if_eq 48 39 (dk_153 (bt bc_Mod_issue_1 4 rfl) (bt bc_Mod_issue_1 5 rfl) (bt bc_Mod_issue_1 6 rfl) (n := 12) rfl) (by decide) rfl (fun _ => ?_) (fun _ => ?_)
        · refine EJ_iconst 49 (dk_2 (bt bc_Mod_issue_1 16 rfl)) rfl (v := (-1)) kI_m1 ?_
          exact EJ_iret rfl (dk_172 (bt bc_Mod_issue_1 17 rfl))
        · refine EJ_aload_n 40 0 (dk_42 (bt bc_Mod_issue_1 7 rfl)) rfl rfl ?_
          refine EJ_ck (fun h11 => ?_)
          refine EJ_getI cf12 23 (by decide) 43 tw_1221 (fun _ _ _ => rfl) (dk_180 (bt bc_Mod_issue_1 8 rfl) (bt bc_Mod_issue_1 9 rfl) (bt bc_Mod_issue_1 10 rfl) (n := 281) rfl) rfl (of_decide_eq_true h11) ?_
          refine EJ_bipush 45 (dk_16 (bt bc_Mod_issue_1 11 rfl) (bt bc_Mod_issue_1 12 rfl) (n := 60) rfl) rfl (v := 60) kB_60 ?_
          refine EJ_icmp_ne 50 48 (dk_160 (bt bc_Mod_issue_1 13 rfl) (bt bc_Mod_issue_1 14 rfl) (bt bc_Mod_issue_1 15 rfl) (n := 5) rfl) (by decide) rfl (fun _ => ?_) (fun _ => ?_)
          · refine EJ_aload_n 51 0 (dk_42 (bt bc_Mod_issue_1 18 rfl)) rfl rfl ?_
            refine EJ_getR cf12 30 (by decide) 54 tw_1228 (fun _ _ _ => rfl) (dk_180 (bt bc_Mod_issue_1 19 rfl) (bt bc_Mod_issue_1 20 rfl) (bt bc_Mod_issue_1 21 rfl) (n := 73) rfl) rfl (of_decide_eq_true h11) (fun b12 => ?_)
            refine EJ_aload_n 55 0 (dk_42 (bt bc_Mod_issue_1 22 rfl)) rfl rfl ?_
            refine EJ_getI cf12 23 (by decide) 58 tw_1221 (fun _ _ _ => rfl) (dk_180 (bt bc_Mod_issue_1 23 rfl) (bt bc_Mod_issue_1 24 rfl) (bt bc_Mod_issue_1 25 rfl) (n := 281) rfl) rfl (of_decide_eq_true h11) ?_
            refine EJ_iload_n 59 1 (dk_27 (bt bc_Mod_issue_1 26 rfl)) rfl rfl ?_
            refine EJ_ck (fun h13 => ?_)
            refine EJ_iast 60 h13 (dk_79 (bt bc_Mod_issue_1 27 rfl)) rfl ?_
            refine EJ_aload_n 61 0 (dk_42 (bt bc_Mod_issue_1 28 rfl)) rfl rfl ?_
            refine EJ_getR cf12 31 (by decide) 64 tw_1229 (fun _ _ _ => rfl) (dk_180 (bt bc_Mod_issue_1 29 rfl) (bt bc_Mod_issue_1 30 rfl) (bt bc_Mod_issue_1 31 rfl) (n := 76) rfl) rfl (kp_I (of_decide_eq_true h11)) (fun b15 => ?_)
            refine EJ_aload_n 65 0 (dk_42 (bt bc_Mod_issue_2 0 rfl)) rfl rfl ?_
            refine EJ_getI cf12 23 (by decide) 68 tw_1221 (fun _ _ _ => rfl) (dk_180 (bt bc_Mod_issue_2 1 rfl) (bt bc_Mod_issue_2 2 rfl) (bt bc_Mod_issue_2 3 rfl) (n := 281) rfl) rfl (kp_I (of_decide_eq_true h11)) ?_
            refine EJ_iload_n 69 3 (dk_29 (bt bc_Mod_issue_2 4 rfl)) rfl rfl ?_
            refine EJ_ck (fun h16 => ?_)
            refine EJ_iast 70 h16 (dk_79 (bt bc_Mod_issue_2 5 rfl)) rfl ?_
            refine EJ_aload_n 71 0 (dk_42 (bt bc_Mod_issue_2 6 rfl)) rfl rfl ?_
            refine EJ_getR cf12 32 (by decide) 74 tw_1230 (fun _ _ _ => rfl) (dk_180 (bt bc_Mod_issue_2 7 rfl) (bt bc_Mod_issue_2 8 rfl) (bt bc_Mod_issue_2 9 rfl) (n := 79) rfl) rfl (kp_I (kp_I (of_decide_eq_true h11))) (fun b18 => ?_)
            refine EJ_aload_n 75 0 (dk_42 (bt bc_Mod_issue_2 10 rfl)) rfl rfl ?_
            refine EJ_getI cf12 23 (by decide) 78 tw_1221 (fun _ _ _ => rfl) (dk_180 (bt bc_Mod_issue_2 11 rfl) (bt bc_Mod_issue_2 12 rfl) (bt bc_Mod_issue_2 13 rfl) (n := 281) rfl) rfl (kp_I (kp_I (of_decide_eq_true h11))) ?_
            refine EJ_aload_n 79 0 (dk_42 (bt bc_Mod_issue_2 14 rfl)) rfl rfl ?_
            refine EJ_getI cf12 0 (by decide) 82 tw_1198 (fun _ _ _ => rfl) (dk_180 (bt bc_Mod_issue_2 15 rfl) (bt bc_Mod_issue_2 16 rfl) (bt bc_Mod_issue_2 17 rfl) (n := 284) rfl) rfl (kp_I (kp_I (of_decide_eq_true h11))) ?_
            refine EJ_iload 84 4 (dk_21 (bt bc_Mod_issue_2 18 rfl) (bt bc_Mod_issue_2 19 rfl)) rfl rfl ?_
            refine EJ_iadd 85 (dk_96 (bt bc_Mod_issue_2 20 rfl)) rfl ?_
            refine EJ_ck (fun h19 => ?_)
            refine EJ_iast 86 h19 (dk_79 (bt bc_Mod_issue_2 21 rfl)) rfl ?_
            refine EJ_aload_n 87 0 (dk_42 (bt bc_Mod_issue_2 22 rfl)) rfl rfl ?_
            refine EJ_dup 88 (dk_89 (bt bc_Mod_issue_2 23 rfl)) rfl rfl ?_
            refine EJ_getI cf12 23 (by decide) 91 tw_1221 (fun _ _ _ => rfl) (dk_180 (bt bc_Mod_issue_2 24 rfl) (bt bc_Mod_issue_2 25 rfl) (bt bc_Mod_issue_2 26 rfl) (n := 281) rfl) rfl (kp_I (kp_I (kp_I (of_decide_eq_true h11)))) ?_
            refine EJ_iconst 92 (dk_4 (bt bc_Mod_issue_2 27 rfl)) rfl (v := 1) kI_1 ?_
            refine EJ_iadd 93 (dk_96 (bt bc_Mod_issue_2 28 rfl)) rfl ?_
            refine EJ_putI cf12 23 (by decide) 96 tw_1221 rfl (Or.inl rfl) (dk_181 (bt bc_Mod_issue_2 29 rfl) (bt bc_Mod_issue_2 30 rfl) (bt bc_Mod_issue_2 31 rfl) (n := 281) rfl) rfl (kp_I (kp_I (kp_I (of_decide_eq_true h11)))) ?_
            refine EJ_aload_n 97 0 (dk_42 (bt bc_Mod_issue_3 0 rfl)) rfl rfl ?_
            refine EJ_getR cf12 26 (by decide) 100 tw_1224 (fun _ _ _ => rfl) (dk_180 (bt bc_Mod_issue_3 1 rfl) (bt bc_Mod_issue_3 2 rfl) (bt bc_Mod_issue_3 3 rfl) (n := 61) rfl) rfl (kp_I (kp_I (kp_I (kp_I (of_decide_eq_true h11))))) (fun b22 => ?_)
            refine EJ_iload_n 101 1 (dk_27 (bt bc_Mod_issue_3 4 rfl)) rfl rfl ?_
            refine EJ_dup2 102 (dk_92 (bt bc_Mod_issue_3 5 rfl)) rfl rfl rfl ?_
            refine EJ_ck (fun h23 => ?_)
            refine EJ_iald 103 h23 (dk_46 (bt bc_Mod_issue_3 6 rfl)) rfl ?_
            refine EJ_iload_n 104 3 (dk_29 (bt bc_Mod_issue_3 7 rfl)) rfl rfl ?_
            refine EJ_iadd 105 (dk_96 (bt bc_Mod_issue_3 8 rfl)) rfl ?_
            refine EJ_iast 106 h23 (dk_79 (bt bc_Mod_issue_3 9 rfl)) rfl ?_
            refine EJ_aload_n 107 0 (dk_42 (bt bc_Mod_issue_3 10 rfl)) rfl rfl ?_
            refine EJ_getR cf12 17 (by decide) 110 tw_1215 (fun _ _ _ => rfl) (dk_180 (bt bc_Mod_issue_3 11 rfl) (bt bc_Mod_issue_3 12 rfl) (bt bc_Mod_issue_3 13 rfl) (n := 55) rfl) rfl (kp_I (kp_I (kp_I (kp_I (kp_I (of_decide_eq_true h11)))))) (fun b25 => ?_)
            refine EJ_iconst 111 (dk_7 (bt bc_Mod_issue_3 14 rfl)) rfl (v := 4) kI_4 ?_
            refine EJ_iload_n 112 2 (dk_28 (bt bc_Mod_issue_3 15 rfl)) rfl rfl ?_
            refine EJ_imul 113 (dk_104 (bt bc_Mod_issue_3 16 rfl)) rfl ?_
            refine EJ_iload_n 114 1 (dk_27 (bt bc_Mod_issue_3 17 rfl)) rfl rfl ?_
            refine EJ_iadd 115 (dk_96 (bt bc_Mod_issue_3 18 rfl)) rfl ?_
            refine EJ_dup2 116 (dk_92 (bt bc_Mod_issue_3 19 rfl)) rfl rfl rfl ?_
            refine EJ_ck (fun h26 => ?_)
            refine EJ_iald 117 h26 (dk_46 (bt bc_Mod_issue_3 20 rfl)) rfl ?_
            refine EJ_iload_n 118 3 (dk_29 (bt bc_Mod_issue_3 21 rfl)) rfl rfl ?_
            refine EJ_iadd 119 (dk_96 (bt bc_Mod_issue_3 22 rfl)) rfl ?_
            refine EJ_iast 120 h26 (dk_79 (bt bc_Mod_issue_3 23 rfl)) rfl ?_
            refine EJ_aload_n 121 0 (dk_42 (bt bc_Mod_issue_3 24 rfl)) rfl rfl ?_
            refine EJ_iload_n 122 1 (dk_27 (bt bc_Mod_issue_3 25 rfl)) rfl rfl ?_
            refine EJ_callVi (Y2 := Y_Mod_outOf) 125 cf12 (s_Mod_outOf G _ _ _) (kp_I (kp_I (kp_I (kp_I (kp_I (kp_I (of_decide_eq_true h11))))))) rfl (dk_182 (bt bc_Mod_issue_3 26 rfl) (bt bc_Mod_issue_3 27 rfl) (bt bc_Mod_issue_3 28 rfl) (n := 287) rfl) rfl tw_1580 tw_1582 ts_42 tw_1583 hd_Mod_outOf rfl (by decide) (Nat.le_of_ble_eq_true rfl) (fun r28 M29 => ?_)
            exact EJ_iret rfl (dk_172 (bt bc_Mod_issue_3 29 rfl))
          · refine EJ_iconst 49 (dk_2 (bt bc_Mod_issue_1 16 rfl)) rfl (v := (-1)) kI_m1 ?_
            exact EJ_iret rfl (dk_172 (bt bc_Mod_issue_1 17 rfl))
abbrev Y_Mod_give : Ym := (⟨"RiceHallModel", "give", "(IIII)Z"⟩, prog_14_method_22_code, 5, (some FieldType.boolean))
theorem bc_Mod_give_0 : bts prog_14_method_22_code 0 [42, 27, 182, 1, 22, 153, 0, 40, 42, 28, 182, 1, 22, 153, 0, 32, 42, 29, 182, 1, 19, 153, 0, 24, 21, 4, 4, 161, 0, 18, 21, 4] := bts_of (by decide +kernel)
theorem bc_Mod_give_1 : bts prog_14_method_22_code 32 [42, 180, 0, 55, 7, 27, 104, 29, 96, 46, 164, 0, 5, 3, 172, 42, 180, 0, 55, 7, 27, 104, 29, 96, 92, 46, 21, 4, 100, 79, 42, 180] := bts_of (by decide +kernel)
theorem bc_Mod_give_2 : bts prog_14_method_22_code 64 [0, 55, 7, 28, 104, 29, 96, 92, 46, 21, 4, 96, 79, 4, 172] := bts_of (by decide +kernel)
theorem hd_Mod_give : Y_Mod_give.1.cls = RX12 ∧ Y_Mod_give.1.cls ≠ "java/lang/invoke/MethodHandle" ∧ Y_Mod_give.1.cls ≠ "java/lang/invoke/VarHandle" ∧ (parseMethodDescriptor Y_Mod_give.1.desc).map (fun d => d.parameters.length) = some 4 := by decide +kernel
def Mod_give (M : Mm) (a0 : Nat) (a1 : Int32) (a2 : Int32) (a3 : Int32) (a4 : Int32) : Option (Int32 × Mm) :=
  ck (kO M a0 12 107) (
  bd (Mod_isPerson M a0 a1) (fun r2 M3 =>
  if r2 = 0 then (
    some (0, M3))
  else (
    ck (kO M3 a0 12 107) (
    bd (Mod_isPerson M3 a0 a2) (fun r5 M6 =>
    if r5 = 0 then (
      some (0, M6))
    else (
      ck (kO M6 a0 12 107) (
      bd (Mod_isStore M6 a0 a3) (fun r8 M9 =>
      if r8 = 0 then (
        some (0, M9))
      else (
        if a4 < 1 then (
          some (0, M9))
        else (
          ck (kO M9 a0 12 107) (
          nn (mR M9 a0 17) (fun b11 =>
          ck (kA M9 b11 20 ((4 * a1) + a3)) (
          if a4 ≤ (mI M9 b11 (ix ((4 * a1) + a3))) then (
            nn (mR M9 a0 17) (fun b13 =>
            ck (kA M9 b13 20 ((4 * a1) + a3)) (
            let M15 := sI M9 b13 (ix ((4 * a1) + a3)) ((mI M9 b13 (ix ((4 * a1) + a3))) - a4)
            nn (mR M15 a0 17) (fun b16 =>
            ck (kA M15 b16 20 ((4 * a2) + a3)) (
            let M18 := sI M15 b16 (ix ((4 * a2) + a3)) ((mI M15 b16 (ix ((4 * a2) + a3))) + a4)
            some (1, M18))))))
          else (
            some (0, M9)))))))))))))))
set_option maxRecDepth 100000 in
set_option maxHeartbeats 4000000 in
theorem s_Mod_give (G : Gx) (M : Mm) (a0 : Nat) (a1 : Int32) (a2 : Int32) (a3 : Int32) (a4 : Int32) : FnS G Y_Mod_give cvI 2 [.ref a0, .int a1, .int a2, .int a3, .int a4] M (Mod_give M a0 a1 a2 a3 a4) := by
  refine FnS.ofE (by decide) (Nat.le_of_ble_eq_true rfl) ?_
  show EJ G Y_Mod_give cvI 2 0 [(0, .ref a0), (1, .int a1), (2, .int a2), (3, .int a3), (4, .int a4)] [] M _
  unfold Mod_give
  refine EJ_aload_n 1 0 (dk_42 (bt bc_Mod_give_0 0 rfl)) rfl rfl ?_
  refine EJ_iload_n 2 1 (dk_27 (bt bc_Mod_give_0 1 rfl)) rfl rfl ?_
  refine EJ_ck (fun h1 => ?_)
  refine EJ_callVi (Y2 := Y_Mod_isPerson) 5 cf12 (s_Mod_isPerson G _ _ _) (of_decide_eq_true h1) rfl (dk_182 (bt bc_Mod_give_0 2 rfl) (bt bc_Mod_give_0 3 rfl) (bt bc_Mod_give_0 4 rfl) (n := 278) rfl) rfl tw_1576 tw_1578 ts_41 tw_1579 hd_Mod_isPerson rfl (by decide) (Nat.le_of_ble_eq_true rfl) (fun r2 M3 => ?_)
  refine EJ_if_eq 45 8 (dk_153 (bt bc_Mod_give_0 5 rfl) (bt bc_Mod_give_0 6 rfl) (bt bc_Mod_give_0 7 rfl) (n := 40) rfl) (by decide) rfl (fun _ => ?_) (fun _ => ?_)
  · refine EJ_iconst 46 (dk_3 (bt bc_Mod_give_1 13 rfl)) rfl (v := 0) kI_0 ?_
    exact EJ_zret rfl (by decide) (dk_172 (bt bc_Mod_give_1 14 rfl))
  · refine EJ_aload_n 9 0 (dk_42 (bt bc_Mod_give_0 8 rfl)) rfl rfl ?_
    refine EJ_iload_n 10 2 (dk_28 (bt bc_Mod_give_0 9 rfl)) rfl rfl ?_
    refine EJ_ck (fun h4 => ?_)
    refine EJ_callVi (Y2 := Y_Mod_isPerson) 13 cf12 (s_Mod_isPerson G _ _ _) (of_decide_eq_true h4) rfl (dk_182 (bt bc_Mod_give_0 10 rfl) (bt bc_Mod_give_0 11 rfl) (bt bc_Mod_give_0 12 rfl) (n := 278) rfl) rfl tw_1576 tw_1578 ts_41 tw_1579 hd_Mod_isPerson rfl (by decide) (Nat.le_of_ble_eq_true rfl) (fun r5 M6 => ?_)
    refine EJ_if_eq 45 16 (dk_153 (bt bc_Mod_give_0 13 rfl) (bt bc_Mod_give_0 14 rfl) (bt bc_Mod_give_0 15 rfl) (n := 32) rfl) (by decide) rfl (fun _ => ?_) (fun _ => ?_)
    · refine EJ_iconst 46 (dk_3 (bt bc_Mod_give_1 13 rfl)) rfl (v := 0) kI_0 ?_
      exact EJ_zret rfl (by decide) (dk_172 (bt bc_Mod_give_1 14 rfl))
    · refine EJ_aload_n 17 0 (dk_42 (bt bc_Mod_give_0 16 rfl)) rfl rfl ?_
      refine EJ_iload_n 18 3 (dk_29 (bt bc_Mod_give_0 17 rfl)) rfl rfl ?_
      refine EJ_ck (fun h7 => ?_)
      refine EJ_callVi (Y2 := Y_Mod_isStore) 21 cf12 (s_Mod_isStore G _ _ _) (of_decide_eq_true h7) rfl (dk_182 (bt bc_Mod_give_0 18 rfl) (bt bc_Mod_give_0 19 rfl) (bt bc_Mod_give_0 20 rfl) (n := 275) rfl) rfl tw_1572 tw_1574 ts_40 tw_1575 hd_Mod_isStore rfl (by decide) (Nat.le_of_ble_eq_true rfl) (fun r8 M9 => ?_)
      refine EJ_if_eq 45 24 (dk_153 (bt bc_Mod_give_0 21 rfl) (bt bc_Mod_give_0 22 rfl) (bt bc_Mod_give_0 23 rfl) (n := 24) rfl) (by decide) rfl (fun _ => ?_) (fun _ => ?_)
      · refine EJ_iconst 46 (dk_3 (bt bc_Mod_give_1 13 rfl)) rfl (v := 0) kI_0 ?_
        exact EJ_zret rfl (by decide) (dk_172 (bt bc_Mod_give_1 14 rfl))
      · refine EJ_iload 26 4 (dk_21 (bt bc_Mod_give_0 24 rfl) (bt bc_Mod_give_0 25 rfl)) rfl rfl ?_
        refine EJ_iconst 27 (dk_4 (bt bc_Mod_give_0 26 rfl)) rfl (v := 1) kI_1 ?_
        refine EJ_icmp_lt 45 30 (dk_161 (bt bc_Mod_give_0 27 rfl) (bt bc_Mod_give_0 28 rfl) (bt bc_Mod_give_0 29 rfl) (n := 18) rfl) (by decide) rfl (fun _ => ?_) (fun _ => ?_)
        · refine EJ_iconst 46 (dk_3 (bt bc_Mod_give_1 13 rfl)) rfl (v := 0) kI_0 ?_
          exact EJ_zret rfl (by decide) (dk_172 (bt bc_Mod_give_1 14 rfl))
        · refine EJ_iload 32 4 (dk_21 (bt bc_Mod_give_0 30 rfl) (bt bc_Mod_give_0 31 rfl)) rfl rfl ?_
          refine EJ_aload_n 33 0 (dk_42 (bt bc_Mod_give_1 0 rfl)) rfl rfl ?_
          refine EJ_ck (fun h10 => ?_)
          refine EJ_getR cf12 17 (by decide) 36 tw_1215 (fun _ _ _ => rfl) (dk_180 (bt bc_Mod_give_1 1 rfl) (bt bc_Mod_give_1 2 rfl) (bt bc_Mod_give_1 3 rfl) (n := 55) rfl) rfl (of_decide_eq_true h10) (fun b11 => ?_)
          refine EJ_iconst 37 (dk_7 (bt bc_Mod_give_1 4 rfl)) rfl (v := 4) kI_4 ?_
          refine EJ_iload_n 38 1 (dk_27 (bt bc_Mod_give_1 5 rfl)) rfl rfl ?_
          refine EJ_imul 39 (dk_104 (bt bc_Mod_give_1 6 rfl)) rfl ?_
          refine EJ_iload_n 40 3 (dk_29 (bt bc_Mod_give_1 7 rfl)) rfl rfl ?_
          refine EJ_iadd 41 (dk_96 (bt bc_Mod_give_1 8 rfl)) rfl ?_
          refine EJ_ck (fun h12 => ?_)
          refine EJ_iald 42 h12 (dk_46 (bt bc_Mod_give_1 9 rfl)) rfl ?_
          refine EJ_icmp_le 47 45 (dk_164 (bt bc_Mod_give_1 10 rfl) (bt bc_Mod_give_1 11 rfl) (bt bc_Mod_give_1 12 rfl) (n := 5) rfl) (by decide) rfl (fun _ => ?_) (fun _ => ?_)
          · refine EJ_aload_n 48 0 (dk_42 (bt bc_Mod_give_1 15 rfl)) rfl rfl ?_
            refine EJ_getR cf12 17 (by decide) 51 tw_1215 (fun _ _ _ => rfl) (dk_180 (bt bc_Mod_give_1 16 rfl) (bt bc_Mod_give_1 17 rfl) (bt bc_Mod_give_1 18 rfl) (n := 55) rfl) rfl (of_decide_eq_true h10) (fun b13 => ?_)
            refine EJ_iconst 52 (dk_7 (bt bc_Mod_give_1 19 rfl)) rfl (v := 4) kI_4 ?_
            refine EJ_iload_n 53 1 (dk_27 (bt bc_Mod_give_1 20 rfl)) rfl rfl ?_
            refine EJ_imul 54 (dk_104 (bt bc_Mod_give_1 21 rfl)) rfl ?_
            refine EJ_iload_n 55 3 (dk_29 (bt bc_Mod_give_1 22 rfl)) rfl rfl ?_
            refine EJ_iadd 56 (dk_96 (bt bc_Mod_give_1 23 rfl)) rfl ?_
            refine EJ_dup2 57 (dk_92 (bt bc_Mod_give_1 24 rfl)) rfl rfl rfl ?_
            refine EJ_ck (fun h14 => ?_)
            refine EJ_iald 58 h14 (dk_46 (bt bc_Mod_give_1 25 rfl)) rfl ?_
            refine EJ_iload 60 4 (dk_21 (bt bc_Mod_give_1 26 rfl) (bt bc_Mod_give_1 27 rfl)) rfl rfl ?_
            refine EJ_isub 61 (dk_100 (bt bc_Mod_give_1 28 rfl)) rfl ?_
            refine EJ_iast 62 h14 (dk_79 (bt bc_Mod_give_1 29 rfl)) rfl ?_
            refine EJ_aload_n 63 0 (dk_42 (bt bc_Mod_give_1 30 rfl)) rfl rfl ?_
            refine EJ_getR cf12 17 (by decide) 66 tw_1215 (fun _ _ _ => rfl) (dk_180 (bt bc_Mod_give_1 31 rfl) (bt bc_Mod_give_2 0 rfl) (bt bc_Mod_give_2 1 rfl) (n := 55) rfl) rfl (kp_I (of_decide_eq_true h10)) (fun b16 => ?_)
            refine EJ_iconst 67 (dk_7 (bt bc_Mod_give_2 2 rfl)) rfl (v := 4) kI_4 ?_
            refine EJ_iload_n 68 2 (dk_28 (bt bc_Mod_give_2 3 rfl)) rfl rfl ?_
            refine EJ_imul 69 (dk_104 (bt bc_Mod_give_2 4 rfl)) rfl ?_
            refine EJ_iload_n 70 3 (dk_29 (bt bc_Mod_give_2 5 rfl)) rfl rfl ?_
            refine EJ_iadd 71 (dk_96 (bt bc_Mod_give_2 6 rfl)) rfl ?_
            refine EJ_dup2 72 (dk_92 (bt bc_Mod_give_2 7 rfl)) rfl rfl rfl ?_
            refine EJ_ck (fun h17 => ?_)
            refine EJ_iald 73 h17 (dk_46 (bt bc_Mod_give_2 8 rfl)) rfl ?_
            refine EJ_iload 75 4 (dk_21 (bt bc_Mod_give_2 9 rfl) (bt bc_Mod_give_2 10 rfl)) rfl rfl ?_
            refine EJ_iadd 76 (dk_96 (bt bc_Mod_give_2 11 rfl)) rfl ?_
            refine EJ_iast 77 h17 (dk_79 (bt bc_Mod_give_2 12 rfl)) rfl ?_
            refine EJ_iconst 78 (dk_4 (bt bc_Mod_give_2 13 rfl)) rfl (v := 1) kI_1 ?_
            exact EJ_zret rfl (by decide) (dk_172 (bt bc_Mod_give_2 14 rfl))
          · refine EJ_iconst 46 (dk_3 (bt bc_Mod_give_1 13 rfl)) rfl (v := 0) kI_0 ?_
            exact EJ_zret rfl (by decide) (dk_172 (bt bc_Mod_give_1 14 rfl))
abbrev Y_Mod_min : Ym := (⟨"RiceHallModel", "min", "(II)I"⟩, prog_14_method_5_code, 2, (some FieldType.int))
theorem bc_Mod_min_0 : bts prog_14_method_5_code 0 [26, 27, 162, 0, 7, 26, 167, 0, 4, 27, 172] := bts_of (by decide +kernel)
theorem hd_Mod_min : Y_Mod_min.1.cls ≠ "java/lang/invoke/MethodHandle" ∧ Y_Mod_min.1.cls ≠ "java/lang/invoke/VarHandle" ∧ (parseMethodDescriptor Y_Mod_min.1.desc).map (fun d => d.parameters.length) = some 2 := by decide +kernel
def Mod_min (M : Mm) (a0 : Int32) (a1 : Int32) : Option (Int32 × Mm) :=
  if a1 ≤ a0 then (
    some (a1, M))
  else (
    some (a0, M))
set_option maxRecDepth 100000 in
set_option maxHeartbeats 4000000 in
theorem s_Mod_min (G : Gx) (M : Mm) (a0 : Int32) (a1 : Int32) : FnS G Y_Mod_min cvI 1 [.int a0, .int a1] M (Mod_min M a0 a1) := by
  refine FnS.ofE (by decide) (Nat.le_of_ble_eq_true rfl) ?_
  show EJ G Y_Mod_min cvI 1 0 [(0, .int a0), (1, .int a1)] [] M _
  unfold Mod_min
  refine EJ_iload_n 1 0 (dk_26 (bt bc_Mod_min_0 0 rfl)) rfl rfl ?_
  refine EJ_iload_n 2 1 (dk_27 (bt bc_Mod_min_0 1 rfl)) rfl rfl ?_
  refine EJ_icmp_ge 9 5 (dk_162 (bt bc_Mod_min_0 2 rfl) (bt bc_Mod_min_0 3 rfl) (bt bc_Mod_min_0 4 rfl) (n := 7) rfl) (by decide) rfl (fun _ => ?_) (fun _ => ?_)
  · refine EJ_iload_n 10 1 (dk_27 (bt bc_Mod_min_0 9 rfl)) rfl rfl ?_
    exact EJ_iret rfl (dk_172 (bt bc_Mod_min_0 10 rfl))
  · refine EJ_iload_n 6 0 (dk_26 (bt bc_Mod_min_0 5 rfl)) rfl rfl ?_
    refine EJ_goto 10 (dk_167 (bt bc_Mod_min_0 6 rfl) (bt bc_Mod_min_0 7 rfl) (bt bc_Mod_min_0 8 rfl) (n := 4) rfl) (by decide) ?_
    exact EJ_iret rfl (dk_172 (bt bc_Mod_min_0 10 rfl))
abbrev Y_Mod_serves : Ym := (⟨"RiceHallModel", "serves", "(I)I"⟩, prog_14_method_23_code, 5, (some FieldType.int))
theorem bc_Mod_serves_0 : bts prog_14_method_23_code 0 [3, 61, 3, 62, 29, 42, 180, 1, 35, 162, 0, 111, 42, 180, 0, 58, 27, 46, 158, 0, 102, 42, 180, 0, 82, 29, 46, 27, 160, 0, 86, 42] := bts_of (by decide +kernel)
theorem bc_Mod_serves_1 : bts prog_14_method_23_code 32 [180, 0, 88, 29, 46, 154, 0, 6, 167, 0, 74, 42, 180, 0, 58, 27, 46, 42, 180, 0, 88, 29, 46, 184, 1, 38, 54, 4, 42, 180, 0, 58] := bts_of (by decide +kernel)
theorem bc_Mod_serves_2 : bts prog_14_method_23_code 64 [27, 92, 46, 21, 4, 100, 79, 42, 180, 0, 88, 29, 92, 46, 21, 4, 100, 79, 42, 180, 0, 39, 42, 180, 0, 85, 29, 46, 92, 46, 21, 4] := bts_of (by decide +kernel)
theorem bc_Mod_serves_3 : bts prog_14_method_23_code 96 [96, 79, 42, 180, 0, 64, 27, 92, 46, 21, 4, 96, 79, 28, 21, 4, 96, 61, 132, 3, 1, 167, 255, 143, 28, 172] := bts_of (by decide +kernel)
theorem hd_Mod_serves : Y_Mod_serves.1.cls = RX12 ∧ Y_Mod_serves.1.cls ≠ "java/lang/invoke/MethodHandle" ∧ Y_Mod_serves.1.cls ≠ "java/lang/invoke/VarHandle" ∧ (parseMethodDescriptor Y_Mod_serves.1.desc).map (fun d => d.parameters.length) = some 1 := by decide +kernel
def Mod_serves_J114 (k4 : Nat → Int32 → Int32 → Int32 → Mm → Option (Int32 × Mm)) (x0 : Nat) (x1 : Int32) (x2 : Int32) (x3 : Int32) (M : Mm) : Option (Int32 × Mm) :=
  let v6 : Int32 := x3 + 1
  k4 x0 x1 x2 v6 M
set_option maxRecDepth 100000 in
set_option maxHeartbeats 4000000 in
theorem e_Mod_serves_J114 {G : Gx} (k4 : Nat → Int32 → Int32 → Int32 → Mm → Option (Int32 × Mm)) (hk4 : ∀ (x0 : Nat) (x1 : Int32) (x2 : Int32) (x3 : Int32) (M : Mm), EJ G Y_Mod_serves cvI 2 4 [(0, .ref x0), (1, .int x1), (2, .int x2), (3, .int x3)] [] M (k4 x0 x1 x2 x3 M)) (x0 : Nat) (x1 : Int32) (x2 : Int32) (x3 : Int32) (M : Mm) : EJ G Y_Mod_serves cvI 2 114 [(0, .ref x0), (1, .int x1), (2, .int x2), (3, .int x3)] [] M (Mod_serves_J114 k4 x0 x1 x2 x3 M) := by
  unfold Mod_serves_J114
  refine EJ_iinc 117 3 (lv2 := [(3, .int _), (0, .ref _), (1, .int _), (2, .int _)]) (dk_132 (bt bc_Mod_serves_3 18 rfl) (bt bc_Mod_serves_3 19 rfl) (bt bc_Mod_serves_3 20 rfl) (n := 1) rfl) rfl (by decide) rfl (v := 1) kI_1 rfl ?_
  refine EJ_goto 4 (dk_167 (bt bc_Mod_serves_3 21 rfl) (bt bc_Mod_serves_3 22 rfl) (bt bc_Mod_serves_3 23 rfl) (n := -113) rfl) (by decide) ?_
  exact EJ_pick (lv2 := [(0, .ref _), (1, .int _), (2, .int _), (3, .int _)]) [1, 2, 3, 0] rfl (hk4 _ _ _ _ _)
def Mod_serves_B4 (k4 : Nat → Int32 → Int32 → Int32 → Mm → Option (Int32 × Mm)) (x0 : Nat) (x1 : Int32) (x2 : Int32) (x3 : Int32) (M : Mm) : Option (Int32 × Mm) :=
  ck (kO M x0 12 107) (
  if (mI M x0 24) ≤ x3 then (
    some (x2, M))
  else (
    nn (mR M x0 25) (fun b2 =>
    ck (kA M b2 20 x1) (
    if (mI M b2 (ix x1)) ≤ 0 then (
      some (x2, M))
    else (
      nn (mR M x0 33) (fun b4 =>
      ck (kA M b4 20 x3) (
      if (mI M b4 (ix x3)) = x1 then (
        nn (mR M x0 35) (fun b7 =>
        ck (kA M b7 20 x3) (
        if (mI M b7 (ix x3)) = 0 then (
          Mod_serves_J114 k4 x0 x1 x2 x3 M)
        else (
          nn (mR M x0 25) (fun b9 =>
          ck (kA M b9 20 x1) (
          nn (mR M x0 35) (fun b11 =>
          ck (kA M b11 20 x3) (
          bd (Mod_min M (mI M b9 (ix x1)) (mI M b11 (ix x3))) (fun r13 M14 =>
          ck (kO M14 x0 12 107) (
          nn (mR M14 x0 25) (fun b16 =>
          ck (kA M14 b16 20 x1) (
          let M18 := sI M14 b16 (ix x1) ((mI M14 b16 (ix x1)) - r13)
          nn (mR M18 x0 35) (fun b19 =>
          ck (kA M18 b19 20 x3) (
          let M21 := sI M18 b19 (ix x3) ((mI M18 b19 (ix x3)) - r13)
          nn (mR M21 x0 12) (fun b22 =>
          nn (mR M21 x0 34) (fun b23 =>
          ck (kA M21 b23 20 x3) (
          ck (kA M21 b22 20 (mI M21 b23 (ix x3))) (
          let M26 := sI M21 b22 (ix (mI M21 b23 (ix x3))) ((mI M21 b22 (ix (mI M21 b23 (ix x3)))) + r13)
          nn (mR M26 x0 27) (fun b27 =>
          ck (kA M26 b27 20 x1) (
          let M29 := sI M26 b27 (ix x1) ((mI M26 b27 (ix x1)) + r13)
          let v30 : Int32 := x2 + r13
          Mod_serves_J114 k4 x0 x1 v30 x3 M29))))))))))))))))))))
      else (
        Mod_serves_J114 k4 x0 x1 x2 x3 M))))))))
set_option maxRecDepth 100000 in
set_option maxHeartbeats 4000000 in
theorem e_Mod_serves_B4 {G : Gx} (k4 : Nat → Int32 → Int32 → Int32 → Mm → Option (Int32 × Mm)) (hk4 : ∀ (x0 : Nat) (x1 : Int32) (x2 : Int32) (x3 : Int32) (M : Mm), EJ G Y_Mod_serves cvI 2 4 [(0, .ref x0), (1, .int x1), (2, .int x2), (3, .int x3)] [] M (k4 x0 x1 x2 x3 M)) (x0 : Nat) (x1 : Int32) (x2 : Int32) (x3 : Int32) (M : Mm) : EJ G Y_Mod_serves cvI 2 4 [(0, .ref x0), (1, .int x1), (2, .int x2), (3, .int x3)] [] M (Mod_serves_B4 k4 x0 x1 x2 x3 M) := by
  unfold Mod_serves_B4
  refine EJ_iload_n 5 3 (dk_29 (bt bc_Mod_serves_0 4 rfl)) rfl rfl ?_
  refine EJ_aload_n 6 0 (dk_42 (bt bc_Mod_serves_0 5 rfl)) rfl rfl ?_
  refine EJ_ck (fun h1 => ?_)
  refine EJ_getI cf12 24 (by decide) 9 tw_1222 (fun _ _ _ => rfl) (dk_180 (bt bc_Mod_serves_0 6 rfl) (bt bc_Mod_serves_0 7 rfl) (bt bc_Mod_serves_0 8 rfl) (n := 291) rfl) rfl (of_decide_eq_true h1) ?_
  refine EJ_icmp_ge 120 12 (dk_162 (bt bc_Mod_serves_0 9 rfl) (bt bc_Mod_serves_0 10 rfl) (bt bc_Mod_serves_0 11 rfl) (n := 111) rfl) (by decide) rfl (fun _ => ?_) (fun _ => ?_)
  · refine EJ_iload_n 121 2 (dk_28 (bt bc_Mod_serves_3 24 rfl)) rfl rfl ?_
    exact EJ_iret rfl (dk_172 (bt bc_Mod_serves_3 25 rfl))
  · refine EJ_aload_n 13 0 (dk_42 (bt bc_Mod_serves_0 12 rfl)) rfl rfl ?_
    refine EJ_getR cf12 25 (by decide) 16 tw_1223 (fun _ _ _ => rfl) (dk_180 (bt bc_Mod_serves_0 13 rfl) (bt bc_Mod_serves_0 14 rfl) (bt bc_Mod_serves_0 15 rfl) (n := 58) rfl) rfl (of_decide_eq_true h1) (fun b2 => ?_)
    refine EJ_iload_n 17 1 (dk_27 (bt bc_Mod_serves_0 16 rfl)) rfl rfl ?_
    refine EJ_ck (fun h3 => ?_)
    refine EJ_iald 18 h3 (dk_46 (bt bc_Mod_serves_0 17 rfl)) rfl ?_
    refine EJ_if_le 120 21 (dk_158 (bt bc_Mod_serves_0 18 rfl) (bt bc_Mod_serves_0 19 rfl) (bt bc_Mod_serves_0 20 rfl) (n := 102) rfl) (by decide) rfl (fun _ => ?_) (fun _ => ?_)
    · refine EJ_iload_n 121 2 (dk_28 (bt bc_Mod_serves_3 24 rfl)) rfl rfl ?_
      exact EJ_iret rfl (dk_172 (bt bc_Mod_serves_3 25 rfl))
    · refine EJ_aload_n 22 0 (dk_42 (bt bc_Mod_serves_0 21 rfl)) rfl rfl ?_
      refine EJ_getR cf12 33 (by decide) 25 tw_1231 (fun _ _ _ => rfl) (dk_180 (bt bc_Mod_serves_0 22 rfl) (bt bc_Mod_serves_0 23 rfl) (bt bc_Mod_serves_0 24 rfl) (n := 82) rfl) rfl (of_decide_eq_true h1) (fun b4 => ?_)
      refine EJ_iload_n 26 3 (dk_29 (bt bc_Mod_serves_0 25 rfl)) rfl rfl ?_
      refine EJ_ck (fun h5 => ?_)
      refine EJ_iald 27 h5 (dk_46 (bt bc_Mod_serves_0 26 rfl)) rfl ?_
      refine EJ_iload_n 28 1 (dk_27 (bt bc_Mod_serves_0 27 rfl)) rfl rfl ?_
      refine EJ_icmp_ne 114 31 (dk_160 (bt bc_Mod_serves_0 28 rfl) (bt bc_Mod_serves_0 29 rfl) (bt bc_Mod_serves_0 30 rfl) (n := 86) rfl) (by decide) rfl (fun _ => ?_) (fun _ => ?_)
      · exact EJ_pick (lv2 := [(0, .ref _), (1, .int _), (2, .int _), (3, .int _)]) [0, 1, 2, 3] rfl (e_Mod_serves_J114 k4 hk4 _ _ _ _ _)
      · refine EJ_aload_n 32 0 (dk_42 (bt bc_Mod_serves_0 31 rfl)) rfl rfl ?_
        refine EJ_getR cf12 35 (by decide) 35 tw_1233 (fun _ _ _ => rfl) (dk_180 (bt bc_Mod_serves_1 0 rfl) (bt bc_Mod_serves_1 1 rfl) (bt bc_Mod_serves_1 2 rfl) (n := 88) rfl) rfl (of_decide_eq_true h1) (fun b7 => ?_)
        refine EJ_iload_n 36 3 (dk_29 (bt bc_Mod_serves_1 3 rfl)) rfl rfl ?_
        refine EJ_ck (fun h8 => ?_)
        refine EJ_iald 37 h8 (dk_46 (bt bc_Mod_serves_1 4 rfl)) rfl ?_
        refine EJ_if_ne 43 40 (dk_154 (bt bc_Mod_serves_1 5 rfl) (bt bc_Mod_serves_1 6 rfl) (bt bc_Mod_serves_1 7 rfl) (n := 6) rfl) (by decide) rfl (fun _ => ?_) (fun _ => ?_)
        · refine EJ_aload_n 44 0 (dk_42 (bt bc_Mod_serves_1 11 rfl)) rfl rfl ?_
          refine EJ_getR cf12 25 (by decide) 47 tw_1223 (fun _ _ _ => rfl) (dk_180 (bt bc_Mod_serves_1 12 rfl) (bt bc_Mod_serves_1 13 rfl) (bt bc_Mod_serves_1 14 rfl) (n := 58) rfl) rfl (of_decide_eq_true h1) (fun b9 => ?_)
          refine EJ_iload_n 48 1 (dk_27 (bt bc_Mod_serves_1 15 rfl)) rfl rfl ?_
          refine EJ_ck (fun h10 => ?_)
          refine EJ_iald 49 h10 (dk_46 (bt bc_Mod_serves_1 16 rfl)) rfl ?_
          refine EJ_aload_n 50 0 (dk_42 (bt bc_Mod_serves_1 17 rfl)) rfl rfl ?_
          refine EJ_getR cf12 35 (by decide) 53 tw_1233 (fun _ _ _ => rfl) (dk_180 (bt bc_Mod_serves_1 18 rfl) (bt bc_Mod_serves_1 19 rfl) (bt bc_Mod_serves_1 20 rfl) (n := 88) rfl) rfl (of_decide_eq_true h1) (fun b11 => ?_)
          refine EJ_iload_n 54 3 (dk_29 (bt bc_Mod_serves_1 21 rfl)) rfl rfl ?_
          refine EJ_ck (fun h12 => ?_)
          refine EJ_iald 55 h12 (dk_46 (bt bc_Mod_serves_1 22 rfl)) rfl ?_
          refine EJ_callSi (Y2 := Y_Mod_min) 58 (s_Mod_min G _ _ _) rfl (dk_184 (bt bc_Mod_serves_1 23 rfl) (bt bc_Mod_serves_1 24 rfl) (bt bc_Mod_serves_1 25 rfl) (n := 294) rfl) rfl tw_1596 tw_1597 tw_8 tw_1598 hd_Mod_min rfl (by decide) (Nat.le_of_ble_eq_true rfl) (fun r13 M14 => ?_)
          refine EJ_istore 60 (lv2 := [(4, .int _), (0, .ref _), (1, .int _), (2, .int _), (3, .int _)]) (dk_54 (bt bc_Mod_serves_1 26 rfl) (bt bc_Mod_serves_1 27 rfl)) rfl (by decide) rfl ?_
          refine EJ_aload_n 61 1 (dk_42 (bt bc_Mod_serves_1 28 rfl)) rfl rfl ?_
          refine EJ_ck (fun h15 => ?_)
          refine EJ_getR cf12 25 (by decide) 64 tw_1223 (fun _ _ _ => rfl) (dk_180 (bt bc_Mod_serves_1 29 rfl) (bt bc_Mod_serves_1 30 rfl) (bt bc_Mod_serves_1 31 rfl) (n := 58) rfl) rfl (of_decide_eq_true h15) (fun b16 => ?_)
          refine EJ_iload_n 65 2 (dk_27 (bt bc_Mod_serves_2 0 rfl)) rfl rfl ?_
          refine EJ_dup2 66 (dk_92 (bt bc_Mod_serves_2 1 rfl)) rfl rfl rfl ?_
          refine EJ_ck (fun h17 => ?_)
          refine EJ_iald 67 h17 (dk_46 (bt bc_Mod_serves_2 2 rfl)) rfl ?_
          refine EJ_iload 69 0 (dk_21 (bt bc_Mod_serves_2 3 rfl) (bt bc_Mod_serves_2 4 rfl)) rfl rfl ?_
          refine EJ_isub 70 (dk_100 (bt bc_Mod_serves_2 5 rfl)) rfl ?_
          refine EJ_iast 71 h17 (dk_79 (bt bc_Mod_serves_2 6 rfl)) rfl ?_
          refine EJ_aload_n 72 1 (dk_42 (bt bc_Mod_serves_2 7 rfl)) rfl rfl ?_
          refine EJ_getR cf12 35 (by decide) 75 tw_1233 (fun _ _ _ => rfl) (dk_180 (bt bc_Mod_serves_2 8 rfl) (bt bc_Mod_serves_2 9 rfl) (bt bc_Mod_serves_2 10 rfl) (n := 88) rfl) rfl (kp_I (of_decide_eq_true h15)) (fun b19 => ?_)
          refine EJ_iload_n 76 4 (dk_29 (bt bc_Mod_serves_2 11 rfl)) rfl rfl ?_
          refine EJ_dup2 77 (dk_92 (bt bc_Mod_serves_2 12 rfl)) rfl rfl rfl ?_
          refine EJ_ck (fun h20 => ?_)
          refine EJ_iald 78 h20 (dk_46 (bt bc_Mod_serves_2 13 rfl)) rfl ?_
          refine EJ_iload 80 0 (dk_21 (bt bc_Mod_serves_2 14 rfl) (bt bc_Mod_serves_2 15 rfl)) rfl rfl ?_
          refine EJ_isub 81 (dk_100 (bt bc_Mod_serves_2 16 rfl)) rfl ?_
          refine EJ_iast 82 h20 (dk_79 (bt bc_Mod_serves_2 17 rfl)) rfl ?_
          refine EJ_aload_n 83 1 (dk_42 (bt bc_Mod_serves_2 18 rfl)) rfl rfl ?_
          refine EJ_getR cf12 12 (by decide) 86 tw_1210 (fun _ _ _ => rfl) (dk_180 (bt bc_Mod_serves_2 19 rfl) (bt bc_Mod_serves_2 20 rfl) (bt bc_Mod_serves_2 21 rfl) (n := 39) rfl) rfl (kp_I (kp_I (of_decide_eq_true h15))) (fun b22 => ?_)
          refine EJ_aload_n 87 1 (dk_42 (bt bc_Mod_serves_2 22 rfl)) rfl rfl ?_
          refine EJ_getR cf12 34 (by decide) 90 tw_1232 (fun _ _ _ => rfl) (dk_180 (bt bc_Mod_serves_2 23 rfl) (bt bc_Mod_serves_2 24 rfl) (bt bc_Mod_serves_2 25 rfl) (n := 85) rfl) rfl (kp_I (kp_I (of_decide_eq_true h15))) (fun b23 => ?_)
          refine EJ_iload_n 91 4 (dk_29 (bt bc_Mod_serves_2 26 rfl)) rfl rfl ?_
          refine EJ_ck (fun h24 => ?_)
          refine EJ_iald 92 h24 (dk_46 (bt bc_Mod_serves_2 27 rfl)) rfl ?_
          refine EJ_dup2 93 (dk_92 (bt bc_Mod_serves_2 28 rfl)) rfl rfl rfl ?_
          refine EJ_ck (fun h25 => ?_)
          refine EJ_iald 94 h25 (dk_46 (bt bc_Mod_serves_2 29 rfl)) rfl ?_
          refine EJ_iload 96 0 (dk_21 (bt bc_Mod_serves_2 30 rfl) (bt bc_Mod_serves_2 31 rfl)) rfl rfl ?_
          refine EJ_iadd 97 (dk_96 (bt bc_Mod_serves_3 0 rfl)) rfl ?_
          refine EJ_iast 98 h25 (dk_79 (bt bc_Mod_serves_3 1 rfl)) rfl ?_
          refine EJ_aload_n 99 1 (dk_42 (bt bc_Mod_serves_3 2 rfl)) rfl rfl ?_
          refine EJ_getR cf12 27 (by decide) 102 tw_1225 (fun _ _ _ => rfl) (dk_180 (bt bc_Mod_serves_3 3 rfl) (bt bc_Mod_serves_3 4 rfl) (bt bc_Mod_serves_3 5 rfl) (n := 64) rfl) rfl (kp_I (kp_I (kp_I (of_decide_eq_true h15)))) (fun b27 => ?_)
          refine EJ_iload_n 103 2 (dk_27 (bt bc_Mod_serves_3 6 rfl)) rfl rfl ?_
          refine EJ_dup2 104 (dk_92 (bt bc_Mod_serves_3 7 rfl)) rfl rfl rfl ?_
          refine EJ_ck (fun h28 => ?_)
          refine EJ_iald 105 h28 (dk_46 (bt bc_Mod_serves_3 8 rfl)) rfl ?_
          refine EJ_iload 107 0 (dk_21 (bt bc_Mod_serves_3 9 rfl) (bt bc_Mod_serves_3 10 rfl)) rfl rfl ?_
          refine EJ_iadd 108 (dk_96 (bt bc_Mod_serves_3 11 rfl)) rfl ?_
          refine EJ_iast 109 h28 (dk_79 (bt bc_Mod_serves_3 12 rfl)) rfl ?_
          refine EJ_iload_n 110 3 (dk_28 (bt bc_Mod_serves_3 13 rfl)) rfl rfl ?_
          refine EJ_iload 112 0 (dk_21 (bt bc_Mod_serves_3 14 rfl) (bt bc_Mod_serves_3 15 rfl)) rfl rfl ?_
          refine EJ_iadd 113 (dk_96 (bt bc_Mod_serves_3 16 rfl)) rfl ?_
          refine EJ_istore_n 114 (lv2 := [(2, .int _), (4, .int _), (0, .ref _), (1, .int _), (3, .int _)]) (dk_61 (bt bc_Mod_serves_3 17 rfl)) rfl (by decide) rfl ?_
          exact EJ_pick (lv2 := [(0, .ref _), (1, .int _), (2, .int _), (3, .int _)]) [2, 3, 0, 4] rfl (e_Mod_serves_J114 k4 hk4 _ _ _ _ _)
        · refine EJ_goto 114 (dk_167 (bt bc_Mod_serves_1 8 rfl) (bt bc_Mod_serves_1 9 rfl) (bt bc_Mod_serves_1 10 rfl) (n := 74) rfl) (by decide) ?_
          exact EJ_pick (lv2 := [(0, .ref _), (1, .int _), (2, .int _), (3, .int _)]) [0, 1, 2, 3] rfl (e_Mod_serves_J114 k4 hk4 _ _ _ _ _)
def Mod_serves_L4 (n : Nat) : Nat → Int32 → Int32 → Int32 → Mm → Option (Int32 × Mm) :=
  match n with
  | 0 => fun _ _ _ _ _ => none
  | n + 1 => Mod_serves_B4 (Mod_serves_L4 n)
theorem e_Mod_serves_L4 {G : Gx} : ∀ (n : Nat) (x0 : Nat) (x1 : Int32) (x2 : Int32) (x3 : Int32) (M : Mm), EJ G Y_Mod_serves cvI 2 4 [(0, .ref x0), (1, .int x1), (2, .int x2), (3, .int x3)] [] M (Mod_serves_L4 n x0 x1 x2 x3 M) := by
  intro n
  induction n with
  | zero => intros; exact EJ_none
  | succ n ih => intro x0 x1 x2 x3 M; exact e_Mod_serves_B4 _ ih x0 x1 x2 x3 M
def Mod_serves (M : Mm) (a0 : Nat) (a1 : Int32) : Option (Int32 × Mm) :=
  Mod_serves_L4 fu a0 a1 0 0 M
set_option maxRecDepth 100000 in
set_option maxHeartbeats 4000000 in
theorem s_Mod_serves (G : Gx) (M : Mm) (a0 : Nat) (a1 : Int32) : FnS G Y_Mod_serves cvI 2 [.ref a0, .int a1] M (Mod_serves M a0 a1) := by
  refine FnS.ofE (by decide) (Nat.le_of_ble_eq_true rfl) ?_
  show EJ G Y_Mod_serves cvI 2 0 [(0, .ref a0), (1, .int a1)] [] M _
  unfold Mod_serves
  refine EJ_iconst 1 (dk_3 (bt bc_Mod_serves_0 0 rfl)) rfl (v := 0) kI_0 ?_
  refine EJ_istore_n 2 (lv2 := [(2, .int _), (0, .ref _), (1, .int _)]) (dk_61 (bt bc_Mod_serves_0 1 rfl)) rfl (by decide) rfl ?_
  refine EJ_iconst 3 (dk_3 (bt bc_Mod_serves_0 2 rfl)) rfl (v := 0) kI_0 ?_
  refine EJ_istore_n 4 (lv2 := [(3, .int _), (2, .int _), (0, .ref _), (1, .int _)]) (dk_62 (bt bc_Mod_serves_0 3 rfl)) rfl (by decide) rfl ?_
  exact EJ_pick (lv2 := [(0, .ref _), (1, .int _), (2, .int _), (3, .int _)]) [2, 3, 1, 0] rfl (e_Mod_serves_L4 fu _ _ _ _ _)
abbrev Y_Mod_call : Ym := (⟨"RiceHallModel", "call", "(III)I"⟩, prog_14_method_24_code, 5, (some FieldType.int))
theorem bc_Mod_call_0 : bts prog_14_method_24_code 0 [42, 27, 182, 1, 22, 153, 0, 39, 42, 28, 182, 1, 19, 153, 0, 31, 29, 4, 161, 0, 26, 29, 42, 180, 0, 55, 7, 27, 104, 28, 96, 46] := bts_of (by decide +kernel)
theorem bc_Mod_call_1 : bts prog_14_method_24_code 32 [163, 0, 12, 42, 180, 1, 35, 16, 60, 160, 0, 5, 2, 172, 42, 180, 0, 55, 7, 27, 104, 28, 96, 92, 46, 29, 100, 79, 42, 180, 0, 82] := bts_of (by decide +kernel)
theorem bc_Mod_call_2 : bts prog_14_method_24_code 64 [42, 180, 1, 35, 28, 79, 42, 180, 0, 85, 42, 180, 1, 35, 27, 79, 42, 180, 0, 88, 42, 180, 1, 35, 29, 79, 42, 180, 0, 91, 42, 180] := bts_of (by decide +kernel)
theorem bc_Mod_call_3 : bts prog_14_method_24_code 96 [1, 35, 42, 180, 1, 28, 79, 42, 89, 180, 1, 35, 4, 96, 181, 1, 35, 42, 28, 182, 1, 42, 54, 4, 29, 42, 180, 0, 88, 42, 180, 1] := bts_of (by decide +kernel)
theorem bc_Mod_call_4 : bts prog_14_method_24_code 128 [35, 4, 100, 46, 100, 172] := bts_of (by decide +kernel)
theorem hd_Mod_call : Y_Mod_call.1.cls = RX12 ∧ Y_Mod_call.1.cls ≠ "java/lang/invoke/MethodHandle" ∧ Y_Mod_call.1.cls ≠ "java/lang/invoke/VarHandle" ∧ (parseMethodDescriptor Y_Mod_call.1.desc).map (fun d => d.parameters.length) = some 3 := by decide +kernel
def Mod_call (M : Mm) (a0 : Nat) (a1 : Int32) (a2 : Int32) (a3 : Int32) : Option (Int32 × Mm) :=
  ck (kO M a0 12 107) (
  bd (Mod_isPerson M a0 a1) (fun r2 M3 =>
  if r2 = 0 then (
    some ((-1), M3))
  else (
    ck (kO M3 a0 12 107) (
    bd (Mod_isStore M3 a0 a2) (fun r5 M6 =>
    if r5 = 0 then (
      some ((-1), M6))
    else (
      if a3 < 1 then (
        some ((-1), M6))
      else (
        ck (kO M6 a0 12 107) (
        nn (mR M6 a0 17) (fun b8 =>
        ck (kA M6 b8 20 ((4 * a1) + a2)) (
        if (mI M6 b8 (ix ((4 * a1) + a2))) < a3 then (
          some ((-1), M6))
        else (
          if (mI M6 a0 24) = 60 then (
            some ((-1), M6))
          else (
            nn (mR M6 a0 17) (fun b10 =>
            ck (kA M6 b10 20 ((4 * a1) + a2)) (
            let M12 := sI M6 b10 (ix ((4 * a1) + a2)) ((mI M6 b10 (ix ((4 * a1) + a2))) - a3)
            nn (mR M12 a0 33) (fun b13 =>
            ck (kA M12 b13 20 (mI M12 a0 24)) (
            let M15 := sI M12 b13 (ix (mI M12 a0 24)) a2
            nn (mR M15 a0 34) (fun b16 =>
            ck (kA M15 b16 20 (mI M15 a0 24)) (
            let M18 := sI M15 b16 (ix (mI M15 a0 24)) a1
            nn (mR M18 a0 35) (fun b19 =>
            ck (kA M18 b19 20 (mI M18 a0 24)) (
            let M21 := sI M18 b19 (ix (mI M18 a0 24)) a3
            nn (mR M21 a0 36) (fun b22 =>
            ck (kA M21 b22 20 (mI M21 a0 24)) (
            let M24 := sI M21 b22 (ix (mI M21 a0 24)) (mI M21 a0 0)
            let M25 := sI M24 a0 24 ((mI M24 a0 24) + 1)
            bd (Mod_serves M25 a0 a2) (fun r26 M27 =>
            ck (kO M27 a0 12 107) (
            nn (mR M27 a0 35) (fun b29 =>
            ck (kA M27 b29 20 ((mI M27 a0 24) - 1)) (
            some (a3 - (mI M27 b29 (ix ((mI M27 a0 24) - 1))), M27)))))))))))))))))))))))))))
set_option maxRecDepth 100000 in
set_option maxHeartbeats 4000000 in
theorem s_Mod_call (G : Gx) (M : Mm) (a0 : Nat) (a1 : Int32) (a2 : Int32) (a3 : Int32) : FnS G Y_Mod_call cvI 3 [.ref a0, .int a1, .int a2, .int a3] M (Mod_call M a0 a1 a2 a3) := by
  refine FnS.ofE (by decide) (Nat.le_of_ble_eq_true rfl) ?_
  show EJ G Y_Mod_call cvI 3 0 [(0, .ref a0), (1, .int a1), (2, .int a2), (3, .int a3)] [] M _
  unfold Mod_call
  refine EJ_aload_n 1 0 (dk_42 (bt bc_Mod_call_0 0 rfl)) rfl rfl ?_
  refine EJ_iload_n 2 1 (dk_27 (bt bc_Mod_call_0 1 rfl)) rfl rfl ?_
  refine EJ_ck (fun h1 => ?_)
  refine EJ_callVi (Y2 := Y_Mod_isPerson) 5 cf12 (s_Mod_isPerson G _ _ _) (of_decide_eq_true h1) rfl (dk_182 (bt bc_Mod_call_0 2 rfl) (bt bc_Mod_call_0 3 rfl) (bt bc_Mod_call_0 4 rfl) (n := 278) rfl) rfl tw_1576 tw_1578 ts_41 tw_1579 hd_Mod_isPerson rfl (by decide) (Nat.le_of_ble_eq_true rfl) (fun r2 M3 => ?_)
  refine EJ_if_eq 44 8 (dk_153 (bt bc_Mod_call_0 5 rfl) (bt bc_Mod_call_0 6 rfl) (bt bc_Mod_call_0 7 rfl) (n := 39) rfl) (by decide) rfl (fun _ => ?_) (fun _ => ?_)
  · refine EJ_iconst 45 (dk_2 (bt bc_Mod_call_1 12 rfl)) rfl (v := (-1)) kI_m1 ?_
    exact EJ_iret rfl (dk_172 (bt bc_Mod_call_1 13 rfl))
  · refine EJ_aload_n 9 0 (dk_42 (bt bc_Mod_call_0 8 rfl)) rfl rfl ?_
    refine EJ_iload_n 10 2 (dk_28 (bt bc_Mod_call_0 9 rfl)) rfl rfl ?_
    refine EJ_ck (fun h4 => ?_)
    refine EJ_callVi (Y2 := Y_Mod_isStore) 13 cf12 (s_Mod_isStore G _ _ _) (of_decide_eq_true h4) rfl (dk_182 (bt bc_Mod_call_0 10 rfl) (bt bc_Mod_call_0 11 rfl) (bt bc_Mod_call_0 12 rfl) (n := 275) rfl) rfl tw_1572 tw_1574 ts_40 tw_1575 hd_Mod_isStore rfl (by decide) (Nat.le_of_ble_eq_true rfl) (fun r5 M6 => ?_)
    refine EJ_if_eq 44 16 (dk_153 (bt bc_Mod_call_0 13 rfl) (bt bc_Mod_call_0 14 rfl) (bt bc_Mod_call_0 15 rfl) (n := 31) rfl) (by decide) rfl (fun _ => ?_) (fun _ => ?_)
    · refine EJ_iconst 45 (dk_2 (bt bc_Mod_call_1 12 rfl)) rfl (v := (-1)) kI_m1 ?_
      exact EJ_iret rfl (dk_172 (bt bc_Mod_call_1 13 rfl))
    · refine EJ_iload_n 17 3 (dk_29 (bt bc_Mod_call_0 16 rfl)) rfl rfl ?_
      refine EJ_iconst 18 (dk_4 (bt bc_Mod_call_0 17 rfl)) rfl (v := 1) kI_1 ?_
      refine EJ_icmp_lt 44 21 (dk_161 (bt bc_Mod_call_0 18 rfl) (bt bc_Mod_call_0 19 rfl) (bt bc_Mod_call_0 20 rfl) (n := 26) rfl) (by decide) rfl (fun _ => ?_) (fun _ => ?_)
      · refine EJ_iconst 45 (dk_2 (bt bc_Mod_call_1 12 rfl)) rfl (v := (-1)) kI_m1 ?_
        exact EJ_iret rfl (dk_172 (bt bc_Mod_call_1 13 rfl))
      · refine EJ_iload_n 22 3 (dk_29 (bt bc_Mod_call_0 21 rfl)) rfl rfl ?_
        refine EJ_aload_n 23 0 (dk_42 (bt bc_Mod_call_0 22 rfl)) rfl rfl ?_
        refine EJ_ck (fun h7 => ?_)
        refine EJ_getR cf12 17 (by decide) 26 tw_1215 (fun _ _ _ => rfl) (dk_180 (bt bc_Mod_call_0 23 rfl) (bt bc_Mod_call_0 24 rfl) (bt bc_Mod_call_0 25 rfl) (n := 55) rfl) rfl (of_decide_eq_true h7) (fun b8 => ?_)
        refine EJ_iconst 27 (dk_7 (bt bc_Mod_call_0 26 rfl)) rfl (v := 4) kI_4 ?_
        refine EJ_iload_n 28 1 (dk_27 (bt bc_Mod_call_0 27 rfl)) rfl rfl ?_
        refine EJ_imul 29 (dk_104 (bt bc_Mod_call_0 28 rfl)) rfl ?_
        refine EJ_iload_n 30 2 (dk_28 (bt bc_Mod_call_0 29 rfl)) rfl rfl ?_
        refine EJ_iadd 31 (dk_96 (bt bc_Mod_call_0 30 rfl)) rfl ?_
        refine EJ_ck (fun h9 => ?_)
        refine EJ_iald 32 h9 (dk_46 (bt bc_Mod_call_0 31 rfl)) rfl ?_
        refine EJ_icmp_gt 44 35 (dk_163 (bt bc_Mod_call_1 0 rfl) (bt bc_Mod_call_1 1 rfl) (bt bc_Mod_call_1 2 rfl) (n := 12) rfl) (by decide) rfl (fun _ => ?_) (fun _ => ?_)
        · refine EJ_iconst 45 (dk_2 (bt bc_Mod_call_1 12 rfl)) rfl (v := (-1)) kI_m1 ?_
          exact EJ_iret rfl (dk_172 (bt bc_Mod_call_1 13 rfl))
        · refine EJ_aload_n 36 0 (dk_42 (bt bc_Mod_call_1 3 rfl)) rfl rfl ?_
          refine EJ_getI cf12 24 (by decide) 39 tw_1222 (fun _ _ _ => rfl) (dk_180 (bt bc_Mod_call_1 4 rfl) (bt bc_Mod_call_1 5 rfl) (bt bc_Mod_call_1 6 rfl) (n := 291) rfl) rfl (of_decide_eq_true h7) ?_
          refine EJ_bipush 41 (dk_16 (bt bc_Mod_call_1 7 rfl) (bt bc_Mod_call_1 8 rfl) (n := 60) rfl) rfl (v := 60) kB_60 ?_
          refine EJ_icmp_ne 46 44 (dk_160 (bt bc_Mod_call_1 9 rfl) (bt bc_Mod_call_1 10 rfl) (bt bc_Mod_call_1 11 rfl) (n := 5) rfl) (by decide) rfl (fun _ => ?_) (fun _ => ?_)
          · refine EJ_aload_n 47 0 (dk_42 (bt bc_Mod_call_1 14 rfl)) rfl rfl ?_
            refine EJ_getR cf12 17 (by decide) 50 tw_1215 (fun _ _ _ => rfl) (dk_180 (bt bc_Mod_call_1 15 rfl) (bt bc_Mod_call_1 16 rfl) (bt bc_Mod_call_1 17 rfl) (n := 55) rfl) rfl (of_decide_eq_true h7) (fun b10 => ?_)
            refine EJ_iconst 51 (dk_7 (bt bc_Mod_call_1 18 rfl)) rfl (v := 4) kI_4 ?_
            refine EJ_iload_n 52 1 (dk_27 (bt bc_Mod_call_1 19 rfl)) rfl rfl ?_
            refine EJ_imul 53 (dk_104 (bt bc_Mod_call_1 20 rfl)) rfl ?_
            refine EJ_iload_n 54 2 (dk_28 (bt bc_Mod_call_1 21 rfl)) rfl rfl ?_
            refine EJ_iadd 55 (dk_96 (bt bc_Mod_call_1 22 rfl)) rfl ?_
            refine EJ_dup2 56 (dk_92 (bt bc_Mod_call_1 23 rfl)) rfl rfl rfl ?_
            refine EJ_ck (fun h11 => ?_)
            refine EJ_iald 57 h11 (dk_46 (bt bc_Mod_call_1 24 rfl)) rfl ?_
            refine EJ_iload_n 58 3 (dk_29 (bt bc_Mod_call_1 25 rfl)) rfl rfl ?_
            refine EJ_isub 59 (dk_100 (bt bc_Mod_call_1 26 rfl)) rfl ?_
            refine EJ_iast 60 h11 (dk_79 (bt bc_Mod_call_1 27 rfl)) rfl ?_
            refine EJ_aload_n 61 0 (dk_42 (bt bc_Mod_call_1 28 rfl)) rfl rfl ?_
            refine EJ_getR cf12 33 (by decide) 64 tw_1231 (fun _ _ _ => rfl) (dk_180 (bt bc_Mod_call_1 29 rfl) (bt bc_Mod_call_1 30 rfl) (bt bc_Mod_call_1 31 rfl) (n := 82) rfl) rfl (kp_I (of_decide_eq_true h7)) (fun b13 => ?_)
            refine EJ_aload_n 65 0 (dk_42 (bt bc_Mod_call_2 0 rfl)) rfl rfl ?_
            refine EJ_getI cf12 24 (by decide) 68 tw_1222 (fun _ _ _ => rfl) (dk_180 (bt bc_Mod_call_2 1 rfl) (bt bc_Mod_call_2 2 rfl) (bt bc_Mod_call_2 3 rfl) (n := 291) rfl) rfl (kp_I (of_decide_eq_true h7)) ?_
            refine EJ_iload_n 69 2 (dk_28 (bt bc_Mod_call_2 4 rfl)) rfl rfl ?_
            refine EJ_ck (fun h14 => ?_)
            refine EJ_iast 70 h14 (dk_79 (bt bc_Mod_call_2 5 rfl)) rfl ?_
            refine EJ_aload_n 71 0 (dk_42 (bt bc_Mod_call_2 6 rfl)) rfl rfl ?_
            refine EJ_getR cf12 34 (by decide) 74 tw_1232 (fun _ _ _ => rfl) (dk_180 (bt bc_Mod_call_2 7 rfl) (bt bc_Mod_call_2 8 rfl) (bt bc_Mod_call_2 9 rfl) (n := 85) rfl) rfl (kp_I (kp_I (of_decide_eq_true h7))) (fun b16 => ?_)
            refine EJ_aload_n 75 0 (dk_42 (bt bc_Mod_call_2 10 rfl)) rfl rfl ?_
            refine EJ_getI cf12 24 (by decide) 78 tw_1222 (fun _ _ _ => rfl) (dk_180 (bt bc_Mod_call_2 11 rfl) (bt bc_Mod_call_2 12 rfl) (bt bc_Mod_call_2 13 rfl) (n := 291) rfl) rfl (kp_I (kp_I (of_decide_eq_true h7))) ?_
            refine EJ_iload_n 79 1 (dk_27 (bt bc_Mod_call_2 14 rfl)) rfl rfl ?_
            refine EJ_ck (fun h17 => ?_)
            refine EJ_iast 80 h17 (dk_79 (bt bc_Mod_call_2 15 rfl)) rfl ?_
            refine EJ_aload_n 81 0 (dk_42 (bt bc_Mod_call_2 16 rfl)) rfl rfl ?_
            refine EJ_getR cf12 35 (by decide) 84 tw_1233 (fun _ _ _ => rfl) (dk_180 (bt bc_Mod_call_2 17 rfl) (bt bc_Mod_call_2 18 rfl) (bt bc_Mod_call_2 19 rfl) (n := 88) rfl) rfl (kp_I (kp_I (kp_I (of_decide_eq_true h7)))) (fun b19 => ?_)
            refine EJ_aload_n 85 0 (dk_42 (bt bc_Mod_call_2 20 rfl)) rfl rfl ?_
            refine EJ_getI cf12 24 (by decide) 88 tw_1222 (fun _ _ _ => rfl) (dk_180 (bt bc_Mod_call_2 21 rfl) (bt bc_Mod_call_2 22 rfl) (bt bc_Mod_call_2 23 rfl) (n := 291) rfl) rfl (kp_I (kp_I (kp_I (of_decide_eq_true h7)))) ?_
            refine EJ_iload_n 89 3 (dk_29 (bt bc_Mod_call_2 24 rfl)) rfl rfl ?_
            refine EJ_ck (fun h20 => ?_)
            refine EJ_iast 90 h20 (dk_79 (bt bc_Mod_call_2 25 rfl)) rfl ?_
            refine EJ_aload_n 91 0 (dk_42 (bt bc_Mod_call_2 26 rfl)) rfl rfl ?_
            refine EJ_getR cf12 36 (by decide) 94 tw_1234 (fun _ _ _ => rfl) (dk_180 (bt bc_Mod_call_2 27 rfl) (bt bc_Mod_call_2 28 rfl) (bt bc_Mod_call_2 29 rfl) (n := 91) rfl) rfl (kp_I (kp_I (kp_I (kp_I (of_decide_eq_true h7))))) (fun b22 => ?_)
            refine EJ_aload_n 95 0 (dk_42 (bt bc_Mod_call_2 30 rfl)) rfl rfl ?_
            refine EJ_getI cf12 24 (by decide) 98 tw_1222 (fun _ _ _ => rfl) (dk_180 (bt bc_Mod_call_2 31 rfl) (bt bc_Mod_call_3 0 rfl) (bt bc_Mod_call_3 1 rfl) (n := 291) rfl) rfl (kp_I (kp_I (kp_I (kp_I (of_decide_eq_true h7))))) ?_
            refine EJ_aload_n 99 0 (dk_42 (bt bc_Mod_call_3 2 rfl)) rfl rfl ?_
            refine EJ_getI cf12 0 (by decide) 102 tw_1198 (fun _ _ _ => rfl) (dk_180 (bt bc_Mod_call_3 3 rfl) (bt bc_Mod_call_3 4 rfl) (bt bc_Mod_call_3 5 rfl) (n := 284) rfl) rfl (kp_I (kp_I (kp_I (kp_I (of_decide_eq_true h7))))) ?_
            refine EJ_ck (fun h23 => ?_)
            refine EJ_iast 103 h23 (dk_79 (bt bc_Mod_call_3 6 rfl)) rfl ?_
            refine EJ_aload_n 104 0 (dk_42 (bt bc_Mod_call_3 7 rfl)) rfl rfl ?_
            refine EJ_dup 105 (dk_89 (bt bc_Mod_call_3 8 rfl)) rfl rfl ?_
            refine EJ_getI cf12 24 (by decide) 108 tw_1222 (fun _ _ _ => rfl) (dk_180 (bt bc_Mod_call_3 9 rfl) (bt bc_Mod_call_3 10 rfl) (bt bc_Mod_call_3 11 rfl) (n := 291) rfl) rfl (kp_I (kp_I (kp_I (kp_I (kp_I (of_decide_eq_true h7)))))) ?_
            refine EJ_iconst 109 (dk_4 (bt bc_Mod_call_3 12 rfl)) rfl (v := 1) kI_1 ?_
            refine EJ_iadd 110 (dk_96 (bt bc_Mod_call_3 13 rfl)) rfl ?_
            refine EJ_putI cf12 24 (by decide) 113 tw_1222 rfl (Or.inl rfl) (dk_181 (bt bc_Mod_call_3 14 rfl) (bt bc_Mod_call_3 15 rfl) (bt bc_Mod_call_3 16 rfl) (n := 291) rfl) rfl (kp_I (kp_I (kp_I (kp_I (kp_I (of_decide_eq_true h7)))))) ?_
            refine EJ_aload_n 114 0 (dk_42 (bt bc_Mod_call_3 17 rfl)) rfl rfl ?_
            refine EJ_iload_n 115 2 (dk_28 (bt bc_Mod_call_3 18 rfl)) rfl rfl ?_
            refine EJ_callVi (Y2 := Y_Mod_serves) 118 cf12 (s_Mod_serves G _ _ _) (kp_I (kp_I (kp_I (kp_I (kp_I (kp_I (of_decide_eq_true h7))))))) rfl (dk_182 (bt bc_Mod_call_3 19 rfl) (bt bc_Mod_call_3 20 rfl) (bt bc_Mod_call_3 21 rfl) (n := 298) rfl) rfl tw_1592 tw_1594 ts_43 tw_1595 hd_Mod_serves rfl (by decide) (Nat.le_of_ble_eq_true rfl) (fun r26 M27 => ?_)
            refine EJ_istore 120 (lv2 := [(4, .int _), (0, .ref _), (1, .int _), (2, .int _), (3, .int _)]) (dk_54 (bt bc_Mod_call_3 22 rfl) (bt bc_Mod_call_3 23 rfl)) rfl (by decide) rfl ?_
            refine EJ_iload_n 121 4 (dk_29 (bt bc_Mod_call_3 24 rfl)) rfl rfl ?_
            refine EJ_aload_n 122 1 (dk_42 (bt bc_Mod_call_3 25 rfl)) rfl rfl ?_
            refine EJ_ck (fun h28 => ?_)
            refine EJ_getR cf12 35 (by decide) 125 tw_1233 (fun _ _ _ => rfl) (dk_180 (bt bc_Mod_call_3 26 rfl) (bt bc_Mod_call_3 27 rfl) (bt bc_Mod_call_3 28 rfl) (n := 88) rfl) rfl (of_decide_eq_true h28) (fun b29 => ?_)
            refine EJ_aload_n 126 1 (dk_42 (bt bc_Mod_call_3 29 rfl)) rfl rfl ?_
            refine EJ_getI cf12 24 (by decide) 129 tw_1222 (fun _ _ _ => rfl) (dk_180 (bt bc_Mod_call_3 30 rfl) (bt bc_Mod_call_3 31 rfl) (bt bc_Mod_call_4 0 rfl) (n := 291) rfl) rfl (of_decide_eq_true h28) ?_
            refine EJ_iconst 130 (dk_4 (bt bc_Mod_call_4 1 rfl)) rfl (v := 1) kI_1 ?_
            refine EJ_isub 131 (dk_100 (bt bc_Mod_call_4 2 rfl)) rfl ?_
            refine EJ_ck (fun h30 => ?_)
            refine EJ_iald 132 h30 (dk_46 (bt bc_Mod_call_4 3 rfl)) rfl ?_
            refine EJ_isub 133 (dk_100 (bt bc_Mod_call_4 4 rfl)) rfl ?_
            exact EJ_iret rfl (dk_172 (bt bc_Mod_call_4 5 rfl))
          · refine EJ_iconst 45 (dk_2 (bt bc_Mod_call_1 12 rfl)) rfl (v := (-1)) kI_m1 ?_
            exact EJ_iret rfl (dk_172 (bt bc_Mod_call_1 13 rfl))
