abbrev Y_Mod_closesSession : Ym := (⟨"RiceHallModel", "closesSession", "(I)V"⟩, prog_14_method_71_code, 6, none)
theorem bc_Mod_closesSession_0 : bts prog_14_method_71_code 0 [42, 3, 181, 1, 254, 42, 3, 181, 2, 4, 42, 180, 0, 152, 27, 42, 180, 1, 28, 79, 42, 180, 0, 158, 27, 42, 16, 6, 182, 1, 46, 79] := bts_of (by decide +kernel)
theorem bc_Mod_closesSession_1 : bts prog_14_method_71_code 32 [3, 61, 28, 16, 60, 162, 0, 16, 42, 180, 0, 227, 28, 3, 79, 132, 2, 1, 167, 255, 240, 16, 60, 27, 104, 42, 180, 0, 164, 27, 46, 96] := bts_of (by decide +kernel)
theorem bc_Mod_closesSession_2 : bts prog_14_method_71_code 64 [4, 100, 61, 42, 180, 0, 164, 27, 46, 153, 0, 23, 42, 180, 0, 206, 28, 46, 42, 180, 1, 28, 42, 180, 0, 158, 27, 46, 100, 162, 0, 4] := bts_of (by decide +kernel)
theorem bc_Mod_closesSession_3 : bts prog_14_method_71_code 96 [177, 42, 180, 1, 239, 154, 0, 7, 3, 167, 0, 14, 42, 180, 0, 173, 42, 180, 1, 239, 4, 100, 46, 62, 42, 180, 0, 203, 28, 46, 54, 4] := bts_of (by decide +kernel)
theorem bc_Mod_closesSession_4 : bts prog_14_method_71_code 128 [42, 180, 0, 155, 27, 21, 4, 79, 42, 180, 0, 173, 42, 180, 1, 239, 21, 4, 79, 42, 89, 180, 1, 239, 4, 96, 181, 1, 239, 3, 54, 5] := bts_of (by decide +kernel)
theorem bc_Mod_closesSession_5 : bts prog_14_method_71_code 160 [21, 5, 42, 180, 0, 164, 27, 46, 162, 0, 41, 42, 27, 21, 5, 182, 2, 13, 42, 180, 0, 209, 16, 60, 27, 104, 21, 5, 96, 46, 158, 0] := bts_of (by decide +kernel)
theorem bc_Mod_closesSession_6 : bts prog_14_method_71_code 192 [13, 42, 180, 0, 167, 27, 92, 46, 4, 96, 79, 132, 5, 1, 167, 255, 210, 42, 27, 29, 21, 4, 182, 2, 16, 177] := bts_of (by decide +kernel)
theorem hd_Mod_closesSession : Y_Mod_closesSession.1.cls = RX12 ∧ Y_Mod_closesSession.1.cls ≠ "java/lang/invoke/MethodHandle" ∧ Y_Mod_closesSession.1.cls ≠ "java/lang/invoke/VarHandle" ∧ (parseMethodDescriptor Y_Mod_closesSession.1.desc).map (fun d => d.parameters.length) = some 1 := by decide +kernel
def Mod_closesSession_J203 (k160 : Nat → Int32 → Int32 → Int32 → Int32 → Mm → Option (Unit × Mm)) (x0 : Nat) (x1 : Int32) (x3 : Int32) (x4 : Int32) (x5 : Int32) (M : Mm) : Option (Unit × Mm) :=
  let v45 : Int32 := x5 + 1
  k160 x0 x1 x3 x4 v45 M
set_option maxRecDepth 100000 in
set_option maxHeartbeats 4000000 in
theorem e_Mod_closesSession_J203 {G : Gx} (k160 : Nat → Int32 → Int32 → Int32 → Int32 → Mm → Option (Unit × Mm)) (hk160 : ∀ (x0 : Nat) (x1 : Int32) (x3 : Int32) (x4 : Int32) (x5 : Int32) (M : Mm), EJ G Y_Mod_closesSession cvV 8 160 [(0, .ref x0), (1, .int x1), (3, .int x3), (4, .int x4), (5, .int x5)] [] M (k160 x0 x1 x3 x4 x5 M)) (x0 : Nat) (x1 : Int32) (x3 : Int32) (x4 : Int32) (x5 : Int32) (M : Mm) : EJ G Y_Mod_closesSession cvV 8 203 [(0, .ref x0), (1, .int x1), (3, .int x3), (4, .int x4), (5, .int x5)] [] M (Mod_closesSession_J203 k160 x0 x1 x3 x4 x5 M) := by
  unfold Mod_closesSession_J203
  refine EJ_iinc 206 4 (lv2 := [(5, .int _), (0, .ref _), (1, .int _), (3, .int _), (4, .int _)]) (dk_132 (bt bc_Mod_closesSession_6 11 rfl) (bt bc_Mod_closesSession_6 12 rfl) (bt bc_Mod_closesSession_6 13 rfl) (n := 1) rfl) rfl (by decide) rfl (v := 1) kI_1 rfl ?_
  refine EJ_goto 160 (dk_167 (bt bc_Mod_closesSession_6 14 rfl) (bt bc_Mod_closesSession_6 15 rfl) (bt bc_Mod_closesSession_6 16 rfl) (n := -46) rfl) (by decide) ?_
  exact EJ_pick (lv2 := [(0, .ref _), (1, .int _), (3, .int _), (4, .int _), (5, .int _)]) [1, 2, 3, 4, 0] rfl (hk160 _ _ _ _ _ _)
def Mod_closesSession_B160 (k160 : Nat → Int32 → Int32 → Int32 → Int32 → Mm → Option (Unit × Mm)) (x0 : Nat) (x1 : Int32) (x3 : Int32) (x4 : Int32) (x5 : Int32) (M : Mm) : Option (Unit × Mm) :=
  ck (kO M x0 12 107) (
  nn (mR M x0 79) (fun b36 =>
  ck (kA M b36 20 x1) (
  if (mI M b36 (ix x1)) ≤ x5 then (
    bd (Mod_clears M x0 x1 x3 x4) (fun _ M39 =>
    some ((), M39)))
  else (
    bd (Mod_judges M x0 x1 x5) (fun _ M41 =>
    ck (kO M41 x0 12 107) (
    nn (mR M41 x0 94) (fun b43 =>
    ck (kA M41 b43 20 ((60 * x1) + x5)) (
    if (mI M41 b43 (ix ((60 * x1) + x5))) ≤ 0 then (
      Mod_closesSession_J203 k160 x0 x1 x3 x4 x5 M41)
    else (
      nn (mR M41 x0 80) (fun b46 =>
      ck (kA M41 b46 20 x1) (
      let M48 := sI M41 b46 (ix x1) ((mI M41 b46 (ix x1)) + 1)
      Mod_closesSession_J203 k160 x0 x1 x3 x4 x5 M48)))))))))))
set_option maxRecDepth 100000 in
set_option maxHeartbeats 4000000 in
theorem e_Mod_closesSession_B160 {G : Gx} (k160 : Nat → Int32 → Int32 → Int32 → Int32 → Mm → Option (Unit × Mm)) (hk160 : ∀ (x0 : Nat) (x1 : Int32) (x3 : Int32) (x4 : Int32) (x5 : Int32) (M : Mm), EJ G Y_Mod_closesSession cvV 8 160 [(0, .ref x0), (1, .int x1), (3, .int x3), (4, .int x4), (5, .int x5)] [] M (k160 x0 x1 x3 x4 x5 M)) (x0 : Nat) (x1 : Int32) (x3 : Int32) (x4 : Int32) (x5 : Int32) (M : Mm) : EJ G Y_Mod_closesSession cvV 8 160 [(0, .ref x0), (1, .int x1), (3, .int x3), (4, .int x4), (5, .int x5)] [] M (Mod_closesSession_B160 k160 x0 x1 x3 x4 x5 M) := by
  unfold Mod_closesSession_B160
  refine EJ_iload 162 4 (dk_21 (bt bc_Mod_closesSession_5 0 rfl) (bt bc_Mod_closesSession_5 1 rfl)) rfl rfl ?_
  refine EJ_aload_n 163 0 (dk_42 (bt bc_Mod_closesSession_5 2 rfl)) rfl rfl ?_
  refine EJ_ck (fun h35 => ?_)
  refine EJ_getR cf12 79 (by decide) 166 tw_1277 (fun _ _ _ => rfl) (dk_180 (bt bc_Mod_closesSession_5 3 rfl) (bt bc_Mod_closesSession_5 4 rfl) (bt bc_Mod_closesSession_5 5 rfl) (n := 164) rfl) rfl (of_decide_eq_true h35) (fun b36 => ?_)
  refine EJ_iload_n 167 1 (dk_27 (bt bc_Mod_closesSession_5 6 rfl)) rfl rfl ?_
  refine EJ_ck (fun h37 => ?_)
  refine EJ_iald 168 h37 (dk_46 (bt bc_Mod_closesSession_5 7 rfl)) rfl ?_
  refine EJ_icmp_ge 209 171 (dk_162 (bt bc_Mod_closesSession_5 8 rfl) (bt bc_Mod_closesSession_5 9 rfl) (bt bc_Mod_closesSession_5 10 rfl) (n := 41) rfl) (by decide) rfl (fun _ => ?_) (fun _ => ?_)
  · refine EJ_aload_n 210 0 (dk_42 (bt bc_Mod_closesSession_6 17 rfl)) rfl rfl ?_
    refine EJ_iload_n 211 1 (dk_27 (bt bc_Mod_closesSession_6 18 rfl)) rfl rfl ?_
    refine EJ_iload_n 212 2 (dk_29 (bt bc_Mod_closesSession_6 19 rfl)) rfl rfl ?_
    refine EJ_iload 214 3 (dk_21 (bt bc_Mod_closesSession_6 20 rfl) (bt bc_Mod_closesSession_6 21 rfl)) rfl rfl ?_
    refine EJ_callVv (Y2 := Y_Mod_clears) 217 cf12 (s_Mod_clears G _ _ _ _ _) (of_decide_eq_true h35) rfl (dk_182 (bt bc_Mod_closesSession_6 22 rfl) (bt bc_Mod_closesSession_6 23 rfl) (bt bc_Mod_closesSession_6 24 rfl) (n := 528) rfl) rfl tw_1829 tw_1831 ts_71 tw_1832 hd_Mod_clears rfl (by decide) (Nat.le_of_ble_eq_true rfl) (fun _ M39 => ?_)
    exact EJ_vret rfl (dk_177 (bt bc_Mod_closesSession_6 25 rfl))
  · refine EJ_aload_n 172 0 (dk_42 (bt bc_Mod_closesSession_5 11 rfl)) rfl rfl ?_
    refine EJ_iload_n 173 1 (dk_27 (bt bc_Mod_closesSession_5 12 rfl)) rfl rfl ?_
    refine EJ_iload 175 4 (dk_21 (bt bc_Mod_closesSession_5 13 rfl) (bt bc_Mod_closesSession_5 14 rfl)) rfl rfl ?_
    refine EJ_callVv (Y2 := Y_Mod_judges) 178 cf12 (s_Mod_judges G _ _ _ _) (of_decide_eq_true h35) rfl (dk_182 (bt bc_Mod_closesSession_5 15 rfl) (bt bc_Mod_closesSession_5 16 rfl) (bt bc_Mod_closesSession_5 17 rfl) (n := 525) rfl) rfl tw_1825 tw_1827 ts_70 tw_1828 hd_Mod_judges rfl (by decide) (Nat.le_of_ble_eq_true rfl) (fun _ M41 => ?_)
    refine EJ_aload_n 179 0 (dk_42 (bt bc_Mod_closesSession_5 18 rfl)) rfl rfl ?_
    refine EJ_ck (fun h42 => ?_)
    refine EJ_getR cf12 94 (by decide) 182 tw_1292 (fun _ _ _ => rfl) (dk_180 (bt bc_Mod_closesSession_5 19 rfl) (bt bc_Mod_closesSession_5 20 rfl) (bt bc_Mod_closesSession_5 21 rfl) (n := 209) rfl) rfl (of_decide_eq_true h42) (fun b43 => ?_)
    refine EJ_bipush 184 (dk_16 (bt bc_Mod_closesSession_5 22 rfl) (bt bc_Mod_closesSession_5 23 rfl) (n := 60) rfl) rfl (v := 60) kB_60 ?_
    refine EJ_iload_n 185 1 (dk_27 (bt bc_Mod_closesSession_5 24 rfl)) rfl rfl ?_
    refine EJ_imul 186 (dk_104 (bt bc_Mod_closesSession_5 25 rfl)) rfl ?_
    refine EJ_iload 188 4 (dk_21 (bt bc_Mod_closesSession_5 26 rfl) (bt bc_Mod_closesSession_5 27 rfl)) rfl rfl ?_
    refine EJ_iadd 189 (dk_96 (bt bc_Mod_closesSession_5 28 rfl)) rfl ?_
    refine EJ_ck (fun h44 => ?_)
    refine EJ_iald 190 h44 (dk_46 (bt bc_Mod_closesSession_5 29 rfl)) rfl ?_
    refine EJ_if_le 203 193 (dk_158 (bt bc_Mod_closesSession_5 30 rfl) (bt bc_Mod_closesSession_5 31 rfl) (bt bc_Mod_closesSession_6 0 rfl) (n := 13) rfl) (by decide) rfl (fun _ => ?_) (fun _ => ?_)
    · exact EJ_pick (lv2 := [(0, .ref _), (1, .int _), (3, .int _), (4, .int _), (5, .int _)]) [0, 1, 2, 3, 4] rfl (e_Mod_closesSession_J203 k160 hk160 _ _ _ _ _ _)
    · refine EJ_aload_n 194 0 (dk_42 (bt bc_Mod_closesSession_6 1 rfl)) rfl rfl ?_
      refine EJ_getR cf12 80 (by decide) 197 tw_1278 (fun _ _ _ => rfl) (dk_180 (bt bc_Mod_closesSession_6 2 rfl) (bt bc_Mod_closesSession_6 3 rfl) (bt bc_Mod_closesSession_6 4 rfl) (n := 167) rfl) rfl (of_decide_eq_true h42) (fun b46 => ?_)
      refine EJ_iload_n 198 1 (dk_27 (bt bc_Mod_closesSession_6 5 rfl)) rfl rfl ?_
      refine EJ_dup2 199 (dk_92 (bt bc_Mod_closesSession_6 6 rfl)) rfl rfl rfl ?_
      refine EJ_ck (fun h47 => ?_)
      refine EJ_iald 200 h47 (dk_46 (bt bc_Mod_closesSession_6 7 rfl)) rfl ?_
      refine EJ_iconst 201 (dk_4 (bt bc_Mod_closesSession_6 8 rfl)) rfl (v := 1) kI_1 ?_
      refine EJ_iadd 202 (dk_96 (bt bc_Mod_closesSession_6 9 rfl)) rfl ?_
      refine EJ_iast 203 h47 (dk_79 (bt bc_Mod_closesSession_6 10 rfl)) rfl ?_
      exact EJ_pick (lv2 := [(0, .ref _), (1, .int _), (3, .int _), (4, .int _), (5, .int _)]) [0, 1, 2, 3, 4] rfl (e_Mod_closesSession_J203 k160 hk160 _ _ _ _ _ _)
def Mod_closesSession_L160 (n : Nat) : Nat → Int32 → Int32 → Int32 → Int32 → Mm → Option (Unit × Mm) :=
  match n with
  | 0 => fun _ _ _ _ _ _ => none
  | n + 1 => Mod_closesSession_B160 (Mod_closesSession_L160 n)
theorem e_Mod_closesSession_L160 {G : Gx} : ∀ (n : Nat) (x0 : Nat) (x1 : Int32) (x3 : Int32) (x4 : Int32) (x5 : Int32) (M : Mm), EJ G Y_Mod_closesSession cvV 8 160 [(0, .ref x0), (1, .int x1), (3, .int x3), (4, .int x4), (5, .int x5)] [] M (Mod_closesSession_L160 n x0 x1 x3 x4 x5 M) := by
  intro n
  induction n with
  | zero => intros; exact EJ_none
  | succ n ih => intro x0 x1 x3 x4 x5 M; exact e_Mod_closesSession_B160 _ ih x0 x1 x3 x4 x5 M
def Mod_closesSession_J119 (x0 : Nat) (x1 : Int32) (x2 : Int32) (s0 : Int32) (M : Mm) : Option (Unit × Mm) :=
  ck (kO M x0 12 107) (
  nn (mR M x0 92) (fun b25 =>
  ck (kA M b25 20 x2) (
  let v27 : Int32 := mI M b25 (ix x2)
  nn (mR M x0 76) (fun b28 =>
  ck (kA M b28 20 x1) (
  let M30 := sI M b28 (ix x1) v27
  nn (mR M30 x0 82) (fun b31 =>
  ck (kA M30 b31 20 (mI M30 x0 71)) (
  let M33 := sI M30 b31 (ix (mI M30 x0 71)) v27
  let M34 := sI M33 x0 71 ((mI M33 x0 71) + 1)
  Mod_closesSession_L160 fu x0 x1 s0 v27 0 M34)))))))
set_option maxRecDepth 100000 in
set_option maxHeartbeats 4000000 in
theorem e_Mod_closesSession_J119 {G : Gx} (x0 : Nat) (x1 : Int32) (x2 : Int32) (s0 : Int32) (M : Mm) : EJ G Y_Mod_closesSession cvV 8 119 [(0, .ref x0), (1, .int x1), (2, .int x2)] [.int s0] M (Mod_closesSession_J119 x0 x1 x2 s0 M) := by
  unfold Mod_closesSession_J119
  refine EJ_istore_n 120 (lv2 := [(3, .int _), (0, .ref _), (1, .int _), (2, .int _)]) (dk_62 (bt bc_Mod_closesSession_3 23 rfl)) rfl (by decide) rfl ?_
  refine EJ_aload_n 121 1 (dk_42 (bt bc_Mod_closesSession_3 24 rfl)) rfl rfl ?_
  refine EJ_ck (fun h24 => ?_)
  refine EJ_getR cf12 92 (by decide) 124 tw_1290 (fun _ _ _ => rfl) (dk_180 (bt bc_Mod_closesSession_3 25 rfl) (bt bc_Mod_closesSession_3 26 rfl) (bt bc_Mod_closesSession_3 27 rfl) (n := 203) rfl) rfl (of_decide_eq_true h24) (fun b25 => ?_)
  refine EJ_iload_n 125 3 (dk_28 (bt bc_Mod_closesSession_3 28 rfl)) rfl rfl ?_
  refine EJ_ck (fun h26 => ?_)
  refine EJ_iald 126 h26 (dk_46 (bt bc_Mod_closesSession_3 29 rfl)) rfl ?_
  refine EJ_istore 128 (lv2 := [(4, .int _), (3, .int _), (0, .ref _), (1, .int _), (2, .int _)]) (dk_54 (bt bc_Mod_closesSession_3 30 rfl) (bt bc_Mod_closesSession_3 31 rfl)) rfl (by decide) rfl ?_
  refine EJ_aload_n 129 2 (dk_42 (bt bc_Mod_closesSession_4 0 rfl)) rfl rfl ?_
  refine EJ_getR cf12 76 (by decide) 132 tw_1274 (fun _ _ _ => rfl) (dk_180 (bt bc_Mod_closesSession_4 1 rfl) (bt bc_Mod_closesSession_4 2 rfl) (bt bc_Mod_closesSession_4 3 rfl) (n := 155) rfl) rfl (of_decide_eq_true h24) (fun b28 => ?_)
  refine EJ_iload_n 133 3 (dk_27 (bt bc_Mod_closesSession_4 4 rfl)) rfl rfl ?_
  refine EJ_iload 135 0 (dk_21 (bt bc_Mod_closesSession_4 5 rfl) (bt bc_Mod_closesSession_4 6 rfl)) rfl rfl ?_
  refine EJ_ck (fun h29 => ?_)
  refine EJ_iast 136 h29 (dk_79 (bt bc_Mod_closesSession_4 7 rfl)) rfl ?_
  refine EJ_aload_n 137 2 (dk_42 (bt bc_Mod_closesSession_4 8 rfl)) rfl rfl ?_
  refine EJ_getR cf12 82 (by decide) 140 tw_1280 (fun _ _ _ => rfl) (dk_180 (bt bc_Mod_closesSession_4 9 rfl) (bt bc_Mod_closesSession_4 10 rfl) (bt bc_Mod_closesSession_4 11 rfl) (n := 173) rfl) rfl (kp_I (of_decide_eq_true h24)) (fun b31 => ?_)
  refine EJ_aload_n 141 2 (dk_42 (bt bc_Mod_closesSession_4 12 rfl)) rfl rfl ?_
  refine EJ_getI cf12 71 (by decide) 144 tw_1269 (fun _ _ _ => rfl) (dk_180 (bt bc_Mod_closesSession_4 13 rfl) (bt bc_Mod_closesSession_4 14 rfl) (bt bc_Mod_closesSession_4 15 rfl) (n := 495) rfl) rfl (kp_I (of_decide_eq_true h24)) ?_
  refine EJ_iload 146 0 (dk_21 (bt bc_Mod_closesSession_4 16 rfl) (bt bc_Mod_closesSession_4 17 rfl)) rfl rfl ?_
  refine EJ_ck (fun h32 => ?_)
  refine EJ_iast 147 h32 (dk_79 (bt bc_Mod_closesSession_4 18 rfl)) rfl ?_
  refine EJ_aload_n 148 2 (dk_42 (bt bc_Mod_closesSession_4 19 rfl)) rfl rfl ?_
  refine EJ_dup 149 (dk_89 (bt bc_Mod_closesSession_4 20 rfl)) rfl rfl ?_
  refine EJ_getI cf12 71 (by decide) 152 tw_1269 (fun _ _ _ => rfl) (dk_180 (bt bc_Mod_closesSession_4 21 rfl) (bt bc_Mod_closesSession_4 22 rfl) (bt bc_Mod_closesSession_4 23 rfl) (n := 495) rfl) rfl (kp_I (kp_I (of_decide_eq_true h24))) ?_
  refine EJ_iconst 153 (dk_4 (bt bc_Mod_closesSession_4 24 rfl)) rfl (v := 1) kI_1 ?_
  refine EJ_iadd 154 (dk_96 (bt bc_Mod_closesSession_4 25 rfl)) rfl ?_
  refine EJ_putI cf12 71 (by decide) 157 tw_1269 rfl (Or.inl rfl) (dk_181 (bt bc_Mod_closesSession_4 26 rfl) (bt bc_Mod_closesSession_4 27 rfl) (bt bc_Mod_closesSession_4 28 rfl) (n := 495) rfl) rfl (kp_I (kp_I (of_decide_eq_true h24))) ?_
  refine EJ_iconst 158 (dk_3 (bt bc_Mod_closesSession_4 29 rfl)) rfl (v := 0) kI_0 ?_
  refine EJ_istore 160 (lv2 := [(5, .int _), (4, .int _), (3, .int _), (0, .ref _), (1, .int _), (2, .int _)]) (dk_54 (bt bc_Mod_closesSession_4 30 rfl) (bt bc_Mod_closesSession_4 31 rfl)) rfl (by decide) rfl ?_
  exact EJ_pick (lv2 := [(0, .ref _), (1, .int _), (3, .int _), (4, .int _), (5, .int _)]) [3, 4, 2, 1, 0] rfl (e_Mod_closesSession_L160 fu _ _ _ _ _ _)
def Mod_closesSession_B34 (k34 : Nat → Int32 → Int32 → Mm → Option (Unit × Mm)) (x0 : Nat) (x1 : Int32) (x2 : Int32) (M : Mm) : Option (Unit × Mm) :=
  if 60 ≤ x2 then (
    ck (kO M x0 12 107) (
    nn (mR M x0 79) (fun b13 =>
    ck (kA M b13 20 x1) (
    let v15 : Int32 := ((60 * x1) + (mI M b13 (ix x1))) - 1
    nn (mR M x0 79) (fun b16 =>
    ck (kA M b16 20 x1) (
    if (mI M b16 (ix x1)) = 0 then (
      some ((), M))
    else (
      nn (mR M x0 93) (fun b18 =>
      ck (kA M b18 20 v15) (
      nn (mR M x0 77) (fun b20 =>
      ck (kA M b20 20 x1) (
      if ((mI M x0 0) - (mI M b20 (ix x1))) ≤ (mI M b18 (ix v15)) then (
        if (mI M x0 71) = 0 then (
          Mod_closesSession_J119 x0 x1 v15 0 M)
        else (
          nn (mR M x0 82) (fun b22 =>
          ck (kA M b22 20 ((mI M x0 71) - 1)) (
          Mod_closesSession_J119 x0 x1 v15 (mI M b22 (ix ((mI M x0 71) - 1))) M))))
      else (
        some ((), M)))))))))))))
  else (
    ck (kO M x0 12 107) (
    nn (mR M x0 100) (fun b50 =>
    ck (kA M b50 20 x2) (
    let M52 := sI M b50 (ix x2) 0
    let v53 : Int32 := x2 + 1
    k34 x0 x1 v53 M52))))
set_option maxRecDepth 100000 in
set_option maxHeartbeats 4000000 in
theorem e_Mod_closesSession_B34 {G : Gx} (k34 : Nat → Int32 → Int32 → Mm → Option (Unit × Mm)) (hk34 : ∀ (x0 : Nat) (x1 : Int32) (x2 : Int32) (M : Mm), EJ G Y_Mod_closesSession cvV 8 34 [(0, .ref x0), (1, .int x1), (2, .int x2)] [] M (k34 x0 x1 x2 M)) (x0 : Nat) (x1 : Int32) (x2 : Int32) (M : Mm) : EJ G Y_Mod_closesSession cvV 8 34 [(0, .ref x0), (1, .int x1), (2, .int x2)] [] M (Mod_closesSession_B34 k34 x0 x1 x2 M) := by
  unfold Mod_closesSession_B34
  refine EJ_iload_n 35 2 (dk_28 (bt bc_Mod_closesSession_1 2 rfl)) rfl rfl ?_
  refine EJ_bipush 37 (dk_16 (bt bc_Mod_closesSession_1 3 rfl) (bt bc_Mod_closesSession_1 4 rfl) (n := 60) rfl) rfl (v := 60) kB_60 ?_
  refine EJ_icmp_ge 53 40 (dk_162 (bt bc_Mod_closesSession_1 5 rfl) (bt bc_Mod_closesSession_1 6 rfl) (bt bc_Mod_closesSession_1 7 rfl) (n := 16) rfl) (by decide) rfl (fun _ => ?_) (fun _ => ?_)
  · refine EJ_bipush 55 (dk_16 (bt bc_Mod_closesSession_1 21 rfl) (bt bc_Mod_closesSession_1 22 rfl) (n := 60) rfl) rfl (v := 60) kB_60 ?_
    refine EJ_iload_n 56 1 (dk_27 (bt bc_Mod_closesSession_1 23 rfl)) rfl rfl ?_
    refine EJ_imul 57 (dk_104 (bt bc_Mod_closesSession_1 24 rfl)) rfl ?_
    refine EJ_aload_n 58 0 (dk_42 (bt bc_Mod_closesSession_1 25 rfl)) rfl rfl ?_
    refine EJ_ck (fun h12 => ?_)
    refine EJ_getR cf12 79 (by decide) 61 tw_1277 (fun _ _ _ => rfl) (dk_180 (bt bc_Mod_closesSession_1 26 rfl) (bt bc_Mod_closesSession_1 27 rfl) (bt bc_Mod_closesSession_1 28 rfl) (n := 164) rfl) rfl (of_decide_eq_true h12) (fun b13 => ?_)
    refine EJ_iload_n 62 1 (dk_27 (bt bc_Mod_closesSession_1 29 rfl)) rfl rfl ?_
    refine EJ_ck (fun h14 => ?_)
    refine EJ_iald 63 h14 (dk_46 (bt bc_Mod_closesSession_1 30 rfl)) rfl ?_
    refine EJ_iadd 64 (dk_96 (bt bc_Mod_closesSession_1 31 rfl)) rfl ?_
    refine EJ_iconst 65 (dk_4 (bt bc_Mod_closesSession_2 0 rfl)) rfl (v := 1) kI_1 ?_
    refine EJ_isub 66 (dk_100 (bt bc_Mod_closesSession_2 1 rfl)) rfl ?_
    refine EJ_istore_n 67 (lv2 := [(2, .int _), (0, .ref _), (1, .int _)]) (dk_61 (bt bc_Mod_closesSession_2 2 rfl)) rfl (by decide) rfl ?_
    refine EJ_aload_n 68 1 (dk_42 (bt bc_Mod_closesSession_2 3 rfl)) rfl rfl ?_
    refine EJ_getR cf12 79 (by decide) 71 tw_1277 (fun _ _ _ => rfl) (dk_180 (bt bc_Mod_closesSession_2 4 rfl) (bt bc_Mod_closesSession_2 5 rfl) (bt bc_Mod_closesSession_2 6 rfl) (n := 164) rfl) rfl (of_decide_eq_true h12) (fun b16 => ?_)
    refine EJ_iload_n 72 2 (dk_27 (bt bc_Mod_closesSession_2 7 rfl)) rfl rfl ?_
    refine EJ_ck (fun h17 => ?_)
    refine EJ_iald 73 h17 (dk_46 (bt bc_Mod_closesSession_2 8 rfl)) rfl ?_
    refine EJ_if_eq 96 76 (dk_153 (bt bc_Mod_closesSession_2 9 rfl) (bt bc_Mod_closesSession_2 10 rfl) (bt bc_Mod_closesSession_2 11 rfl) (n := 23) rfl) (by decide) rfl (fun _ => ?_) (fun _ => ?_)
    · exact EJ_vret rfl (dk_177 (bt bc_Mod_closesSession_3 0 rfl))
    · refine EJ_aload_n 77 1 (dk_42 (bt bc_Mod_closesSession_2 12 rfl)) rfl rfl ?_
      refine EJ_getR cf12 93 (by decide) 80 tw_1291 (fun _ _ _ => rfl) (dk_180 (bt bc_Mod_closesSession_2 13 rfl) (bt bc_Mod_closesSession_2 14 rfl) (bt bc_Mod_closesSession_2 15 rfl) (n := 206) rfl) rfl (of_decide_eq_true h12) (fun b18 => ?_)
      refine EJ_iload_n 81 0 (dk_28 (bt bc_Mod_closesSession_2 16 rfl)) rfl rfl ?_
      refine EJ_ck (fun h19 => ?_)
      refine EJ_iald 82 h19 (dk_46 (bt bc_Mod_closesSession_2 17 rfl)) rfl ?_
      refine EJ_aload_n 83 1 (dk_42 (bt bc_Mod_closesSession_2 18 rfl)) rfl rfl ?_
      refine EJ_getI cf12 0 (by decide) 86 tw_1198 (fun _ _ _ => rfl) (dk_180 (bt bc_Mod_closesSession_2 19 rfl) (bt bc_Mod_closesSession_2 20 rfl) (bt bc_Mod_closesSession_2 21 rfl) (n := 284) rfl) rfl (of_decide_eq_true h12) ?_
      refine EJ_aload_n 87 1 (dk_42 (bt bc_Mod_closesSession_2 22 rfl)) rfl rfl ?_
      refine EJ_getR cf12 77 (by decide) 90 tw_1275 (fun _ _ _ => rfl) (dk_180 (bt bc_Mod_closesSession_2 23 rfl) (bt bc_Mod_closesSession_2 24 rfl) (bt bc_Mod_closesSession_2 25 rfl) (n := 158) rfl) rfl (of_decide_eq_true h12) (fun b20 => ?_)
      refine EJ_iload_n 91 2 (dk_27 (bt bc_Mod_closesSession_2 26 rfl)) rfl rfl ?_
      refine EJ_ck (fun h21 => ?_)
      refine EJ_iald 92 h21 (dk_46 (bt bc_Mod_closesSession_2 27 rfl)) rfl ?_
      refine EJ_isub 93 (dk_100 (bt bc_Mod_closesSession_2 28 rfl)) rfl ?_
      refine EJ_icmp_ge 97 96 (dk_162 (bt bc_Mod_closesSession_2 29 rfl) (bt bc_Mod_closesSession_2 30 rfl) (bt bc_Mod_closesSession_2 31 rfl) (n := 4) rfl) (by decide) rfl (fun _ => ?_) (fun _ => ?_)
      · refine EJ_aload_n 98 1 (dk_42 (bt bc_Mod_closesSession_3 1 rfl)) rfl rfl ?_
        refine EJ_getI cf12 71 (by decide) 101 tw_1269 (fun _ _ _ => rfl) (dk_180 (bt bc_Mod_closesSession_3 2 rfl) (bt bc_Mod_closesSession_3 3 rfl) (bt bc_Mod_closesSession_3 4 rfl) (n := 495) rfl) rfl (of_decide_eq_true h12) ?_
        refine EJ_if_ne 108 104 (dk_154 (bt bc_Mod_closesSession_3 5 rfl) (bt bc_Mod_closesSession_3 6 rfl) (bt bc_Mod_closesSession_3 7 rfl) (n := 7) rfl) (by decide) rfl (fun _ => ?_) (fun _ => ?_)
        · refine EJ_aload_n 109 1 (dk_42 (bt bc_Mod_closesSession_3 12 rfl)) rfl rfl ?_
          refine EJ_getR cf12 82 (by decide) 112 tw_1280 (fun _ _ _ => rfl) (dk_180 (bt bc_Mod_closesSession_3 13 rfl) (bt bc_Mod_closesSession_3 14 rfl) (bt bc_Mod_closesSession_3 15 rfl) (n := 173) rfl) rfl (of_decide_eq_true h12) (fun b22 => ?_)
          refine EJ_aload_n 113 1 (dk_42 (bt bc_Mod_closesSession_3 16 rfl)) rfl rfl ?_
          refine EJ_getI cf12 71 (by decide) 116 tw_1269 (fun _ _ _ => rfl) (dk_180 (bt bc_Mod_closesSession_3 17 rfl) (bt bc_Mod_closesSession_3 18 rfl) (bt bc_Mod_closesSession_3 19 rfl) (n := 495) rfl) rfl (of_decide_eq_true h12) ?_
          refine EJ_iconst 117 (dk_4 (bt bc_Mod_closesSession_3 20 rfl)) rfl (v := 1) kI_1 ?_
          refine EJ_isub 118 (dk_100 (bt bc_Mod_closesSession_3 21 rfl)) rfl ?_
          refine EJ_ck (fun h23 => ?_)
          refine EJ_iald 119 h23 (dk_46 (bt bc_Mod_closesSession_3 22 rfl)) rfl ?_
          exact EJ_pick (lv2 := [(0, .ref _), (1, .int _), (2, .int _)]) [1, 2, 0] rfl (e_Mod_closesSession_J119 _ _ _ _ _)
        · refine EJ_iconst 105 (dk_3 (bt bc_Mod_closesSession_3 8 rfl)) rfl (v := 0) kI_0 ?_
          refine EJ_goto 119 (dk_167 (bt bc_Mod_closesSession_3 9 rfl) (bt bc_Mod_closesSession_3 10 rfl) (bt bc_Mod_closesSession_3 11 rfl) (n := 14) rfl) (by decide) ?_
          exact EJ_pick (lv2 := [(0, .ref _), (1, .int _), (2, .int _)]) [1, 2, 0] rfl (e_Mod_closesSession_J119 _ _ _ _ _)
      · exact EJ_vret rfl (dk_177 (bt bc_Mod_closesSession_3 0 rfl))
  · refine EJ_aload_n 41 0 (dk_42 (bt bc_Mod_closesSession_1 8 rfl)) rfl rfl ?_
    refine EJ_ck (fun h49 => ?_)
    refine EJ_getR cf12 100 (by decide) 44 tw_1298 (fun _ _ _ => rfl) (dk_180 (bt bc_Mod_closesSession_1 9 rfl) (bt bc_Mod_closesSession_1 10 rfl) (bt bc_Mod_closesSession_1 11 rfl) (n := 227) rfl) rfl (of_decide_eq_true h49) (fun b50 => ?_)
    refine EJ_iload_n 45 2 (dk_28 (bt bc_Mod_closesSession_1 12 rfl)) rfl rfl ?_
    refine EJ_iconst 46 (dk_3 (bt bc_Mod_closesSession_1 13 rfl)) rfl (v := 0) kI_0 ?_
    refine EJ_ck (fun h51 => ?_)
    refine EJ_iast 47 h51 (dk_79 (bt bc_Mod_closesSession_1 14 rfl)) rfl ?_
    refine EJ_iinc 50 2 (lv2 := [(2, .int _), (0, .ref _), (1, .int _)]) (dk_132 (bt bc_Mod_closesSession_1 15 rfl) (bt bc_Mod_closesSession_1 16 rfl) (bt bc_Mod_closesSession_1 17 rfl) (n := 1) rfl) rfl (by decide) rfl (v := 1) kI_1 rfl ?_
    refine EJ_goto 34 (dk_167 (bt bc_Mod_closesSession_1 18 rfl) (bt bc_Mod_closesSession_1 19 rfl) (bt bc_Mod_closesSession_1 20 rfl) (n := -16) rfl) (by decide) ?_
    exact EJ_pick (lv2 := [(0, .ref _), (1, .int _), (2, .int _)]) [1, 2, 0] rfl (hk34 _ _ _ _)
def Mod_closesSession_L34 (n : Nat) : Nat → Int32 → Int32 → Mm → Option (Unit × Mm) :=
  match n with
  | 0 => fun _ _ _ _ => none
  | n + 1 => Mod_closesSession_B34 (Mod_closesSession_L34 n)
theorem e_Mod_closesSession_L34 {G : Gx} : ∀ (n : Nat) (x0 : Nat) (x1 : Int32) (x2 : Int32) (M : Mm), EJ G Y_Mod_closesSession cvV 8 34 [(0, .ref x0), (1, .int x1), (2, .int x2)] [] M (Mod_closesSession_L34 n x0 x1 x2 M) := by
  intro n
  induction n with
  | zero => intros; exact EJ_none
  | succ n ih => intro x0 x1 x2 M; exact e_Mod_closesSession_B34 _ ih x0 x1 x2 M
def Mod_closesSession (M : Mm) (a0 : Nat) (a1 : Int32) : Option (Unit × Mm) :=
  ck (kO M a0 12 107) (
  let M2 := sI M a0 73 0
  let M3 := sI M2 a0 72 0
  nn (mR M3 a0 75) (fun b4 =>
  ck (kA M3 b4 20 a1) (
  let M6 := sI M3 b4 (ix a1) (mI M3 a0 0)
  nn (mR M6 a0 77) (fun b7 =>
  bd (Mod_asked M6 a0 6) (fun r8 M9 =>
  ck (kA M9 b7 20 a1) (
  let M11 := sI M9 b7 (ix a1) r8
  Mod_closesSession_L34 fu a0 a1 0 M11))))))
set_option maxRecDepth 100000 in
set_option maxHeartbeats 4000000 in
theorem s_Mod_closesSession (G : Gx) (M : Mm) (a0 : Nat) (a1 : Int32) : FnS G Y_Mod_closesSession cvV 8 [.ref a0, .int a1] M (Mod_closesSession M a0 a1) := by
  refine FnS.ofE (by decide) (Nat.le_of_ble_eq_true rfl) ?_
  show EJ G Y_Mod_closesSession cvV 8 0 [(0, .ref a0), (1, .int a1)] [] M _
  unfold Mod_closesSession
  refine EJ_aload_n 1 0 (dk_42 (bt bc_Mod_closesSession_0 0 rfl)) rfl rfl ?_
  refine EJ_iconst 2 (dk_3 (bt bc_Mod_closesSession_0 1 rfl)) rfl (v := 0) kI_0 ?_
  refine EJ_ck (fun h1 => ?_)
  refine EJ_putZ cf12 73 (by decide) 5 tw_1271 rfl (Or.inl rfl) (by decide) (dk_181 (bt bc_Mod_closesSession_0 2 rfl) (bt bc_Mod_closesSession_0 3 rfl) (bt bc_Mod_closesSession_0 4 rfl) (n := 510) rfl) rfl (of_decide_eq_true h1) ?_
  refine EJ_aload_n 6 0 (dk_42 (bt bc_Mod_closesSession_0 5 rfl)) rfl rfl ?_
  refine EJ_iconst 7 (dk_3 (bt bc_Mod_closesSession_0 6 rfl)) rfl (v := 0) kI_0 ?_
  refine EJ_putI cf12 72 (by decide) 10 tw_1270 rfl (Or.inl rfl) (dk_181 (bt bc_Mod_closesSession_0 7 rfl) (bt bc_Mod_closesSession_0 8 rfl) (bt bc_Mod_closesSession_0 9 rfl) (n := 516) rfl) rfl (kp_I (of_decide_eq_true h1)) ?_
  refine EJ_aload_n 11 0 (dk_42 (bt bc_Mod_closesSession_0 10 rfl)) rfl rfl ?_
  refine EJ_getR cf12 75 (by decide) 14 tw_1273 (fun _ _ _ => rfl) (dk_180 (bt bc_Mod_closesSession_0 11 rfl) (bt bc_Mod_closesSession_0 12 rfl) (bt bc_Mod_closesSession_0 13 rfl) (n := 152) rfl) rfl (kp_I (kp_I (of_decide_eq_true h1))) (fun b4 => ?_)
  refine EJ_iload_n 15 1 (dk_27 (bt bc_Mod_closesSession_0 14 rfl)) rfl rfl ?_
  refine EJ_aload_n 16 0 (dk_42 (bt bc_Mod_closesSession_0 15 rfl)) rfl rfl ?_
  refine EJ_getI cf12 0 (by decide) 19 tw_1198 (fun _ _ _ => rfl) (dk_180 (bt bc_Mod_closesSession_0 16 rfl) (bt bc_Mod_closesSession_0 17 rfl) (bt bc_Mod_closesSession_0 18 rfl) (n := 284) rfl) rfl (kp_I (kp_I (of_decide_eq_true h1))) ?_
  refine EJ_ck (fun h5 => ?_)
  refine EJ_iast 20 h5 (dk_79 (bt bc_Mod_closesSession_0 19 rfl)) rfl ?_
  refine EJ_aload_n 21 0 (dk_42 (bt bc_Mod_closesSession_0 20 rfl)) rfl rfl ?_
  refine EJ_getR cf12 77 (by decide) 24 tw_1275 (fun _ _ _ => rfl) (dk_180 (bt bc_Mod_closesSession_0 21 rfl) (bt bc_Mod_closesSession_0 22 rfl) (bt bc_Mod_closesSession_0 23 rfl) (n := 158) rfl) rfl (kp_I (kp_I (kp_I (of_decide_eq_true h1)))) (fun b7 => ?_)
  refine EJ_iload_n 25 1 (dk_27 (bt bc_Mod_closesSession_0 24 rfl)) rfl rfl ?_
  refine EJ_aload_n 26 0 (dk_42 (bt bc_Mod_closesSession_0 25 rfl)) rfl rfl ?_
  refine EJ_bipush 28 (dk_16 (bt bc_Mod_closesSession_0 26 rfl) (bt bc_Mod_closesSession_0 27 rfl) (n := 6) rfl) rfl (v := 6) kB_6 ?_
  refine EJ_callVi (Y2 := Y_Mod_asked) 31 cf12 (s_Mod_asked G _ _ _) (kp_I (kp_I (kp_I (of_decide_eq_true h1)))) rfl (dk_182 (bt bc_Mod_closesSession_0 28 rfl) (bt bc_Mod_closesSession_0 29 rfl) (bt bc_Mod_closesSession_0 30 rfl) (n := 302) rfl) rfl tw_1608 tw_1610 ts_44 tw_1611 hd_Mod_asked rfl (by decide) (Nat.le_of_ble_eq_true rfl) (fun r8 M9 => ?_)
  refine EJ_ck (fun h10 => ?_)
  refine EJ_iast 32 h10 (dk_79 (bt bc_Mod_closesSession_0 31 rfl)) rfl ?_
  refine EJ_iconst 33 (dk_3 (bt bc_Mod_closesSession_1 0 rfl)) rfl (v := 0) kI_0 ?_
  refine EJ_istore_n 34 (lv2 := [(2, .int _), (0, .ref _), (1, .int _)]) (dk_61 (bt bc_Mod_closesSession_1 1 rfl)) rfl (by decide) rfl ?_
  exact EJ_pick (lv2 := [(0, .ref _), (1, .int _), (2, .int _)]) [1, 2, 0] rfl (e_Mod_closesSession_L34 fu _ _ _ _)
abbrev Y_Mod_pass : Ym := (⟨"RiceHallModel", "pass", "(I)I"⟩, prog_14_method_76_code, 5, (some FieldType.int))
theorem bc_Mod_pass_0 : bts prog_14_method_76_code 0 [27, 4, 17, 11, 184, 184, 0, 252, 153, 0, 15, 42, 180, 1, 28, 27, 96, 19, 1, 8, 164, 0, 5, 2, 172, 3, 61, 28, 27, 162, 0, 94] := bts_of (by decide +kernel)
theorem bc_Mod_pass_1 : bts prog_14_method_76_code 32 [42, 180, 1, 254, 153, 0, 25, 42, 7, 182, 1, 46, 133, 42, 8, 182, 1, 46, 133, 42, 180, 1, 236, 133, 105, 97, 167, 0, 4, 9, 66, 42] := bts_of (by decide +kernel)
theorem bc_Mod_pass_2 : bts prog_14_method_76_code 64 [89, 180, 1, 28, 4, 96, 181, 1, 28, 42, 180, 1, 254, 154, 0, 6, 167, 0, 37, 33, 42, 180, 2, 4, 133, 148, 155, 0, 16, 42, 42, 180] := bts_of (by decide +kernel)
theorem bc_Mod_pass_3 : bts prog_14_method_76_code 96 [2, 1, 4, 100, 182, 2, 32, 167, 0, 14, 42, 89, 180, 2, 4, 33, 136, 100, 181, 2, 4, 132, 2, 1, 167, 255, 163, 42, 180, 1, 28, 172] := bts_of (by decide +kernel)
theorem hd_Mod_pass : Y_Mod_pass.1.cls = RX12 ∧ Y_Mod_pass.1.cls ≠ "java/lang/invoke/MethodHandle" ∧ Y_Mod_pass.1.cls ≠ "java/lang/invoke/VarHandle" ∧ (parseMethodDescriptor Y_Mod_pass.1.desc).map (fun d => d.parameters.length) = some 1 := by decide +kernel
def Mod_pass_J117 (k27 : Nat → Int32 → Int32 → Mm → Option (Int32 × Mm)) (x0 : Nat) (x1 : Int32) (x2 : Int32) (M : Mm) : Option (Int32 × Mm) :=
  let v9 : Int32 := x2 + 1
  k27 x0 x1 v9 M
set_option maxRecDepth 100000 in
set_option maxHeartbeats 4000000 in
theorem e_Mod_pass_J117 {G : Gx} (k27 : Nat → Int32 → Int32 → Mm → Option (Int32 × Mm)) (hk27 : ∀ (x0 : Nat) (x1 : Int32) (x2 : Int32) (M : Mm), EJ G Y_Mod_pass cvI 9 27 [(0, .ref x0), (1, .int x1), (2, .int x2)] [] M (k27 x0 x1 x2 M)) (x0 : Nat) (x1 : Int32) (x2 : Int32) (M : Mm) : EJ G Y_Mod_pass cvI 9 117 [(0, .ref x0), (1, .int x1), (2, .int x2)] [] M (Mod_pass_J117 k27 x0 x1 x2 M) := by
  unfold Mod_pass_J117
  refine EJ_iinc 120 2 (lv2 := [(2, .int _), (0, .ref _), (1, .int _)]) (dk_132 (bt bc_Mod_pass_3 21 rfl) (bt bc_Mod_pass_3 22 rfl) (bt bc_Mod_pass_3 23 rfl) (n := 1) rfl) rfl (by decide) rfl (v := 1) kI_1 rfl ?_
  refine EJ_goto 27 (dk_167 (bt bc_Mod_pass_3 24 rfl) (bt bc_Mod_pass_3 25 rfl) (bt bc_Mod_pass_3 26 rfl) (n := -93) rfl) (by decide) ?_
  exact EJ_pick (lv2 := [(0, .ref _), (1, .int _), (2, .int _)]) [1, 2, 0] rfl (hk27 _ _ _ _)
def Mod_pass_J62 (k27 : Nat → Int32 → Int32 → Mm → Option (Int32 × Mm)) (x0 : Nat) (x1 : Int32) (x2 : Int32) (s0 : Int64) (M : Mm) : Option (Int32 × Mm) :=
  ck (kO M x0 12 107) (
  let M7 := sI M x0 0 ((mI M x0 0) + 1)
  if (mI M7 x0 73) = 0 then (
    Mod_pass_J117 k27 x0 x1 x2 M7)
  else (
    if s0 < (Int32.toInt64 (mI M7 x0 72)) then (
      let M8 := sI M7 x0 72 ((mI M7 x0 72) - (Int64.toInt32 s0))
      Mod_pass_J117 k27 x0 x1 x2 M8)
    else (
      bd (Mod_closesSession M7 x0 ((mI M7 x0 70) - 1)) (fun _ M11 =>
      Mod_pass_J117 k27 x0 x1 x2 M11))))
set_option maxRecDepth 100000 in
set_option maxHeartbeats 4000000 in
theorem e_Mod_pass_J62 {G : Gx} (k27 : Nat → Int32 → Int32 → Mm → Option (Int32 × Mm)) (hk27 : ∀ (x0 : Nat) (x1 : Int32) (x2 : Int32) (M : Mm), EJ G Y_Mod_pass cvI 9 27 [(0, .ref x0), (1, .int x1), (2, .int x2)] [] M (k27 x0 x1 x2 M)) (x0 : Nat) (x1 : Int32) (x2 : Int32) (s0 : Int64) (M : Mm) : EJ G Y_Mod_pass cvI 9 62 [(0, .ref x0), (1, .int x1), (2, .int x2)] [.long s0] M (Mod_pass_J62 k27 x0 x1 x2 s0 M) := by
  unfold Mod_pass_J62
  refine EJ_lstore_n 63 (lv2 := [(3, .long _), (0, .ref _), (1, .int _), (2, .int _)]) (dk_66 (bt bc_Mod_pass_1 30 rfl)) rfl (by decide) rfl ?_
  refine EJ_aload_n 64 1 (dk_42 (bt bc_Mod_pass_1 31 rfl)) rfl rfl ?_
  refine EJ_dup 65 (dk_89 (bt bc_Mod_pass_2 0 rfl)) rfl rfl ?_
  refine EJ_ck (fun h6 => ?_)
  refine EJ_getI cf12 0 (by decide) 68 tw_1198 (fun _ _ _ => rfl) (dk_180 (bt bc_Mod_pass_2 1 rfl) (bt bc_Mod_pass_2 2 rfl) (bt bc_Mod_pass_2 3 rfl) (n := 284) rfl) rfl (of_decide_eq_true h6) ?_
  refine EJ_iconst 69 (dk_4 (bt bc_Mod_pass_2 4 rfl)) rfl (v := 1) kI_1 ?_
  refine EJ_iadd 70 (dk_96 (bt bc_Mod_pass_2 5 rfl)) rfl ?_
  refine EJ_putI cf12 0 (by decide) 73 tw_1198 rfl (Or.inl rfl) (dk_181 (bt bc_Mod_pass_2 6 rfl) (bt bc_Mod_pass_2 7 rfl) (bt bc_Mod_pass_2 8 rfl) (n := 284) rfl) rfl (of_decide_eq_true h6) ?_
  refine EJ_aload_n 74 1 (dk_42 (bt bc_Mod_pass_2 9 rfl)) rfl rfl ?_
  refine EJ_getI cf12 73 (by decide) 77 tw_1271 (fun _ _ _ => rfl) (dk_180 (bt bc_Mod_pass_2 10 rfl) (bt bc_Mod_pass_2 11 rfl) (bt bc_Mod_pass_2 12 rfl) (n := 510) rfl) rfl (kp_I (of_decide_eq_true h6)) ?_
  refine EJ_if_ne 83 80 (dk_154 (bt bc_Mod_pass_2 13 rfl) (bt bc_Mod_pass_2 14 rfl) (bt bc_Mod_pass_2 15 rfl) (n := 6) rfl) (by decide) rfl (fun _ => ?_) (fun _ => ?_)
  · refine EJ_lload_n 84 0 (dk_33 (bt bc_Mod_pass_2 19 rfl)) rfl rfl ?_
    refine EJ_aload_n 85 1 (dk_42 (bt bc_Mod_pass_2 20 rfl)) rfl rfl ?_
    refine EJ_getI cf12 72 (by decide) 88 tw_1270 (fun _ _ _ => rfl) (dk_180 (bt bc_Mod_pass_2 21 rfl) (bt bc_Mod_pass_2 22 rfl) (bt bc_Mod_pass_2 23 rfl) (n := 516) rfl) rfl (kp_I (of_decide_eq_true h6)) ?_
    refine EJ_i2l 89 (dk_133 (bt bc_Mod_pass_2 24 rfl)) rfl ?_
    refine EJ_lcmp_lt 106 93 (dk_148 (bt bc_Mod_pass_2 25 rfl)) (dk_155 (bt bc_Mod_pass_2 26 rfl) (bt bc_Mod_pass_2 27 rfl) (bt bc_Mod_pass_2 28 rfl) (n := 16) rfl) (by decide) rfl (fun _ => ?_) (fun _ => ?_)
    · refine EJ_aload_n 107 1 (dk_42 (bt bc_Mod_pass_3 10 rfl)) rfl rfl ?_
      refine EJ_dup 108 (dk_89 (bt bc_Mod_pass_3 11 rfl)) rfl rfl ?_
      refine EJ_getI cf12 72 (by decide) 111 tw_1270 (fun _ _ _ => rfl) (dk_180 (bt bc_Mod_pass_3 12 rfl) (bt bc_Mod_pass_3 13 rfl) (bt bc_Mod_pass_3 14 rfl) (n := 516) rfl) rfl (kp_I (of_decide_eq_true h6)) ?_
      refine EJ_lload_n 112 0 (dk_33 (bt bc_Mod_pass_3 15 rfl)) rfl rfl ?_
      refine EJ_l2i 113 (dk_136 (bt bc_Mod_pass_3 16 rfl)) rfl ?_
      refine EJ_isub 114 (dk_100 (bt bc_Mod_pass_3 17 rfl)) rfl ?_
      refine EJ_putI cf12 72 (by decide) 117 tw_1270 rfl (Or.inl rfl) (dk_181 (bt bc_Mod_pass_3 18 rfl) (bt bc_Mod_pass_3 19 rfl) (bt bc_Mod_pass_3 20 rfl) (n := 516) rfl) rfl (kp_I (of_decide_eq_true h6)) ?_
      exact EJ_pick (lv2 := [(0, .ref _), (1, .int _), (2, .int _)]) [1, 2, 3] rfl (e_Mod_pass_J117 k27 hk27 _ _ _ _)
    · refine EJ_aload_n 94 1 (dk_42 (bt bc_Mod_pass_2 29 rfl)) rfl rfl ?_
      refine EJ_aload_n 95 1 (dk_42 (bt bc_Mod_pass_2 30 rfl)) rfl rfl ?_
      refine EJ_getI cf12 70 (by decide) 98 tw_1268 (fun _ _ _ => rfl) (dk_180 (bt bc_Mod_pass_2 31 rfl) (bt bc_Mod_pass_3 0 rfl) (bt bc_Mod_pass_3 1 rfl) (n := 513) rfl) rfl (kp_I (of_decide_eq_true h6)) ?_
      refine EJ_iconst 99 (dk_4 (bt bc_Mod_pass_3 2 rfl)) rfl (v := 1) kI_1 ?_
      refine EJ_isub 100 (dk_100 (bt bc_Mod_pass_3 3 rfl)) rfl ?_
      refine EJ_callVv (Y2 := Y_Mod_closesSession) 103 cf12 (s_Mod_closesSession G _ _ _) (kp_I (of_decide_eq_true h6)) rfl (dk_182 (bt bc_Mod_pass_3 4 rfl) (bt bc_Mod_pass_3 5 rfl) (bt bc_Mod_pass_3 6 rfl) (n := 544) rfl) rfl tw_1821 tw_1823 ts_69 tw_1824 hd_Mod_closesSession rfl (by decide) (Nat.le_of_ble_eq_true rfl) (fun _ M11 => ?_)
      refine EJ_goto 117 (dk_167 (bt bc_Mod_pass_3 7 rfl) (bt bc_Mod_pass_3 8 rfl) (bt bc_Mod_pass_3 9 rfl) (n := 14) rfl) (by decide) ?_
      exact EJ_pick (lv2 := [(0, .ref _), (1, .int _), (2, .int _)]) [1, 2, 3] rfl (e_Mod_pass_J117 k27 hk27 _ _ _ _)
  · refine EJ_goto 117 (dk_167 (bt bc_Mod_pass_2 16 rfl) (bt bc_Mod_pass_2 17 rfl) (bt bc_Mod_pass_2 18 rfl) (n := 37) rfl) (by decide) ?_
    exact EJ_pick (lv2 := [(0, .ref _), (1, .int _), (2, .int _)]) [1, 2, 3] rfl (e_Mod_pass_J117 k27 hk27 _ _ _ _)
def Mod_pass_B27 (k27 : Nat → Int32 → Int32 → Mm → Option (Int32 × Mm)) (x0 : Nat) (x1 : Int32) (x2 : Int32) (M : Mm) : Option (Int32 × Mm) :=
  if x1 ≤ x2 then (
    ck (kO M x0 12 107) (
    some (mI M x0 0, M)))
  else (
    ck (kO M x0 12 107) (
    if (mI M x0 73) = 0 then (
      Mod_pass_J62 k27 x0 x1 x2 0 M)
    else (
      bd (Mod_asked M x0 4) (fun r12 M13 =>
      ck (kO M13 x0 12 107) (
      bd (Mod_asked M13 x0 5) (fun r15 M16 =>
      ck (kO M16 x0 12 107) (
      Mod_pass_J62 k27 x0 x1 x2 ((Int32.toInt64 r12) + ((Int32.toInt64 r15) * (Int32.toInt64 (mI M16 x0 1)))) M16)))))))
set_option maxRecDepth 100000 in
set_option maxHeartbeats 4000000 in
theorem e_Mod_pass_B27 {G : Gx} (k27 : Nat → Int32 → Int32 → Mm → Option (Int32 × Mm)) (hk27 : ∀ (x0 : Nat) (x1 : Int32) (x2 : Int32) (M : Mm), EJ G Y_Mod_pass cvI 9 27 [(0, .ref x0), (1, .int x1), (2, .int x2)] [] M (k27 x0 x1 x2 M)) (x0 : Nat) (x1 : Int32) (x2 : Int32) (M : Mm) : EJ G Y_Mod_pass cvI 9 27 [(0, .ref x0), (1, .int x1), (2, .int x2)] [] M (Mod_pass_B27 k27 x0 x1 x2 M) := by
  unfold Mod_pass_B27
  refine EJ_iload_n 28 2 (dk_28 (bt bc_Mod_pass_0 27 rfl)) rfl rfl ?_
  refine EJ_iload_n 29 1 (dk_27 (bt bc_Mod_pass_0 28 rfl)) rfl rfl ?_
  refine EJ_icmp_ge 123 32 (dk_162 (bt bc_Mod_pass_0 29 rfl) (bt bc_Mod_pass_0 30 rfl) (bt bc_Mod_pass_0 31 rfl) (n := 94) rfl) (by decide) rfl (fun _ => ?_) (fun _ => ?_)
  · refine EJ_aload_n 124 0 (dk_42 (bt bc_Mod_pass_3 27 rfl)) rfl rfl ?_
    refine EJ_ck (fun h4 => ?_)
    refine EJ_getI cf12 0 (by decide) 127 tw_1198 (fun _ _ _ => rfl) (dk_180 (bt bc_Mod_pass_3 28 rfl) (bt bc_Mod_pass_3 29 rfl) (bt bc_Mod_pass_3 30 rfl) (n := 284) rfl) rfl (of_decide_eq_true h4) ?_
    exact EJ_iret rfl (dk_172 (bt bc_Mod_pass_3 31 rfl))
  · refine EJ_aload_n 33 0 (dk_42 (bt bc_Mod_pass_1 0 rfl)) rfl rfl ?_
    refine EJ_ck (fun h5 => ?_)
    refine EJ_getI cf12 73 (by decide) 36 tw_1271 (fun _ _ _ => rfl) (dk_180 (bt bc_Mod_pass_1 1 rfl) (bt bc_Mod_pass_1 2 rfl) (bt bc_Mod_pass_1 3 rfl) (n := 510) rfl) rfl (of_decide_eq_true h5) ?_
    refine EJ_if_eq 61 39 (dk_153 (bt bc_Mod_pass_1 4 rfl) (bt bc_Mod_pass_1 5 rfl) (bt bc_Mod_pass_1 6 rfl) (n := 25) rfl) (by decide) rfl (fun _ => ?_) (fun _ => ?_)
    · refine EJ_lconst 62 (dk_9 (bt bc_Mod_pass_1 29 rfl)) rfl (v := 0) (by decide) ?_
      exact EJ_pick (lv2 := [(0, .ref _), (1, .int _), (2, .int _)]) [0, 1, 2] rfl (e_Mod_pass_J62 k27 hk27 _ _ _ _ _)
    · refine EJ_aload_n 40 0 (dk_42 (bt bc_Mod_pass_1 7 rfl)) rfl rfl ?_
      refine EJ_iconst 41 (dk_7 (bt bc_Mod_pass_1 8 rfl)) rfl (v := 4) kI_4 ?_
      refine EJ_callVi (Y2 := Y_Mod_asked) 44 cf12 (s_Mod_asked G _ _ _) (of_decide_eq_true h5) rfl (dk_182 (bt bc_Mod_pass_1 9 rfl) (bt bc_Mod_pass_1 10 rfl) (bt bc_Mod_pass_1 11 rfl) (n := 302) rfl) rfl tw_1608 tw_1610 ts_44 tw_1611 hd_Mod_asked rfl (by decide) (Nat.le_of_ble_eq_true rfl) (fun r12 M13 => ?_)
      refine EJ_i2l 45 (dk_133 (bt bc_Mod_pass_1 12 rfl)) rfl ?_
      refine EJ_aload_n 46 0 (dk_42 (bt bc_Mod_pass_1 13 rfl)) rfl rfl ?_
      refine EJ_iconst 47 (dk_8 (bt bc_Mod_pass_1 14 rfl)) rfl (v := 5) kI_5 ?_
      refine EJ_ck (fun h14 => ?_)
      refine EJ_callVi (Y2 := Y_Mod_asked) 50 cf12 (s_Mod_asked G _ _ _) (of_decide_eq_true h14) rfl (dk_182 (bt bc_Mod_pass_1 15 rfl) (bt bc_Mod_pass_1 16 rfl) (bt bc_Mod_pass_1 17 rfl) (n := 302) rfl) rfl tw_1608 tw_1610 ts_44 tw_1611 hd_Mod_asked rfl (by decide) (Nat.le_of_ble_eq_true rfl) (fun r15 M16 => ?_)
      refine EJ_i2l 51 (dk_133 (bt bc_Mod_pass_1 18 rfl)) rfl ?_
      refine EJ_aload_n 52 0 (dk_42 (bt bc_Mod_pass_1 19 rfl)) rfl rfl ?_
      refine EJ_ck (fun h17 => ?_)
      refine EJ_getI cf12 1 (by decide) 55 tw_1199 (fun _ _ _ => rfl) (dk_180 (bt bc_Mod_pass_1 20 rfl) (bt bc_Mod_pass_1 21 rfl) (bt bc_Mod_pass_1 22 rfl) (n := 492) rfl) rfl (of_decide_eq_true h17) ?_
      refine EJ_i2l 56 (dk_133 (bt bc_Mod_pass_1 23 rfl)) rfl ?_
      refine EJ_lmul 57 (dk_105 (bt bc_Mod_pass_1 24 rfl)) rfl ?_
      refine EJ_ladd 58 (dk_97 (bt bc_Mod_pass_1 25 rfl)) rfl ?_
      refine EJ_goto 62 (dk_167 (bt bc_Mod_pass_1 26 rfl) (bt bc_Mod_pass_1 27 rfl) (bt bc_Mod_pass_1 28 rfl) (n := 4) rfl) (by decide) ?_
      exact EJ_pick (lv2 := [(0, .ref _), (1, .int _), (2, .int _)]) [0, 1, 2] rfl (e_Mod_pass_J62 k27 hk27 _ _ _ _ _)
def Mod_pass_L27 (n : Nat) : Nat → Int32 → Int32 → Mm → Option (Int32 × Mm) :=
  match n with
  | 0 => fun _ _ _ _ => none
  | n + 1 => Mod_pass_B27 (Mod_pass_L27 n)
theorem e_Mod_pass_L27 {G : Gx} : ∀ (n : Nat) (x0 : Nat) (x1 : Int32) (x2 : Int32) (M : Mm), EJ G Y_Mod_pass cvI 9 27 [(0, .ref x0), (1, .int x1), (2, .int x2)] [] M (Mod_pass_L27 n x0 x1 x2 M) := by
  intro n
  induction n with
  | zero => intros; exact EJ_none
  | succ n ih => intro x0 x1 x2 M; exact e_Mod_pass_B27 _ ih x0 x1 x2 M
def Mod_pass (M : Mm) (a0 : Nat) (a1 : Int32) : Option (Int32 × Mm) :=
  bd (Mod_in M a1 1 3000) (fun r1 M2 =>
  if r1 = 0 then (
    some ((-1), M2))
  else (
    ck (kO M2 a0 12 107) (
    if ((mI M2 a0 0) + a1) ≤ 57600 then (
      Mod_pass_L27 fu a0 a1 0 M2)
    else (
      some ((-1), M2)))))
set_option maxRecDepth 100000 in
set_option maxHeartbeats 4000000 in
theorem s_Mod_pass (G : Gx) (M : Mm) (a0 : Nat) (a1 : Int32) : FnS G Y_Mod_pass cvI 9 [.ref a0, .int a1] M (Mod_pass M a0 a1) := by
  refine FnS.ofE (by decide) (Nat.le_of_ble_eq_true rfl) ?_
  show EJ G Y_Mod_pass cvI 9 0 [(0, .ref a0), (1, .int a1)] [] M _
  unfold Mod_pass
  refine EJ_iload_n 1 1 (dk_27 (bt bc_Mod_pass_0 0 rfl)) rfl rfl ?_
  refine EJ_iconst 2 (dk_4 (bt bc_Mod_pass_0 1 rfl)) rfl (v := 1) kI_1 ?_
  refine EJ_sipush 5 (dk_17 (bt bc_Mod_pass_0 2 rfl) (bt bc_Mod_pass_0 3 rfl) (bt bc_Mod_pass_0 4 rfl) (n := 3000) rfl) rfl (v := 3000) kS_3000 ?_
  refine EJ_callSi (Y2 := Y_Mod_in) 8 (s_Mod_in G _ _ _ _) rfl (dk_184 (bt bc_Mod_pass_0 5 rfl) (bt bc_Mod_pass_0 6 rfl) (bt bc_Mod_pass_0 7 rfl) (n := 252) rfl) rfl tw_1532 tw_1533 tw_8 tw_1534 hd_Mod_in rfl (by decide) (Nat.le_of_ble_eq_true rfl) (fun r1 M2 => ?_)
  refine EJ_if_eq 23 11 (dk_153 (bt bc_Mod_pass_0 8 rfl) (bt bc_Mod_pass_0 9 rfl) (bt bc_Mod_pass_0 10 rfl) (n := 15) rfl) (by decide) rfl (fun _ => ?_) (fun _ => ?_)
  · refine EJ_iconst 24 (dk_2 (bt bc_Mod_pass_0 23 rfl)) rfl (v := (-1)) kI_m1 ?_
    exact EJ_iret rfl (dk_172 (bt bc_Mod_pass_0 24 rfl))
  · refine EJ_aload_n 12 0 (dk_42 (bt bc_Mod_pass_0 11 rfl)) rfl rfl ?_
    refine EJ_ck (fun h3 => ?_)
    refine EJ_getI cf12 0 (by decide) 15 tw_1198 (fun _ _ _ => rfl) (dk_180 (bt bc_Mod_pass_0 12 rfl) (bt bc_Mod_pass_0 13 rfl) (bt bc_Mod_pass_0 14 rfl) (n := 284) rfl) rfl (of_decide_eq_true h3) ?_
    refine EJ_iload_n 16 1 (dk_27 (bt bc_Mod_pass_0 15 rfl)) rfl rfl ?_
    refine EJ_iadd 17 (dk_96 (bt bc_Mod_pass_0 16 rfl)) rfl ?_
    refine EJ_ldcw 20 (dk_19 (bt bc_Mod_pass_0 17 rfl) (bt bc_Mod_pass_0 18 rfl) (bt bc_Mod_pass_0 19 rfl) (n := 264) rfl) rfl tw_1543 ?_
    refine EJ_icmp_le 25 23 (dk_164 (bt bc_Mod_pass_0 20 rfl) (bt bc_Mod_pass_0 21 rfl) (bt bc_Mod_pass_0 22 rfl) (n := 5) rfl) (by decide) rfl (fun _ => ?_) (fun _ => ?_)
    · refine EJ_iconst 26 (dk_3 (bt bc_Mod_pass_0 25 rfl)) rfl (v := 0) kI_0 ?_
      refine EJ_istore_n 27 (lv2 := [(2, .int _), (0, .ref _), (1, .int _)]) (dk_61 (bt bc_Mod_pass_0 26 rfl)) rfl (by decide) rfl ?_
      exact EJ_pick (lv2 := [(0, .ref _), (1, .int _), (2, .int _)]) [1, 2, 0] rfl (e_Mod_pass_L27 fu _ _ _ _)
    · refine EJ_iconst 24 (dk_2 (bt bc_Mod_pass_0 23 rfl)) rfl (v := (-1)) kI_m1 ?_
      exact EJ_iret rfl (dk_172 (bt bc_Mod_pass_0 24 rfl))
abbrev Y_Mod_session : Ym := (⟨"RiceHallModel", "session", "(II)I"⟩, prog_14_method_77_code, 4, (some FieldType.int))
theorem bc_Mod_session_0 : bts prog_14_method_77_code 0 [27, 155, 0, 11, 27, 42, 180, 2, 1, 161, 0, 5, 2, 172, 42, 180, 1, 254, 153, 0, 17, 27, 42, 180, 2, 1, 4, 100, 160, 0, 7, 4] := bts_of (by decide +kernel)
theorem bc_Mod_session_1 : bts prog_14_method_77_code 32 [167, 0, 4, 3, 62, 28, 170, 0, 0, 0, 0, 97, 0, 0, 0, 0, 0, 0, 0, 6, 0, 0, 0, 42, 0, 0, 0, 49, 0, 0, 0, 56] := bts_of (by decide +kernel)
theorem bc_Mod_session_2 : bts prog_14_method_77_code 64 [0, 0, 0, 63, 0, 0, 0, 70, 0, 0, 0, 77, 0, 0, 0, 84, 42, 180, 0, 149, 27, 46, 172, 42, 180, 0, 152, 27, 46, 172, 42, 180] := bts_of (by decide +kernel)
theorem bc_Mod_session_3 : bts prog_14_method_77_code 96 [0, 155, 27, 46, 172, 42, 180, 0, 161, 27, 46, 172, 42, 180, 0, 164, 27, 46, 172, 42, 180, 0, 167, 27, 46, 172, 29, 153, 0, 10, 42, 180] := bts_of (by decide +kernel)
theorem bc_Mod_session_4 : bts prog_14_method_77_code 128 [2, 4, 167, 0, 4, 3, 172, 2, 172] := bts_of (by decide +kernel)
theorem hd_Mod_session : Y_Mod_session.1.cls = RX12 ∧ Y_Mod_session.1.cls ≠ "java/lang/invoke/MethodHandle" ∧ Y_Mod_session.1.cls ≠ "java/lang/invoke/VarHandle" ∧ (parseMethodDescriptor Y_Mod_session.1.desc).map (fun d => d.parameters.length) = some 2 := by decide +kernel
set_option maxRecDepth 100000 in
theorem ds_Mod_session_38 : decode prog_14_method_77_code 38 = .ok (.tableswitch (97) (0) (6) #[42, 49, 56, 63, 70, 77, 84], 42) := by decide +kernel
def Mod_session_J36 (x0 : Nat) (x1 : Int32) (x2 : Int32) (s0 : Int32) (M : Mm) : Option (Int32 × Mm) :=
  if x2 = 0 then (
    ck (kO M x0 12 107) (
    nn (mR M x0 74) (fun b3 =>
    ck (kA M b3 20 x1) (
    some (mI M b3 (ix x1), M)))))
  else (
  if x2 = 1 then (
    ck (kO M x0 12 107) (
    nn (mR M x0 75) (fun b6 =>
    ck (kA M b6 20 x1) (
    some (mI M b6 (ix x1), M)))))
  else (
  if x2 = 2 then (
    ck (kO M x0 12 107) (
    nn (mR M x0 76) (fun b9 =>
    ck (kA M b9 20 x1) (
    some (mI M b9 (ix x1), M)))))
  else (
  if x2 = 3 then (
    ck (kO M x0 12 107) (
    nn (mR M x0 78) (fun b12 =>
    ck (kA M b12 20 x1) (
    some (mI M b12 (ix x1), M)))))
  else (
  if x2 = 4 then (
    ck (kO M x0 12 107) (
    nn (mR M x0 79) (fun b15 =>
    ck (kA M b15 20 x1) (
    some (mI M b15 (ix x1), M)))))
  else (
  if x2 = 5 then (
    ck (kO M x0 12 107) (
    nn (mR M x0 80) (fun b18 =>
    ck (kA M b18 20 x1) (
    some (mI M b18 (ix x1), M)))))
  else (
  if x2 = 6 then (
    if s0 = 0 then (
      some (0, M))
    else (
      ck (kO M x0 12 107) (
      some (mI M x0 72, M))))
  else (
  some ((-1), M))))))))
set_option maxRecDepth 100000 in
set_option maxHeartbeats 4000000 in
theorem e_Mod_session_J36 {G : Gx} (x0 : Nat) (x1 : Int32) (x2 : Int32) (s0 : Int32) (M : Mm) : EJ G Y_Mod_session cvI 1 36 [(0, .ref x0), (1, .int x1), (2, .int x2)] [.int s0] M (Mod_session_J36 x0 x1 x2 s0 M) := by
  unfold Mod_session_J36
  refine EJ_istore_n 37 (lv2 := [(3, .int _), (0, .ref _), (1, .int _), (2, .int _)]) (dk_62 (bt bc_Mod_session_1 4 rfl)) rfl (by decide) rfl ?_
  refine EJ_iload_n 38 3 (dk_28 (bt bc_Mod_session_1 5 rfl)) rfl rfl ?_
  refine EJ_case 0 80 ds_Mod_session_38 (by decide) rfl (by decide) (fun _ => ?_) (fun hc38_0 => ?_)
  · refine EJ_aload_n 81 1 (dk_42 (bt bc_Mod_session_2 16 rfl)) rfl rfl ?_
    refine EJ_ck (fun h2 => ?_)
    refine EJ_getR cf12 74 (by decide) 84 tw_1272 (fun _ _ _ => rfl) (dk_180 (bt bc_Mod_session_2 17 rfl) (bt bc_Mod_session_2 18 rfl) (bt bc_Mod_session_2 19 rfl) (n := 149) rfl) rfl (of_decide_eq_true h2) (fun b3 => ?_)
    refine EJ_iload_n 85 2 (dk_27 (bt bc_Mod_session_2 20 rfl)) rfl rfl ?_
    refine EJ_ck (fun h4 => ?_)
    refine EJ_iald 86 h4 (dk_46 (bt bc_Mod_session_2 21 rfl)) rfl ?_
    exact EJ_iret rfl (dk_172 (bt bc_Mod_session_2 22 rfl))
  refine EJ_case 1 87 ds_Mod_session_38 (by decide) rfl (by decide) (fun _ => ?_) (fun hc38_1 => ?_)
  · refine EJ_aload_n 88 1 (dk_42 (bt bc_Mod_session_2 23 rfl)) rfl rfl ?_
    refine EJ_ck (fun h5 => ?_)
    refine EJ_getR cf12 75 (by decide) 91 tw_1273 (fun _ _ _ => rfl) (dk_180 (bt bc_Mod_session_2 24 rfl) (bt bc_Mod_session_2 25 rfl) (bt bc_Mod_session_2 26 rfl) (n := 152) rfl) rfl (of_decide_eq_true h5) (fun b6 => ?_)
    refine EJ_iload_n 92 2 (dk_27 (bt bc_Mod_session_2 27 rfl)) rfl rfl ?_
    refine EJ_ck (fun h7 => ?_)
    refine EJ_iald 93 h7 (dk_46 (bt bc_Mod_session_2 28 rfl)) rfl ?_
    exact EJ_iret rfl (dk_172 (bt bc_Mod_session_2 29 rfl))
  refine EJ_case 2 94 ds_Mod_session_38 (by decide) rfl (by decide) (fun _ => ?_) (fun hc38_2 => ?_)
  · refine EJ_aload_n 95 1 (dk_42 (bt bc_Mod_session_2 30 rfl)) rfl rfl ?_
    refine EJ_ck (fun h8 => ?_)
    refine EJ_getR cf12 76 (by decide) 98 tw_1274 (fun _ _ _ => rfl) (dk_180 (bt bc_Mod_session_2 31 rfl) (bt bc_Mod_session_3 0 rfl) (bt bc_Mod_session_3 1 rfl) (n := 155) rfl) rfl (of_decide_eq_true h8) (fun b9 => ?_)
    refine EJ_iload_n 99 2 (dk_27 (bt bc_Mod_session_3 2 rfl)) rfl rfl ?_
    refine EJ_ck (fun h10 => ?_)
    refine EJ_iald 100 h10 (dk_46 (bt bc_Mod_session_3 3 rfl)) rfl ?_
    exact EJ_iret rfl (dk_172 (bt bc_Mod_session_3 4 rfl))
  refine EJ_case 3 101 ds_Mod_session_38 (by decide) rfl (by decide) (fun _ => ?_) (fun hc38_3 => ?_)
  · refine EJ_aload_n 102 1 (dk_42 (bt bc_Mod_session_3 5 rfl)) rfl rfl ?_
    refine EJ_ck (fun h11 => ?_)
    refine EJ_getR cf12 78 (by decide) 105 tw_1276 (fun _ _ _ => rfl) (dk_180 (bt bc_Mod_session_3 6 rfl) (bt bc_Mod_session_3 7 rfl) (bt bc_Mod_session_3 8 rfl) (n := 161) rfl) rfl (of_decide_eq_true h11) (fun b12 => ?_)
    refine EJ_iload_n 106 2 (dk_27 (bt bc_Mod_session_3 9 rfl)) rfl rfl ?_
    refine EJ_ck (fun h13 => ?_)
    refine EJ_iald 107 h13 (dk_46 (bt bc_Mod_session_3 10 rfl)) rfl ?_
    exact EJ_iret rfl (dk_172 (bt bc_Mod_session_3 11 rfl))
  refine EJ_case 4 108 ds_Mod_session_38 (by decide) rfl (by decide) (fun _ => ?_) (fun hc38_4 => ?_)
  · refine EJ_aload_n 109 1 (dk_42 (bt bc_Mod_session_3 12 rfl)) rfl rfl ?_
    refine EJ_ck (fun h14 => ?_)
    refine EJ_getR cf12 79 (by decide) 112 tw_1277 (fun _ _ _ => rfl) (dk_180 (bt bc_Mod_session_3 13 rfl) (bt bc_Mod_session_3 14 rfl) (bt bc_Mod_session_3 15 rfl) (n := 164) rfl) rfl (of_decide_eq_true h14) (fun b15 => ?_)
    refine EJ_iload_n 113 2 (dk_27 (bt bc_Mod_session_3 16 rfl)) rfl rfl ?_
    refine EJ_ck (fun h16 => ?_)
    refine EJ_iald 114 h16 (dk_46 (bt bc_Mod_session_3 17 rfl)) rfl ?_
    exact EJ_iret rfl (dk_172 (bt bc_Mod_session_3 18 rfl))
  refine EJ_case 5 115 ds_Mod_session_38 (by decide) rfl (by decide) (fun _ => ?_) (fun hc38_5 => ?_)
  · refine EJ_aload_n 116 1 (dk_42 (bt bc_Mod_session_3 19 rfl)) rfl rfl ?_
    refine EJ_ck (fun h17 => ?_)
    refine EJ_getR cf12 80 (by decide) 119 tw_1278 (fun _ _ _ => rfl) (dk_180 (bt bc_Mod_session_3 20 rfl) (bt bc_Mod_session_3 21 rfl) (bt bc_Mod_session_3 22 rfl) (n := 167) rfl) rfl (of_decide_eq_true h17) (fun b18 => ?_)
    refine EJ_iload_n 120 2 (dk_27 (bt bc_Mod_session_3 23 rfl)) rfl rfl ?_
    refine EJ_ck (fun h19 => ?_)
    refine EJ_iald 121 h19 (dk_46 (bt bc_Mod_session_3 24 rfl)) rfl ?_
    exact EJ_iret rfl (dk_172 (bt bc_Mod_session_3 25 rfl))
  refine EJ_case 6 122 ds_Mod_session_38 (by decide) rfl (by decide) (fun _ => ?_) (fun hc38_6 => ?_)
  · refine EJ_iload_n 123 0 (dk_29 (bt bc_Mod_session_3 26 rfl)) rfl rfl ?_
    refine EJ_if_eq 133 126 (dk_153 (bt bc_Mod_session_3 27 rfl) (bt bc_Mod_session_3 28 rfl) (bt bc_Mod_session_3 29 rfl) (n := 10) rfl) (by decide) rfl (fun _ => ?_) (fun _ => ?_)
    · refine EJ_iconst 134 (dk_3 (bt bc_Mod_session_4 5 rfl)) rfl (v := 0) kI_0 ?_
      exact EJ_iret rfl (dk_172 (bt bc_Mod_session_4 6 rfl))
    · refine EJ_aload_n 127 1 (dk_42 (bt bc_Mod_session_3 30 rfl)) rfl rfl ?_
      refine EJ_ck (fun h20 => ?_)
      refine EJ_getI cf12 72 (by decide) 130 tw_1270 (fun _ _ _ => rfl) (dk_180 (bt bc_Mod_session_3 31 rfl) (bt bc_Mod_session_4 0 rfl) (bt bc_Mod_session_4 1 rfl) (n := 516) rfl) rfl (of_decide_eq_true h20) ?_
      refine EJ_goto 134 (dk_167 (bt bc_Mod_session_4 2 rfl) (bt bc_Mod_session_4 3 rfl) (bt bc_Mod_session_4 4 rfl) (n := 4) rfl) (by decide) ?_
      exact EJ_iret rfl (dk_172 (bt bc_Mod_session_4 6 rfl))
  refine EJ_tabOut 135 ds_Mod_session_38 (tabOut (fun k k1 k2 => by
      rcases (show k = 0 ∨ k = 1 ∨ k = 2 ∨ k = 3 ∨ k = 4 ∨ k = 5 ∨ k = 6 by omega) with rfl | rfl | rfl | rfl | rfl | rfl | rfl
      · exact hc38_0
      · exact hc38_1
      · exact hc38_2
      · exact hc38_3
      · exact hc38_4
      · exact hc38_5
      · exact hc38_6)) (by decide) ?_
  refine EJ_iconst 136 (dk_2 (bt bc_Mod_session_4 7 rfl)) rfl (v := (-1)) kI_m1 ?_
  exact EJ_iret rfl (dk_172 (bt bc_Mod_session_4 8 rfl))
def Mod_session_J35 (x0 : Nat) (x1 : Int32) (x2 : Int32) (M : Mm) : Option (Int32 × Mm) :=
  Mod_session_J36 x0 x1 x2 0 M
set_option maxRecDepth 100000 in
set_option maxHeartbeats 4000000 in
theorem e_Mod_session_J35 {G : Gx} (x0 : Nat) (x1 : Int32) (x2 : Int32) (M : Mm) : EJ G Y_Mod_session cvI 1 35 [(0, .ref x0), (1, .int x1), (2, .int x2)] [] M (Mod_session_J35 x0 x1 x2 M) := by
  unfold Mod_session_J35
  refine EJ_iconst 36 (dk_3 (bt bc_Mod_session_1 3 rfl)) rfl (v := 0) kI_0 ?_
  exact EJ_pick (lv2 := [(0, .ref _), (1, .int _), (2, .int _)]) [0, 1, 2] rfl (e_Mod_session_J36 _ _ _ _ _)
def Mod_session (M : Mm) (a0 : Nat) (a1 : Int32) (a2 : Int32) : Option (Int32 × Mm) :=
  if a1 < 0 then (
    some ((-1), M))
  else (
    ck (kO M a0 12 107) (
    if a1 < (mI M a0 70) then (
      if (mI M a0 73) = 0 then (
        Mod_session_J35 a0 a1 a2 M)
      else (
        if a1 = ((mI M a0 70) - 1) then (
          Mod_session_J36 a0 a1 a2 1 M)
        else (
          Mod_session_J35 a0 a1 a2 M)))
    else (
      some ((-1), M))))
set_option maxRecDepth 100000 in
set_option maxHeartbeats 4000000 in
theorem s_Mod_session (G : Gx) (M : Mm) (a0 : Nat) (a1 : Int32) (a2 : Int32) : FnS G Y_Mod_session cvI 1 [.ref a0, .int a1, .int a2] M (Mod_session M a0 a1 a2) := by
  refine FnS.ofE (by decide) (Nat.le_of_ble_eq_true rfl) ?_
  show EJ G Y_Mod_session cvI 1 0 [(0, .ref a0), (1, .int a1), (2, .int a2)] [] M _
  unfold Mod_session
  refine EJ_iload_n 1 1 (dk_27 (bt bc_Mod_session_0 0 rfl)) rfl rfl ?_
  refine EJ_if_lt 12 4 (dk_155 (bt bc_Mod_session_0 1 rfl) (bt bc_Mod_session_0 2 rfl) (bt bc_Mod_session_0 3 rfl) (n := 11) rfl) (by decide) rfl (fun _ => ?_) (fun _ => ?_)
  · refine EJ_iconst 13 (dk_2 (bt bc_Mod_session_0 12 rfl)) rfl (v := (-1)) kI_m1 ?_
    exact EJ_iret rfl (dk_172 (bt bc_Mod_session_0 13 rfl))
  · refine EJ_iload_n 5 1 (dk_27 (bt bc_Mod_session_0 4 rfl)) rfl rfl ?_
    refine EJ_aload_n 6 0 (dk_42 (bt bc_Mod_session_0 5 rfl)) rfl rfl ?_
    refine EJ_ck (fun h1 => ?_)
    refine EJ_getI cf12 70 (by decide) 9 tw_1268 (fun _ _ _ => rfl) (dk_180 (bt bc_Mod_session_0 6 rfl) (bt bc_Mod_session_0 7 rfl) (bt bc_Mod_session_0 8 rfl) (n := 513) rfl) rfl (of_decide_eq_true h1) ?_
    refine EJ_icmp_lt 14 12 (dk_161 (bt bc_Mod_session_0 9 rfl) (bt bc_Mod_session_0 10 rfl) (bt bc_Mod_session_0 11 rfl) (n := 5) rfl) (by decide) rfl (fun _ => ?_) (fun _ => ?_)
    · refine EJ_aload_n 15 0 (dk_42 (bt bc_Mod_session_0 14 rfl)) rfl rfl ?_
      refine EJ_getI cf12 73 (by decide) 18 tw_1271 (fun _ _ _ => rfl) (dk_180 (bt bc_Mod_session_0 15 rfl) (bt bc_Mod_session_0 16 rfl) (bt bc_Mod_session_0 17 rfl) (n := 510) rfl) rfl (of_decide_eq_true h1) ?_
      refine EJ_if_eq 35 21 (dk_153 (bt bc_Mod_session_0 18 rfl) (bt bc_Mod_session_0 19 rfl) (bt bc_Mod_session_0 20 rfl) (n := 17) rfl) (by decide) rfl (fun _ => ?_) (fun _ => ?_)
      · exact EJ_pick (lv2 := [(0, .ref _), (1, .int _), (2, .int _)]) [0, 1, 2] rfl (e_Mod_session_J35 _ _ _ _)
      · refine EJ_iload_n 22 1 (dk_27 (bt bc_Mod_session_0 21 rfl)) rfl rfl ?_
        refine EJ_aload_n 23 0 (dk_42 (bt bc_Mod_session_0 22 rfl)) rfl rfl ?_
        refine EJ_getI cf12 70 (by decide) 26 tw_1268 (fun _ _ _ => rfl) (dk_180 (bt bc_Mod_session_0 23 rfl) (bt bc_Mod_session_0 24 rfl) (bt bc_Mod_session_0 25 rfl) (n := 513) rfl) rfl (of_decide_eq_true h1) ?_
        refine EJ_iconst 27 (dk_4 (bt bc_Mod_session_0 26 rfl)) rfl (v := 1) kI_1 ?_
        refine EJ_isub 28 (dk_100 (bt bc_Mod_session_0 27 rfl)) rfl ?_
        refine EJ_icmp_ne 35 31 (dk_160 (bt bc_Mod_session_0 28 rfl) (bt bc_Mod_session_0 29 rfl) (bt bc_Mod_session_0 30 rfl) (n := 7) rfl) (by decide) rfl (fun _ => ?_) (fun _ => ?_)
        · exact EJ_pick (lv2 := [(0, .ref _), (1, .int _), (2, .int _)]) [0, 1, 2] rfl (e_Mod_session_J35 _ _ _ _)
        · refine EJ_iconst 32 (dk_4 (bt bc_Mod_session_0 31 rfl)) rfl (v := 1) kI_1 ?_
          refine EJ_goto 36 (dk_167 (bt bc_Mod_session_1 0 rfl) (bt bc_Mod_session_1 1 rfl) (bt bc_Mod_session_1 2 rfl) (n := 4) rfl) (by decide) ?_
          exact EJ_pick (lv2 := [(0, .ref _), (1, .int _), (2, .int _)]) [0, 1, 2] rfl (e_Mod_session_J36 _ _ _ _ _)
    · refine EJ_iconst 13 (dk_2 (bt bc_Mod_session_0 12 rfl)) rfl (v := (-1)) kI_m1 ?_
      exact EJ_iret rfl (dk_172 (bt bc_Mod_session_0 13 rfl))
abbrev Y_Mod_bargain : Ym := (⟨"RiceHallModel", "bargain", "(III)I"⟩, prog_14_method_78_code, 5, (some FieldType.int))
theorem bc_Mod_bargain_0 : bts prog_14_method_78_code 0 [27, 155, 0, 25, 27, 42, 180, 2, 1, 162, 0, 17, 28, 155, 0, 13, 28, 42, 180, 0, 164, 27, 46, 161, 0, 5, 2, 172, 16, 60, 27, 104] := bts_of (by decide +kernel)
theorem bc_Mod_bargain_1 : bts prog_14_method_78_code 32 [28, 96, 54, 4, 29, 170, 0, 0, 0, 0, 0, 133, 0, 0, 0, 0, 0, 0, 0, 7, 0, 0, 0, 47, 0, 0, 0, 55, 0, 0, 0, 63] := bts_of (by decide +kernel)
theorem bc_Mod_bargain_2 : bts prog_14_method_78_code 64 [0, 0, 0, 71, 0, 0, 0, 79, 0, 0, 0, 87, 0, 0, 0, 95, 0, 0, 0, 117, 42, 180, 0, 194, 21, 4, 46, 172, 42, 180, 0, 197] := bts_of (by decide +kernel)
theorem bc_Mod_bargain_3 : bts prog_14_method_78_code 96 [21, 4, 46, 172, 42, 180, 0, 200, 21, 4, 46, 172, 42, 180, 0, 203, 21, 4, 46, 172, 42, 180, 0, 206, 21, 4, 46, 172, 42, 180, 0, 209] := bts_of (by decide +kernel)
theorem bc_Mod_bargain_4 : bts prog_14_method_78_code 128 [21, 4, 46, 172, 42, 180, 0, 209, 21, 4, 46, 158, 0, 13, 42, 180, 0, 212, 21, 4, 46, 167, 0, 4, 3, 172, 42, 180, 0, 215, 21, 4] := bts_of (by decide +kernel)
theorem bc_Mod_bargain_5 : bts prog_14_method_78_code 160 [46, 158, 0, 7, 4, 167, 0, 4, 3, 172, 2, 172] := bts_of (by decide +kernel)
theorem hd_Mod_bargain : Y_Mod_bargain.1.cls = RX12 ∧ Y_Mod_bargain.1.cls ≠ "java/lang/invoke/MethodHandle" ∧ Y_Mod_bargain.1.cls ≠ "java/lang/invoke/VarHandle" ∧ (parseMethodDescriptor Y_Mod_bargain.1.desc).map (fun d => d.parameters.length) = some 3 := by decide +kernel
set_option maxRecDepth 100000 in
theorem ds_Mod_bargain_37 : decode prog_14_method_78_code 37 = .ok (.tableswitch (133) (0) (7) #[47, 55, 63, 71, 79, 87, 95, 117], 47) := by decide +kernel
def Mod_bargain (M : Mm) (a0 : Nat) (a1 : Int32) (a2 : Int32) (a3 : Int32) : Option (Int32 × Mm) :=
  if a1 < 0 then (
    some ((-1), M))
  else (
    ck (kO M a0 12 107) (
    if (mI M a0 70) ≤ a1 then (
      some ((-1), M))
    else (
      if a2 < 0 then (
        some ((-1), M))
      else (
        nn (mR M a0 79) (fun b2 =>
        ck (kA M b2 20 a1) (
        if a2 < (mI M b2 (ix a1)) then (
          let v4 : Int32 := (60 * a1) + a2
          if a3 = 0 then (
            nn (mR M a0 89) (fun b5 =>
            ck (kA M b5 20 v4) (
            some (mI M b5 (ix v4), M))))
          else (
          if a3 = 1 then (
            nn (mR M a0 90) (fun b7 =>
            ck (kA M b7 20 v4) (
            some (mI M b7 (ix v4), M))))
          else (
          if a3 = 2 then (
            nn (mR M a0 91) (fun b9 =>
            ck (kA M b9 20 v4) (
            some (mI M b9 (ix v4), M))))
          else (
          if a3 = 3 then (
            nn (mR M a0 92) (fun b11 =>
            ck (kA M b11 20 v4) (
            some (mI M b11 (ix v4), M))))
          else (
          if a3 = 4 then (
            nn (mR M a0 93) (fun b13 =>
            ck (kA M b13 20 v4) (
            some (mI M b13 (ix v4), M))))
          else (
          if a3 = 5 then (
            nn (mR M a0 94) (fun b15 =>
            ck (kA M b15 20 v4) (
            some (mI M b15 (ix v4), M))))
          else (
          if a3 = 6 then (
            nn (mR M a0 94) (fun b17 =>
            ck (kA M b17 20 v4) (
            if (mI M b17 (ix v4)) ≤ 0 then (
              some (0, M))
            else (
              nn (mR M a0 95) (fun b19 =>
              ck (kA M b19 20 v4) (
              some (mI M b19 (ix v4), M)))))))
          else (
          if a3 = 7 then (
            nn (mR M a0 96) (fun b21 =>
            ck (kA M b21 20 v4) (
            if (mI M b21 (ix v4)) ≤ 0 then (
              some (0, M))
            else (
              some (1, M)))))
          else (
          some ((-1), M))))))))))
        else (
          some ((-1), M))))))))
set_option maxRecDepth 100000 in
set_option maxHeartbeats 4000000 in
theorem s_Mod_bargain (G : Gx) (M : Mm) (a0 : Nat) (a1 : Int32) (a2 : Int32) (a3 : Int32) : FnS G Y_Mod_bargain cvI 1 [.ref a0, .int a1, .int a2, .int a3] M (Mod_bargain M a0 a1 a2 a3) := by
  refine FnS.ofE (by decide) (Nat.le_of_ble_eq_true rfl) ?_
  show EJ G Y_Mod_bargain cvI 1 0 [(0, .ref a0), (1, .int a1), (2, .int a2), (3, .int a3)] [] M _
  unfold Mod_bargain
  refine EJ_iload_n 1 1 (dk_27 (bt bc_Mod_bargain_0 0 rfl)) rfl rfl ?_
  refine EJ_if_lt 26 4 (dk_155 (bt bc_Mod_bargain_0 1 rfl) (bt bc_Mod_bargain_0 2 rfl) (bt bc_Mod_bargain_0 3 rfl) (n := 25) rfl) (by decide) rfl (fun _ => ?_) (fun _ => ?_)
  · refine EJ_iconst 27 (dk_2 (bt bc_Mod_bargain_0 26 rfl)) rfl (v := (-1)) kI_m1 ?_
    exact EJ_iret rfl (dk_172 (bt bc_Mod_bargain_0 27 rfl))
  · refine EJ_iload_n 5 1 (dk_27 (bt bc_Mod_bargain_0 4 rfl)) rfl rfl ?_
    refine EJ_aload_n 6 0 (dk_42 (bt bc_Mod_bargain_0 5 rfl)) rfl rfl ?_
    refine EJ_ck (fun h1 => ?_)
    refine EJ_getI cf12 70 (by decide) 9 tw_1268 (fun _ _ _ => rfl) (dk_180 (bt bc_Mod_bargain_0 6 rfl) (bt bc_Mod_bargain_0 7 rfl) (bt bc_Mod_bargain_0 8 rfl) (n := 513) rfl) rfl (of_decide_eq_true h1) ?_
    refine EJ_icmp_ge 26 12 (dk_162 (bt bc_Mod_bargain_0 9 rfl) (bt bc_Mod_bargain_0 10 rfl) (bt bc_Mod_bargain_0 11 rfl) (n := 17) rfl) (by decide) rfl (fun _ => ?_) (fun _ => ?_)
    · refine EJ_iconst 27 (dk_2 (bt bc_Mod_bargain_0 26 rfl)) rfl (v := (-1)) kI_m1 ?_
      exact EJ_iret rfl (dk_172 (bt bc_Mod_bargain_0 27 rfl))
    · refine EJ_iload_n 13 2 (dk_28 (bt bc_Mod_bargain_0 12 rfl)) rfl rfl ?_
      refine EJ_if_lt 26 16 (dk_155 (bt bc_Mod_bargain_0 13 rfl) (bt bc_Mod_bargain_0 14 rfl) (bt bc_Mod_bargain_0 15 rfl) (n := 13) rfl) (by decide) rfl (fun _ => ?_) (fun _ => ?_)
      · refine EJ_iconst 27 (dk_2 (bt bc_Mod_bargain_0 26 rfl)) rfl (v := (-1)) kI_m1 ?_
        exact EJ_iret rfl (dk_172 (bt bc_Mod_bargain_0 27 rfl))
      · refine EJ_iload_n 17 2 (dk_28 (bt bc_Mod_bargain_0 16 rfl)) rfl rfl ?_
        refine EJ_aload_n 18 0 (dk_42 (bt bc_Mod_bargain_0 17 rfl)) rfl rfl ?_
        refine EJ_getR cf12 79 (by decide) 21 tw_1277 (fun _ _ _ => rfl) (dk_180 (bt bc_Mod_bargain_0 18 rfl) (bt bc_Mod_bargain_0 19 rfl) (bt bc_Mod_bargain_0 20 rfl) (n := 164) rfl) rfl (of_decide_eq_true h1) (fun b2 => ?_)
        refine EJ_iload_n 22 1 (dk_27 (bt bc_Mod_bargain_0 21 rfl)) rfl rfl ?_
        refine EJ_ck (fun h3 => ?_)
        refine EJ_iald 23 h3 (dk_46 (bt bc_Mod_bargain_0 22 rfl)) rfl ?_
        refine EJ_icmp_lt 28 26 (dk_161 (bt bc_Mod_bargain_0 23 rfl) (bt bc_Mod_bargain_0 24 rfl) (bt bc_Mod_bargain_0 25 rfl) (n := 5) rfl) (by decide) rfl (fun _ => ?_) (fun _ => ?_)
        · refine EJ_bipush 30 (dk_16 (bt bc_Mod_bargain_0 28 rfl) (bt bc_Mod_bargain_0 29 rfl) (n := 60) rfl) rfl (v := 60) kB_60 ?_
          refine EJ_iload_n 31 1 (dk_27 (bt bc_Mod_bargain_0 30 rfl)) rfl rfl ?_
          refine EJ_imul 32 (dk_104 (bt bc_Mod_bargain_0 31 rfl)) rfl ?_
          refine EJ_iload_n 33 2 (dk_28 (bt bc_Mod_bargain_1 0 rfl)) rfl rfl ?_
          refine EJ_iadd 34 (dk_96 (bt bc_Mod_bargain_1 1 rfl)) rfl ?_
          refine EJ_istore 36 (lv2 := [(4, .int _), (0, .ref _), (1, .int _), (2, .int _), (3, .int _)]) (dk_54 (bt bc_Mod_bargain_1 2 rfl) (bt bc_Mod_bargain_1 3 rfl)) rfl (by decide) rfl ?_
          refine EJ_iload_n 37 4 (dk_29 (bt bc_Mod_bargain_1 4 rfl)) rfl rfl ?_
          refine EJ_case 0 84 ds_Mod_bargain_37 (by decide) rfl (by decide) (fun _ => ?_) (fun hc37_0 => ?_)
          · refine EJ_aload_n 85 1 (dk_42 (bt bc_Mod_bargain_2 20 rfl)) rfl rfl ?_
            refine EJ_getR cf12 89 (by decide) 88 tw_1287 (fun _ _ _ => rfl) (dk_180 (bt bc_Mod_bargain_2 21 rfl) (bt bc_Mod_bargain_2 22 rfl) (bt bc_Mod_bargain_2 23 rfl) (n := 194) rfl) rfl (of_decide_eq_true h1) (fun b5 => ?_)
            refine EJ_iload 90 0 (dk_21 (bt bc_Mod_bargain_2 24 rfl) (bt bc_Mod_bargain_2 25 rfl)) rfl rfl ?_
            refine EJ_ck (fun h6 => ?_)
            refine EJ_iald 91 h6 (dk_46 (bt bc_Mod_bargain_2 26 rfl)) rfl ?_
            exact EJ_iret rfl (dk_172 (bt bc_Mod_bargain_2 27 rfl))
          refine EJ_case 1 92 ds_Mod_bargain_37 (by decide) rfl (by decide) (fun _ => ?_) (fun hc37_1 => ?_)
          · refine EJ_aload_n 93 1 (dk_42 (bt bc_Mod_bargain_2 28 rfl)) rfl rfl ?_
            refine EJ_getR cf12 90 (by decide) 96 tw_1288 (fun _ _ _ => rfl) (dk_180 (bt bc_Mod_bargain_2 29 rfl) (bt bc_Mod_bargain_2 30 rfl) (bt bc_Mod_bargain_2 31 rfl) (n := 197) rfl) rfl (of_decide_eq_true h1) (fun b7 => ?_)
            refine EJ_iload 98 0 (dk_21 (bt bc_Mod_bargain_3 0 rfl) (bt bc_Mod_bargain_3 1 rfl)) rfl rfl ?_
            refine EJ_ck (fun h8 => ?_)
            refine EJ_iald 99 h8 (dk_46 (bt bc_Mod_bargain_3 2 rfl)) rfl ?_
            exact EJ_iret rfl (dk_172 (bt bc_Mod_bargain_3 3 rfl))
          refine EJ_case 2 100 ds_Mod_bargain_37 (by decide) rfl (by decide) (fun _ => ?_) (fun hc37_2 => ?_)
          · refine EJ_aload_n 101 1 (dk_42 (bt bc_Mod_bargain_3 4 rfl)) rfl rfl ?_
            refine EJ_getR cf12 91 (by decide) 104 tw_1289 (fun _ _ _ => rfl) (dk_180 (bt bc_Mod_bargain_3 5 rfl) (bt bc_Mod_bargain_3 6 rfl) (bt bc_Mod_bargain_3 7 rfl) (n := 200) rfl) rfl (of_decide_eq_true h1) (fun b9 => ?_)
            refine EJ_iload 106 0 (dk_21 (bt bc_Mod_bargain_3 8 rfl) (bt bc_Mod_bargain_3 9 rfl)) rfl rfl ?_
            refine EJ_ck (fun h10 => ?_)
            refine EJ_iald 107 h10 (dk_46 (bt bc_Mod_bargain_3 10 rfl)) rfl ?_
            exact EJ_iret rfl (dk_172 (bt bc_Mod_bargain_3 11 rfl))
          refine EJ_case 3 108 ds_Mod_bargain_37 (by decide) rfl (by decide) (fun _ => ?_) (fun hc37_3 => ?_)
          · refine EJ_aload_n 109 1 (dk_42 (bt bc_Mod_bargain_3 12 rfl)) rfl rfl ?_
            refine EJ_getR cf12 92 (by decide) 112 tw_1290 (fun _ _ _ => rfl) (dk_180 (bt bc_Mod_bargain_3 13 rfl) (bt bc_Mod_bargain_3 14 rfl) (bt bc_Mod_bargain_3 15 rfl) (n := 203) rfl) rfl (of_decide_eq_true h1) (fun b11 => ?_)
            refine EJ_iload 114 0 (dk_21 (bt bc_Mod_bargain_3 16 rfl) (bt bc_Mod_bargain_3 17 rfl)) rfl rfl ?_
            refine EJ_ck (fun h12 => ?_)
            refine EJ_iald 115 h12 (dk_46 (bt bc_Mod_bargain_3 18 rfl)) rfl ?_
            exact EJ_iret rfl (dk_172 (bt bc_Mod_bargain_3 19 rfl))
          refine EJ_case 4 116 ds_Mod_bargain_37 (by decide) rfl (by decide) (fun _ => ?_) (fun hc37_4 => ?_)
          · refine EJ_aload_n 117 1 (dk_42 (bt bc_Mod_bargain_3 20 rfl)) rfl rfl ?_
            refine EJ_getR cf12 93 (by decide) 120 tw_1291 (fun _ _ _ => rfl) (dk_180 (bt bc_Mod_bargain_3 21 rfl) (bt bc_Mod_bargain_3 22 rfl) (bt bc_Mod_bargain_3 23 rfl) (n := 206) rfl) rfl (of_decide_eq_true h1) (fun b13 => ?_)
            refine EJ_iload 122 0 (dk_21 (bt bc_Mod_bargain_3 24 rfl) (bt bc_Mod_bargain_3 25 rfl)) rfl rfl ?_
            refine EJ_ck (fun h14 => ?_)
            refine EJ_iald 123 h14 (dk_46 (bt bc_Mod_bargain_3 26 rfl)) rfl ?_
            exact EJ_iret rfl (dk_172 (bt bc_Mod_bargain_3 27 rfl))
          refine EJ_case 5 124 ds_Mod_bargain_37 (by decide) rfl (by decide) (fun _ => ?_) (fun hc37_5 => ?_)
          · refine EJ_aload_n 125 1 (dk_42 (bt bc_Mod_bargain_3 28 rfl)) rfl rfl ?_
            refine EJ_getR cf12 94 (by decide) 128 tw_1292 (fun _ _ _ => rfl) (dk_180 (bt bc_Mod_bargain_3 29 rfl) (bt bc_Mod_bargain_3 30 rfl) (bt bc_Mod_bargain_3 31 rfl) (n := 209) rfl) rfl (of_decide_eq_true h1) (fun b15 => ?_)
            refine EJ_iload 130 0 (dk_21 (bt bc_Mod_bargain_4 0 rfl) (bt bc_Mod_bargain_4 1 rfl)) rfl rfl ?_
            refine EJ_ck (fun h16 => ?_)
            refine EJ_iald 131 h16 (dk_46 (bt bc_Mod_bargain_4 2 rfl)) rfl ?_
            exact EJ_iret rfl (dk_172 (bt bc_Mod_bargain_4 3 rfl))
          refine EJ_case 6 132 ds_Mod_bargain_37 (by decide) rfl (by decide) (fun _ => ?_) (fun hc37_6 => ?_)
          · refine EJ_aload_n 133 1 (dk_42 (bt bc_Mod_bargain_4 4 rfl)) rfl rfl ?_
            refine EJ_getR cf12 94 (by decide) 136 tw_1292 (fun _ _ _ => rfl) (dk_180 (bt bc_Mod_bargain_4 5 rfl) (bt bc_Mod_bargain_4 6 rfl) (bt bc_Mod_bargain_4 7 rfl) (n := 209) rfl) rfl (of_decide_eq_true h1) (fun b17 => ?_)
            refine EJ_iload 138 0 (dk_21 (bt bc_Mod_bargain_4 8 rfl) (bt bc_Mod_bargain_4 9 rfl)) rfl rfl ?_
            refine EJ_ck (fun h18 => ?_)
            refine EJ_iald 139 h18 (dk_46 (bt bc_Mod_bargain_4 10 rfl)) rfl ?_
            refine EJ_if_le 152 142 (dk_158 (bt bc_Mod_bargain_4 11 rfl) (bt bc_Mod_bargain_4 12 rfl) (bt bc_Mod_bargain_4 13 rfl) (n := 13) rfl) (by decide) rfl (fun _ => ?_) (fun _ => ?_)
            · refine EJ_iconst 153 (dk_3 (bt bc_Mod_bargain_4 24 rfl)) rfl (v := 0) kI_0 ?_
              exact EJ_iret rfl (dk_172 (bt bc_Mod_bargain_4 25 rfl))
            · refine EJ_aload_n 143 1 (dk_42 (bt bc_Mod_bargain_4 14 rfl)) rfl rfl ?_
              refine EJ_getR cf12 95 (by decide) 146 tw_1293 (fun _ _ _ => rfl) (dk_180 (bt bc_Mod_bargain_4 15 rfl) (bt bc_Mod_bargain_4 16 rfl) (bt bc_Mod_bargain_4 17 rfl) (n := 212) rfl) rfl (of_decide_eq_true h1) (fun b19 => ?_)
              refine EJ_iload 148 0 (dk_21 (bt bc_Mod_bargain_4 18 rfl) (bt bc_Mod_bargain_4 19 rfl)) rfl rfl ?_
              refine EJ_ck (fun h20 => ?_)
              refine EJ_iald 149 h20 (dk_46 (bt bc_Mod_bargain_4 20 rfl)) rfl ?_
              refine EJ_goto 153 (dk_167 (bt bc_Mod_bargain_4 21 rfl) (bt bc_Mod_bargain_4 22 rfl) (bt bc_Mod_bargain_4 23 rfl) (n := 4) rfl) (by decide) ?_
              exact EJ_iret rfl (dk_172 (bt bc_Mod_bargain_4 25 rfl))
          refine EJ_case 7 154 ds_Mod_bargain_37 (by decide) rfl (by decide) (fun _ => ?_) (fun hc37_7 => ?_)
          · refine EJ_aload_n 155 1 (dk_42 (bt bc_Mod_bargain_4 26 rfl)) rfl rfl ?_
            refine EJ_getR cf12 96 (by decide) 158 tw_1294 (fun _ _ _ => rfl) (dk_180 (bt bc_Mod_bargain_4 27 rfl) (bt bc_Mod_bargain_4 28 rfl) (bt bc_Mod_bargain_4 29 rfl) (n := 215) rfl) rfl (of_decide_eq_true h1) (fun b21 => ?_)
            refine EJ_iload 160 0 (dk_21 (bt bc_Mod_bargain_4 30 rfl) (bt bc_Mod_bargain_4 31 rfl)) rfl rfl ?_
            refine EJ_ck (fun h22 => ?_)
            refine EJ_iald 161 h22 (dk_46 (bt bc_Mod_bargain_5 0 rfl)) rfl ?_
            refine EJ_if_le 168 164 (dk_158 (bt bc_Mod_bargain_5 1 rfl) (bt bc_Mod_bargain_5 2 rfl) (bt bc_Mod_bargain_5 3 rfl) (n := 7) rfl) (by decide) rfl (fun _ => ?_) (fun _ => ?_)
            · refine EJ_iconst 169 (dk_3 (bt bc_Mod_bargain_5 8 rfl)) rfl (v := 0) kI_0 ?_
              exact EJ_iret rfl (dk_172 (bt bc_Mod_bargain_5 9 rfl))
            · refine EJ_iconst 165 (dk_4 (bt bc_Mod_bargain_5 4 rfl)) rfl (v := 1) kI_1 ?_
              refine EJ_goto 169 (dk_167 (bt bc_Mod_bargain_5 5 rfl) (bt bc_Mod_bargain_5 6 rfl) (bt bc_Mod_bargain_5 7 rfl) (n := 4) rfl) (by decide) ?_
              exact EJ_iret rfl (dk_172 (bt bc_Mod_bargain_5 9 rfl))
          refine EJ_tabOut 170 ds_Mod_bargain_37 (tabOut (fun k k1 k2 => by
              rcases (show k = 0 ∨ k = 1 ∨ k = 2 ∨ k = 3 ∨ k = 4 ∨ k = 5 ∨ k = 6 ∨ k = 7 by omega) with rfl | rfl | rfl | rfl | rfl | rfl | rfl | rfl
              · exact hc37_0
              · exact hc37_1
              · exact hc37_2
              · exact hc37_3
              · exact hc37_4
              · exact hc37_5
              · exact hc37_6
              · exact hc37_7)) (by decide) ?_
          refine EJ_iconst 171 (dk_2 (bt bc_Mod_bargain_5 10 rfl)) rfl (v := (-1)) kI_m1 ?_
          exact EJ_iret rfl (dk_172 (bt bc_Mod_bargain_5 11 rfl))
        · refine EJ_iconst 27 (dk_2 (bt bc_Mod_bargain_0 26 rfl)) rfl (v := (-1)) kI_m1 ?_
          exact EJ_iret rfl (dk_172 (bt bc_Mod_bargain_0 27 rfl))
abbrev Y_Mod_best : Ym := (⟨"RiceHallModel", "best", "(I)I"⟩, prog_14_method_79_code, 8, (some FieldType.int))
theorem bc_Mod_best_0 : bts prog_14_method_79_code 0 [42, 180, 1, 254, 153, 0, 12, 27, 3, 6, 184, 0, 252, 154, 0, 5, 2, 172, 27, 5, 162, 0, 7, 4, 167, 0, 4, 3, 61, 42, 180, 2] := bts_of (by decide +kernel)
theorem bc_Mod_best_1 : bts prog_14_method_79_code 32 [1, 4, 100, 62, 2, 54, 4, 3, 54, 5, 3, 54, 6, 21, 6, 42, 180, 0, 161, 29, 46, 162, 0, 114, 16, 60, 29, 104, 21, 6, 96, 54] := bts_of (by decide +kernel)
theorem bc_Mod_best_2 : bts prog_14_method_79_code 64 [7, 42, 180, 0, 227, 21, 6, 46, 153, 0, 89, 42, 180, 0, 191, 21, 7, 51, 28, 159, 0, 6, 167, 0, 75, 21, 4, 155, 0, 34, 28, 153] := bts_of (by decide +kernel)
theorem bc_Mod_best_3 : bts prog_14_method_79_code 96 [0, 18, 42, 180, 0, 182, 21, 7, 46, 21, 4, 164, 0, 30, 167, 0, 15, 42, 180, 0, 182, 21, 7, 46, 21, 4, 162, 0, 15, 42, 180, 0] := bts_of (by decide +kernel)
theorem bc_Mod_best_4 : bts prog_14_method_79_code 128 [182, 21, 7, 46, 54, 4, 3, 54, 5, 42, 180, 0, 182, 21, 7, 46, 21, 4, 160, 0, 15, 21, 5, 42, 180, 0, 227, 21, 6, 46, 96, 54] := bts_of (by decide +kernel)
theorem bc_Mod_best_5 : bts prog_14_method_79_code 160 [5, 132, 6, 1, 167, 255, 137, 21, 4, 156, 0, 7, 2, 167, 0, 16, 27, 5, 112, 154, 0, 8, 21, 4, 167, 0, 5, 21, 5, 172] := bts_of (by decide +kernel)
theorem hd_Mod_best : Y_Mod_best.1.cls = RX12 ∧ Y_Mod_best.1.cls ≠ "java/lang/invoke/MethodHandle" ∧ Y_Mod_best.1.cls ≠ "java/lang/invoke/VarHandle" ∧ (parseMethodDescriptor Y_Mod_best.1.desc).map (fun d => d.parameters.length) = some 1 := by decide +kernel
def Mod_best_J161 (k45 : Nat → Int32 → Int32 → Int32 → Int32 → Int32 → Int32 → Mm → Option (Int32 × Mm)) (x0 : Nat) (x1 : Int32) (x2 : Int32) (x3 : Int32) (x4 : Int32) (x5 : Int32) (x6 : Int32) (M : Mm) : Option (Int32 × Mm) :=
  let v12 : Int32 := x6 + 1
  k45 x0 x1 x2 x3 x4 x5 v12 M
set_option maxRecDepth 100000 in
set_option maxHeartbeats 4000000 in
theorem e_Mod_best_J161 {G : Gx} (k45 : Nat → Int32 → Int32 → Int32 → Int32 → Int32 → Int32 → Mm → Option (Int32 × Mm)) (hk45 : ∀ (x0 : Nat) (x1 : Int32) (x2 : Int32) (x3 : Int32) (x4 : Int32) (x5 : Int32) (x6 : Int32) (M : Mm), EJ G Y_Mod_best cvI 2 45 [(0, .ref x0), (1, .int x1), (2, .int x2), (3, .int x3), (4, .int x4), (5, .int x5), (6, .int x6)] [] M (k45 x0 x1 x2 x3 x4 x5 x6 M)) (x0 : Nat) (x1 : Int32) (x2 : Int32) (x3 : Int32) (x4 : Int32) (x5 : Int32) (x6 : Int32) (M : Mm) : EJ G Y_Mod_best cvI 2 161 [(0, .ref x0), (1, .int x1), (2, .int x2), (3, .int x3), (4, .int x4), (5, .int x5), (6, .int x6)] [] M (Mod_best_J161 k45 x0 x1 x2 x3 x4 x5 x6 M) := by
  unfold Mod_best_J161
  refine EJ_iinc 164 6 (lv2 := [(6, .int _), (0, .ref _), (1, .int _), (2, .int _), (3, .int _), (4, .int _), (5, .int _)]) (dk_132 (bt bc_Mod_best_5 1 rfl) (bt bc_Mod_best_5 2 rfl) (bt bc_Mod_best_5 3 rfl) (n := 1) rfl) rfl (by decide) rfl (v := 1) kI_1 rfl ?_
  refine EJ_goto 45 (dk_167 (bt bc_Mod_best_5 4 rfl) (bt bc_Mod_best_5 5 rfl) (bt bc_Mod_best_5 6 rfl) (n := -119) rfl) (by decide) ?_
  exact EJ_pick (lv2 := [(0, .ref _), (1, .int _), (2, .int _), (3, .int _), (4, .int _), (5, .int _), (6, .int _)]) [1, 2, 3, 4, 5, 6, 0] rfl (hk45 _ _ _ _ _ _ _ _)
def Mod_best_J137 (k45 : Nat → Int32 → Int32 → Int32 → Int32 → Int32 → Int32 → Mm → Option (Int32 × Mm)) (x0 : Nat) (x1 : Int32) (x2 : Int32) (x3 : Int32) (x4 : Int32) (x5 : Int32) (x6 : Int32) (x7 : Int32) (M : Mm) : Option (Int32 × Mm) :=
  ck (kO M x0 12 107) (
  nn (mR M x0 85) (fun b20 =>
  ck (kA M b20 20 x7) (
  if (mI M b20 (ix x7)) = x4 then (
    nn (mR M x0 100) (fun b22 =>
    ck (kA M b22 20 x6) (
    let v24 : Int32 := x5 + (mI M b22 (ix x6))
    Mod_best_J161 k45 x0 x1 x2 x3 x4 v24 x6 M)))
  else (
    Mod_best_J161 k45 x0 x1 x2 x3 x4 x5 x6 M))))
set_option maxRecDepth 100000 in
set_option maxHeartbeats 4000000 in
theorem e_Mod_best_J137 {G : Gx} (k45 : Nat → Int32 → Int32 → Int32 → Int32 → Int32 → Int32 → Mm → Option (Int32 × Mm)) (hk45 : ∀ (x0 : Nat) (x1 : Int32) (x2 : Int32) (x3 : Int32) (x4 : Int32) (x5 : Int32) (x6 : Int32) (M : Mm), EJ G Y_Mod_best cvI 2 45 [(0, .ref x0), (1, .int x1), (2, .int x2), (3, .int x3), (4, .int x4), (5, .int x5), (6, .int x6)] [] M (k45 x0 x1 x2 x3 x4 x5 x6 M)) (x0 : Nat) (x1 : Int32) (x2 : Int32) (x3 : Int32) (x4 : Int32) (x5 : Int32) (x6 : Int32) (x7 : Int32) (M : Mm) : EJ G Y_Mod_best cvI 2 137 [(0, .ref x0), (1, .int x1), (2, .int x2), (3, .int x3), (4, .int x4), (5, .int x5), (6, .int x6), (7, .int x7)] [] M (Mod_best_J137 k45 x0 x1 x2 x3 x4 x5 x6 x7 M) := by
  unfold Mod_best_J137
  refine EJ_aload_n 138 0 (dk_42 (bt bc_Mod_best_4 9 rfl)) rfl rfl ?_
  refine EJ_ck (fun h19 => ?_)
  refine EJ_getR cf12 85 (by decide) 141 tw_1283 (fun _ _ _ => rfl) (dk_180 (bt bc_Mod_best_4 10 rfl) (bt bc_Mod_best_4 11 rfl) (bt bc_Mod_best_4 12 rfl) (n := 182) rfl) rfl (of_decide_eq_true h19) (fun b20 => ?_)
  refine EJ_iload 143 7 (dk_21 (bt bc_Mod_best_4 13 rfl) (bt bc_Mod_best_4 14 rfl)) rfl rfl ?_
  refine EJ_ck (fun h21 => ?_)
  refine EJ_iald 144 h21 (dk_46 (bt bc_Mod_best_4 15 rfl)) rfl ?_
  refine EJ_iload 146 4 (dk_21 (bt bc_Mod_best_4 16 rfl) (bt bc_Mod_best_4 17 rfl)) rfl rfl ?_
  refine EJ_icmp_ne 161 149 (dk_160 (bt bc_Mod_best_4 18 rfl) (bt bc_Mod_best_4 19 rfl) (bt bc_Mod_best_4 20 rfl) (n := 15) rfl) (by decide) rfl (fun _ => ?_) (fun _ => ?_)
  · exact EJ_pick (lv2 := [(0, .ref _), (1, .int _), (2, .int _), (3, .int _), (4, .int _), (5, .int _), (6, .int _)]) [0, 1, 2, 3, 4, 5, 6] rfl (e_Mod_best_J161 k45 hk45 _ _ _ _ _ _ _ _)
  · refine EJ_iload 151 5 (dk_21 (bt bc_Mod_best_4 21 rfl) (bt bc_Mod_best_4 22 rfl)) rfl rfl ?_
    refine EJ_aload_n 152 0 (dk_42 (bt bc_Mod_best_4 23 rfl)) rfl rfl ?_
    refine EJ_getR cf12 100 (by decide) 155 tw_1298 (fun _ _ _ => rfl) (dk_180 (bt bc_Mod_best_4 24 rfl) (bt bc_Mod_best_4 25 rfl) (bt bc_Mod_best_4 26 rfl) (n := 227) rfl) rfl (of_decide_eq_true h19) (fun b22 => ?_)
    refine EJ_iload 157 6 (dk_21 (bt bc_Mod_best_4 27 rfl) (bt bc_Mod_best_4 28 rfl)) rfl rfl ?_
    refine EJ_ck (fun h23 => ?_)
    refine EJ_iald 158 h23 (dk_46 (bt bc_Mod_best_4 29 rfl)) rfl ?_
    refine EJ_iadd 159 (dk_96 (bt bc_Mod_best_4 30 rfl)) rfl ?_
    refine EJ_istore 161 (lv2 := [(5, .int _), (0, .ref _), (1, .int _), (2, .int _), (3, .int _), (4, .int _), (6, .int _), (7, .int _)]) (dk_54 (bt bc_Mod_best_4 31 rfl) (bt bc_Mod_best_5 0 rfl)) rfl (by decide) rfl ?_
    exact EJ_pick (lv2 := [(0, .ref _), (1, .int _), (2, .int _), (3, .int _), (4, .int _), (5, .int _), (6, .int _)]) [1, 2, 3, 4, 5, 0, 6] rfl (e_Mod_best_J161 k45 hk45 _ _ _ _ _ _ _ _)
def Mod_best_J125 (k45 : Nat → Int32 → Int32 → Int32 → Int32 → Int32 → Int32 → Mm → Option (Int32 × Mm)) (x0 : Nat) (x1 : Int32) (x2 : Int32) (x3 : Int32) (x6 : Int32) (x7 : Int32) (M : Mm) : Option (Int32 × Mm) :=
  ck (kO M x0 12 107) (
  nn (mR M x0 85) (fun b16 =>
  ck (kA M b16 20 x7) (
  let v18 : Int32 := mI M b16 (ix x7)
  Mod_best_J137 k45 x0 x1 x2 x3 v18 0 x6 x7 M)))
set_option maxRecDepth 100000 in
set_option maxHeartbeats 4000000 in
theorem e_Mod_best_J125 {G : Gx} (k45 : Nat → Int32 → Int32 → Int32 → Int32 → Int32 → Int32 → Mm → Option (Int32 × Mm)) (hk45 : ∀ (x0 : Nat) (x1 : Int32) (x2 : Int32) (x3 : Int32) (x4 : Int32) (x5 : Int32) (x6 : Int32) (M : Mm), EJ G Y_Mod_best cvI 2 45 [(0, .ref x0), (1, .int x1), (2, .int x2), (3, .int x3), (4, .int x4), (5, .int x5), (6, .int x6)] [] M (k45 x0 x1 x2 x3 x4 x5 x6 M)) (x0 : Nat) (x1 : Int32) (x2 : Int32) (x3 : Int32) (x6 : Int32) (x7 : Int32) (M : Mm) : EJ G Y_Mod_best cvI 2 125 [(0, .ref x0), (1, .int x1), (2, .int x2), (3, .int x3), (6, .int x6), (7, .int x7)] [] M (Mod_best_J125 k45 x0 x1 x2 x3 x6 x7 M) := by
  unfold Mod_best_J125
  refine EJ_aload_n 126 0 (dk_42 (bt bc_Mod_best_3 29 rfl)) rfl rfl ?_
  refine EJ_ck (fun h15 => ?_)
  refine EJ_getR cf12 85 (by decide) 129 tw_1283 (fun _ _ _ => rfl) (dk_180 (bt bc_Mod_best_3 30 rfl) (bt bc_Mod_best_3 31 rfl) (bt bc_Mod_best_4 0 rfl) (n := 182) rfl) rfl (of_decide_eq_true h15) (fun b16 => ?_)
  refine EJ_iload 131 5 (dk_21 (bt bc_Mod_best_4 1 rfl) (bt bc_Mod_best_4 2 rfl)) rfl rfl ?_
  refine EJ_ck (fun h17 => ?_)
  refine EJ_iald 132 h17 (dk_46 (bt bc_Mod_best_4 3 rfl)) rfl ?_
  refine EJ_istore 134 (lv2 := [(4, .int _), (0, .ref _), (1, .int _), (2, .int _), (3, .int _), (6, .int _), (7, .int _)]) (dk_54 (bt bc_Mod_best_4 4 rfl) (bt bc_Mod_best_4 5 rfl)) rfl (by decide) rfl ?_
  refine EJ_iconst 135 (dk_3 (bt bc_Mod_best_4 6 rfl)) rfl (v := 0) kI_0 ?_
  refine EJ_istore 137 (lv2 := [(5, .int _), (4, .int _), (0, .ref _), (1, .int _), (2, .int _), (3, .int _), (6, .int _), (7, .int _)]) (dk_54 (bt bc_Mod_best_4 7 rfl) (bt bc_Mod_best_4 8 rfl)) rfl (by decide) rfl ?_
  exact EJ_pick (lv2 := [(0, .ref _), (1, .int _), (2, .int _), (3, .int _), (4, .int _), (5, .int _), (6, .int _), (7, .int _)]) [2, 3, 4, 5, 1, 0, 6, 7] rfl (e_Mod_best_J137 k45 hk45 _ _ _ _ _ _ _ _ _)
def Mod_best_B45 (k45 : Nat → Int32 → Int32 → Int32 → Int32 → Int32 → Int32 → Mm → Option (Int32 × Mm)) (x0 : Nat) (x1 : Int32) (x2 : Int32) (x3 : Int32) (x4 : Int32) (x5 : Int32) (x6 : Int32) (M : Mm) : Option (Int32 × Mm) :=
  ck (kO M x0 12 107) (
  nn (mR M x0 78) (fun b7 =>
  ck (kA M b7 20 x3) (
  if (mI M b7 (ix x3)) ≤ x6 then (
    if 0 ≤ x4 then (
      if (rm x1 2) = 0 then (
        some (x4, M))
      else (
        some (x5, M)))
    else (
      some ((-1), M)))
  else (
    let v9 : Int32 := (60 * x3) + x6
    nn (mR M x0 100) (fun b10 =>
    ck (kA M b10 20 x6) (
    if (mI M b10 (ix x6)) = 0 then (
      Mod_best_J161 k45 x0 x1 x2 x3 x4 x5 x6 M)
    else (
      nn (mR M x0 88) (fun b13 =>
      ck (kA M b13 22 v9) (
      if (mI M b13 (ix v9)) = x2 then (
        if x4 < 0 then (
          Mod_best_J125 k45 x0 x1 x2 x3 x6 v9 M)
        else (
          if x2 = 0 then (
            nn (mR M x0 85) (fun b25 =>
            ck (kA M b25 20 v9) (
            if x4 ≤ (mI M b25 (ix v9)) then (
              Mod_best_J137 k45 x0 x1 x2 x3 x4 x5 x6 v9 M)
            else (
              Mod_best_J125 k45 x0 x1 x2 x3 x6 v9 M))))
          else (
            nn (mR M x0 85) (fun b27 =>
            ck (kA M b27 20 v9) (
            if (mI M b27 (ix v9)) ≤ x4 then (
              Mod_best_J137 k45 x0 x1 x2 x3 x4 x5 x6 v9 M)
            else (
              Mod_best_J125 k45 x0 x1 x2 x3 x6 v9 M))))))
      else (
        Mod_best_J161 k45 x0 x1 x2 x3 x4 x5 x6 M))))))))))
set_option maxRecDepth 100000 in
set_option maxHeartbeats 4000000 in
theorem e_Mod_best_B45 {G : Gx} (k45 : Nat → Int32 → Int32 → Int32 → Int32 → Int32 → Int32 → Mm → Option (Int32 × Mm)) (hk45 : ∀ (x0 : Nat) (x1 : Int32) (x2 : Int32) (x3 : Int32) (x4 : Int32) (x5 : Int32) (x6 : Int32) (M : Mm), EJ G Y_Mod_best cvI 2 45 [(0, .ref x0), (1, .int x1), (2, .int x2), (3, .int x3), (4, .int x4), (5, .int x5), (6, .int x6)] [] M (k45 x0 x1 x2 x3 x4 x5 x6 M)) (x0 : Nat) (x1 : Int32) (x2 : Int32) (x3 : Int32) (x4 : Int32) (x5 : Int32) (x6 : Int32) (M : Mm) : EJ G Y_Mod_best cvI 2 45 [(0, .ref x0), (1, .int x1), (2, .int x2), (3, .int x3), (4, .int x4), (5, .int x5), (6, .int x6)] [] M (Mod_best_B45 k45 x0 x1 x2 x3 x4 x5 x6 M) := by
  unfold Mod_best_B45
  refine EJ_iload 47 6 (dk_21 (bt bc_Mod_best_1 13 rfl) (bt bc_Mod_best_1 14 rfl)) rfl rfl ?_
  refine EJ_aload_n 48 0 (dk_42 (bt bc_Mod_best_1 15 rfl)) rfl rfl ?_
  refine EJ_ck (fun h6 => ?_)
  refine EJ_getR cf12 78 (by decide) 51 tw_1276 (fun _ _ _ => rfl) (dk_180 (bt bc_Mod_best_1 16 rfl) (bt bc_Mod_best_1 17 rfl) (bt bc_Mod_best_1 18 rfl) (n := 161) rfl) rfl (of_decide_eq_true h6) (fun b7 => ?_)
  refine EJ_iload_n 52 3 (dk_29 (bt bc_Mod_best_1 19 rfl)) rfl rfl ?_
  refine EJ_ck (fun h8 => ?_)
  refine EJ_iald 53 h8 (dk_46 (bt bc_Mod_best_1 20 rfl)) rfl ?_
  refine EJ_icmp_ge 167 56 (dk_162 (bt bc_Mod_best_1 21 rfl) (bt bc_Mod_best_1 22 rfl) (bt bc_Mod_best_1 23 rfl) (n := 114) rfl) (by decide) rfl (fun _ => ?_) (fun _ => ?_)
  · refine EJ_iload 169 4 (dk_21 (bt bc_Mod_best_5 7 rfl) (bt bc_Mod_best_5 8 rfl)) rfl rfl ?_
    refine EJ_if_ge 176 172 (dk_156 (bt bc_Mod_best_5 9 rfl) (bt bc_Mod_best_5 10 rfl) (bt bc_Mod_best_5 11 rfl) (n := 7) rfl) (by decide) rfl (fun _ => ?_) (fun _ => ?_)
    · refine EJ_iload_n 177 1 (dk_27 (bt bc_Mod_best_5 16 rfl)) rfl rfl ?_
      refine EJ_iconst 178 (dk_5 (bt bc_Mod_best_5 17 rfl)) rfl (v := 2) kI_2 ?_
      refine EJ_irem 179 (dk_112 (bt bc_Mod_best_5 18 rfl)) rfl (by decide) ?_
      refine EJ_if_ne 187 182 (dk_154 (bt bc_Mod_best_5 19 rfl) (bt bc_Mod_best_5 20 rfl) (bt bc_Mod_best_5 21 rfl) (n := 8) rfl) (by decide) rfl (fun _ => ?_) (fun _ => ?_)
      · refine EJ_iload 189 5 (dk_21 (bt bc_Mod_best_5 27 rfl) (bt bc_Mod_best_5 28 rfl)) rfl rfl ?_
        exact EJ_iret rfl (dk_172 (bt bc_Mod_best_5 29 rfl))
      · refine EJ_iload 184 4 (dk_21 (bt bc_Mod_best_5 22 rfl) (bt bc_Mod_best_5 23 rfl)) rfl rfl ?_
        refine EJ_goto 189 (dk_167 (bt bc_Mod_best_5 24 rfl) (bt bc_Mod_best_5 25 rfl) (bt bc_Mod_best_5 26 rfl) (n := 5) rfl) (by decide) ?_
        exact EJ_iret rfl (dk_172 (bt bc_Mod_best_5 29 rfl))
    · refine EJ_iconst 173 (dk_2 (bt bc_Mod_best_5 12 rfl)) rfl (v := (-1)) kI_m1 ?_
      refine EJ_goto 189 (dk_167 (bt bc_Mod_best_5 13 rfl) (bt bc_Mod_best_5 14 rfl) (bt bc_Mod_best_5 15 rfl) (n := 16) rfl) (by decide) ?_
      exact EJ_iret rfl (dk_172 (bt bc_Mod_best_5 29 rfl))
  · refine EJ_bipush 58 (dk_16 (bt bc_Mod_best_1 24 rfl) (bt bc_Mod_best_1 25 rfl) (n := 60) rfl) rfl (v := 60) kB_60 ?_
    refine EJ_iload_n 59 3 (dk_29 (bt bc_Mod_best_1 26 rfl)) rfl rfl ?_
    refine EJ_imul 60 (dk_104 (bt bc_Mod_best_1 27 rfl)) rfl ?_
    refine EJ_iload 62 6 (dk_21 (bt bc_Mod_best_1 28 rfl) (bt bc_Mod_best_1 29 rfl)) rfl rfl ?_
    refine EJ_iadd 63 (dk_96 (bt bc_Mod_best_1 30 rfl)) rfl ?_
    refine EJ_istore 65 (lv2 := [(7, .int _), (0, .ref _), (1, .int _), (2, .int _), (3, .int _), (4, .int _), (5, .int _), (6, .int _)]) (dk_54 (bt bc_Mod_best_1 31 rfl) (bt bc_Mod_best_2 0 rfl)) rfl (by decide) rfl ?_
    refine EJ_aload_n 66 1 (dk_42 (bt bc_Mod_best_2 1 rfl)) rfl rfl ?_
    refine EJ_getR cf12 100 (by decide) 69 tw_1298 (fun _ _ _ => rfl) (dk_180 (bt bc_Mod_best_2 2 rfl) (bt bc_Mod_best_2 3 rfl) (bt bc_Mod_best_2 4 rfl) (n := 227) rfl) rfl (of_decide_eq_true h6) (fun b10 => ?_)
    refine EJ_iload 71 7 (dk_21 (bt bc_Mod_best_2 5 rfl) (bt bc_Mod_best_2 6 rfl)) rfl rfl ?_
    refine EJ_ck (fun h11 => ?_)
    refine EJ_iald 72 h11 (dk_46 (bt bc_Mod_best_2 7 rfl)) rfl ?_
    refine EJ_if_eq 161 75 (dk_153 (bt bc_Mod_best_2 8 rfl) (bt bc_Mod_best_2 9 rfl) (bt bc_Mod_best_2 10 rfl) (n := 89) rfl) (by decide) rfl (fun _ => ?_) (fun _ => ?_)
    · exact EJ_pick (lv2 := [(0, .ref _), (1, .int _), (2, .int _), (3, .int _), (4, .int _), (5, .int _), (6, .int _)]) [1, 2, 3, 4, 5, 6, 7] rfl (e_Mod_best_J161 k45 hk45 _ _ _ _ _ _ _ _)
    · refine EJ_aload_n 76 1 (dk_42 (bt bc_Mod_best_2 11 rfl)) rfl rfl ?_
      refine EJ_getR cf12 88 (by decide) 79 tw_1286 (fun _ _ _ => rfl) (dk_180 (bt bc_Mod_best_2 12 rfl) (bt bc_Mod_best_2 13 rfl) (bt bc_Mod_best_2 14 rfl) (n := 191) rfl) rfl (of_decide_eq_true h6) (fun b13 => ?_)
      refine EJ_iload 81 0 (dk_21 (bt bc_Mod_best_2 15 rfl) (bt bc_Mod_best_2 16 rfl)) rfl rfl ?_
      refine EJ_ck (fun h14 => ?_)
      refine EJ_zald 82 h14 (dk_51 (bt bc_Mod_best_2 17 rfl)) rfl ?_
      refine EJ_iload_n 83 3 (dk_28 (bt bc_Mod_best_2 18 rfl)) rfl rfl ?_
      refine EJ_icmp_eq 89 86 (dk_159 (bt bc_Mod_best_2 19 rfl) (bt bc_Mod_best_2 20 rfl) (bt bc_Mod_best_2 21 rfl) (n := 6) rfl) (by decide) rfl (fun _ => ?_) (fun _ => ?_)
      · refine EJ_iload 91 5 (dk_21 (bt bc_Mod_best_2 25 rfl) (bt bc_Mod_best_2 26 rfl)) rfl rfl ?_
        refine EJ_if_lt 125 94 (dk_155 (bt bc_Mod_best_2 27 rfl) (bt bc_Mod_best_2 28 rfl) (bt bc_Mod_best_2 29 rfl) (n := 34) rfl) (by decide) rfl (fun _ => ?_) (fun _ => ?_)
        · exact EJ_pick (lv2 := [(0, .ref _), (1, .int _), (2, .int _), (3, .int _), (6, .int _), (7, .int _)]) [1, 2, 3, 4, 7, 0] rfl (e_Mod_best_J125 k45 hk45 _ _ _ _ _ _ _)
        · refine EJ_iload_n 95 3 (dk_28 (bt bc_Mod_best_2 30 rfl)) rfl rfl ?_
          refine EJ_if_eq 113 98 (dk_153 (bt bc_Mod_best_2 31 rfl) (bt bc_Mod_best_3 0 rfl) (bt bc_Mod_best_3 1 rfl) (n := 18) rfl) (by decide) rfl (fun _ => ?_) (fun _ => ?_)
          · refine EJ_aload_n 114 1 (dk_42 (bt bc_Mod_best_3 17 rfl)) rfl rfl ?_
            refine EJ_getR cf12 85 (by decide) 117 tw_1283 (fun _ _ _ => rfl) (dk_180 (bt bc_Mod_best_3 18 rfl) (bt bc_Mod_best_3 19 rfl) (bt bc_Mod_best_3 20 rfl) (n := 182) rfl) rfl (of_decide_eq_true h6) (fun b25 => ?_)
            refine EJ_iload 119 0 (dk_21 (bt bc_Mod_best_3 21 rfl) (bt bc_Mod_best_3 22 rfl)) rfl rfl ?_
            refine EJ_ck (fun h26 => ?_)
            refine EJ_iald 120 h26 (dk_46 (bt bc_Mod_best_3 23 rfl)) rfl ?_
            refine EJ_iload 122 5 (dk_21 (bt bc_Mod_best_3 24 rfl) (bt bc_Mod_best_3 25 rfl)) rfl rfl ?_
            refine EJ_icmp_ge 137 125 (dk_162 (bt bc_Mod_best_3 26 rfl) (bt bc_Mod_best_3 27 rfl) (bt bc_Mod_best_3 28 rfl) (n := 15) rfl) (by decide) rfl (fun _ => ?_) (fun _ => ?_)
            · exact EJ_pick (lv2 := [(0, .ref _), (1, .int _), (2, .int _), (3, .int _), (4, .int _), (5, .int _), (6, .int _), (7, .int _)]) [1, 2, 3, 4, 5, 6, 7, 0] rfl (e_Mod_best_J137 k45 hk45 _ _ _ _ _ _ _ _ _)
            · exact EJ_pick (lv2 := [(0, .ref _), (1, .int _), (2, .int _), (3, .int _), (6, .int _), (7, .int _)]) [1, 2, 3, 4, 7, 0] rfl (e_Mod_best_J125 k45 hk45 _ _ _ _ _ _ _)
          · refine EJ_aload_n 99 1 (dk_42 (bt bc_Mod_best_3 2 rfl)) rfl rfl ?_
            refine EJ_getR cf12 85 (by decide) 102 tw_1283 (fun _ _ _ => rfl) (dk_180 (bt bc_Mod_best_3 3 rfl) (bt bc_Mod_best_3 4 rfl) (bt bc_Mod_best_3 5 rfl) (n := 182) rfl) rfl (of_decide_eq_true h6) (fun b27 => ?_)
            refine EJ_iload 104 0 (dk_21 (bt bc_Mod_best_3 6 rfl) (bt bc_Mod_best_3 7 rfl)) rfl rfl ?_
            refine EJ_ck (fun h28 => ?_)
            refine EJ_iald 105 h28 (dk_46 (bt bc_Mod_best_3 8 rfl)) rfl ?_
            refine EJ_iload 107 5 (dk_21 (bt bc_Mod_best_3 9 rfl) (bt bc_Mod_best_3 10 rfl)) rfl rfl ?_
            refine EJ_icmp_le 137 110 (dk_164 (bt bc_Mod_best_3 11 rfl) (bt bc_Mod_best_3 12 rfl) (bt bc_Mod_best_3 13 rfl) (n := 30) rfl) (by decide) rfl (fun _ => ?_) (fun _ => ?_)
            · exact EJ_pick (lv2 := [(0, .ref _), (1, .int _), (2, .int _), (3, .int _), (4, .int _), (5, .int _), (6, .int _), (7, .int _)]) [1, 2, 3, 4, 5, 6, 7, 0] rfl (e_Mod_best_J137 k45 hk45 _ _ _ _ _ _ _ _ _)
            · refine EJ_goto 125 (dk_167 (bt bc_Mod_best_3 14 rfl) (bt bc_Mod_best_3 15 rfl) (bt bc_Mod_best_3 16 rfl) (n := 15) rfl) (by decide) ?_
              exact EJ_pick (lv2 := [(0, .ref _), (1, .int _), (2, .int _), (3, .int _), (6, .int _), (7, .int _)]) [1, 2, 3, 4, 7, 0] rfl (e_Mod_best_J125 k45 hk45 _ _ _ _ _ _ _)
      · refine EJ_goto 161 (dk_167 (bt bc_Mod_best_2 22 rfl) (bt bc_Mod_best_2 23 rfl) (bt bc_Mod_best_2 24 rfl) (n := 75) rfl) (by decide) ?_
        exact EJ_pick (lv2 := [(0, .ref _), (1, .int _), (2, .int _), (3, .int _), (4, .int _), (5, .int _), (6, .int _)]) [1, 2, 3, 4, 5, 6, 7] rfl (e_Mod_best_J161 k45 hk45 _ _ _ _ _ _ _ _)
def Mod_best_L45 (n : Nat) : Nat → Int32 → Int32 → Int32 → Int32 → Int32 → Int32 → Mm → Option (Int32 × Mm) :=
  match n with
  | 0 => fun _ _ _ _ _ _ _ _ => none
  | n + 1 => Mod_best_B45 (Mod_best_L45 n)
theorem e_Mod_best_L45 {G : Gx} : ∀ (n : Nat) (x0 : Nat) (x1 : Int32) (x2 : Int32) (x3 : Int32) (x4 : Int32) (x5 : Int32) (x6 : Int32) (M : Mm), EJ G Y_Mod_best cvI 2 45 [(0, .ref x0), (1, .int x1), (2, .int x2), (3, .int x3), (4, .int x4), (5, .int x5), (6, .int x6)] [] M (Mod_best_L45 n x0 x1 x2 x3 x4 x5 x6 M) := by
  intro n
  induction n with
  | zero => intros; exact EJ_none
  | succ n ih => intro x0 x1 x2 x3 x4 x5 x6 M; exact e_Mod_best_B45 _ ih x0 x1 x2 x3 x4 x5 x6 M
def Mod_best_J28 (x0 : Nat) (x1 : Int32) (s0 : Int32) (M : Mm) : Option (Int32 × Mm) :=
  ck (kO M x0 12 107) (
  let v5 : Int32 := (mI M x0 70) - 1
  Mod_best_L45 fu x0 x1 s0 v5 (-1) 0 0 M)
set_option maxRecDepth 100000 in
set_option maxHeartbeats 4000000 in
theorem e_Mod_best_J28 {G : Gx} (x0 : Nat) (x1 : Int32) (s0 : Int32) (M : Mm) : EJ G Y_Mod_best cvI 2 28 [(0, .ref x0), (1, .int x1)] [.int s0] M (Mod_best_J28 x0 x1 s0 M) := by
  unfold Mod_best_J28
  refine EJ_istore_n 29 (lv2 := [(2, .int _), (0, .ref _), (1, .int _)]) (dk_61 (bt bc_Mod_best_0 28 rfl)) rfl (by decide) rfl ?_
  refine EJ_aload_n 30 1 (dk_42 (bt bc_Mod_best_0 29 rfl)) rfl rfl ?_
  refine EJ_ck (fun h4 => ?_)
  refine EJ_getI cf12 70 (by decide) 33 tw_1268 (fun _ _ _ => rfl) (dk_180 (bt bc_Mod_best_0 30 rfl) (bt bc_Mod_best_0 31 rfl) (bt bc_Mod_best_1 0 rfl) (n := 513) rfl) rfl (of_decide_eq_true h4) ?_
  refine EJ_iconst 34 (dk_4 (bt bc_Mod_best_1 1 rfl)) rfl (v := 1) kI_1 ?_
  refine EJ_isub 35 (dk_100 (bt bc_Mod_best_1 2 rfl)) rfl ?_
  refine EJ_istore_n 36 (lv2 := [(3, .int _), (2, .int _), (0, .ref _), (1, .int _)]) (dk_62 (bt bc_Mod_best_1 3 rfl)) rfl (by decide) rfl ?_
  refine EJ_iconst 37 (dk_2 (bt bc_Mod_best_1 4 rfl)) rfl (v := (-1)) kI_m1 ?_
  refine EJ_istore 39 (lv2 := [(4, .int _), (3, .int _), (2, .int _), (0, .ref _), (1, .int _)]) (dk_54 (bt bc_Mod_best_1 5 rfl) (bt bc_Mod_best_1 6 rfl)) rfl (by decide) rfl ?_
  refine EJ_iconst 40 (dk_3 (bt bc_Mod_best_1 7 rfl)) rfl (v := 0) kI_0 ?_
  refine EJ_istore 42 (lv2 := [(5, .int _), (4, .int _), (3, .int _), (2, .int _), (0, .ref _), (1, .int _)]) (dk_54 (bt bc_Mod_best_1 8 rfl) (bt bc_Mod_best_1 9 rfl)) rfl (by decide) rfl ?_
  refine EJ_iconst 43 (dk_3 (bt bc_Mod_best_1 10 rfl)) rfl (v := 0) kI_0 ?_
  refine EJ_istore 45 (lv2 := [(6, .int _), (5, .int _), (4, .int _), (3, .int _), (2, .int _), (0, .ref _), (1, .int _)]) (dk_54 (bt bc_Mod_best_1 11 rfl) (bt bc_Mod_best_1 12 rfl)) rfl (by decide) rfl ?_
  exact EJ_pick (lv2 := [(0, .ref _), (1, .int _), (2, .int _), (3, .int _), (4, .int _), (5, .int _), (6, .int _)]) [5, 6, 4, 3, 2, 1, 0] rfl (e_Mod_best_L45 fu _ _ _ _ _ _ _ _)
def Mod_best (M : Mm) (a0 : Nat) (a1 : Int32) : Option (Int32 × Mm) :=
  ck (kO M a0 12 107) (
  if (mI M a0 73) = 0 then (
    some ((-1), M))
  else (
    bd (Mod_in M a1 0 3) (fun r2 M3 =>
    if r2 = 0 then (
      some ((-1), M3))
    else (
      if 2 ≤ a1 then (
        Mod_best_J28 a0 a1 0 M3)
      else (
        Mod_best_J28 a0 a1 1 M3)))))
set_option maxRecDepth 100000 in
set_option maxHeartbeats 4000000 in
theorem s_Mod_best (G : Gx) (M : Mm) (a0 : Nat) (a1 : Int32) : FnS G Y_Mod_best cvI 2 [.ref a0, .int a1] M (Mod_best M a0 a1) := by
  refine FnS.ofE (by decide) (Nat.le_of_ble_eq_true rfl) ?_
  show EJ G Y_Mod_best cvI 2 0 [(0, .ref a0), (1, .int a1)] [] M _
  unfold Mod_best
  refine EJ_aload_n 1 0 (dk_42 (bt bc_Mod_best_0 0 rfl)) rfl rfl ?_
  refine EJ_ck (fun h1 => ?_)
  refine EJ_getI cf12 73 (by decide) 4 tw_1271 (fun _ _ _ => rfl) (dk_180 (bt bc_Mod_best_0 1 rfl) (bt bc_Mod_best_0 2 rfl) (bt bc_Mod_best_0 3 rfl) (n := 510) rfl) rfl (of_decide_eq_true h1) ?_
  refine EJ_if_eq 16 7 (dk_153 (bt bc_Mod_best_0 4 rfl) (bt bc_Mod_best_0 5 rfl) (bt bc_Mod_best_0 6 rfl) (n := 12) rfl) (by decide) rfl (fun _ => ?_) (fun _ => ?_)
  · refine EJ_iconst 17 (dk_2 (bt bc_Mod_best_0 16 rfl)) rfl (v := (-1)) kI_m1 ?_
    exact EJ_iret rfl (dk_172 (bt bc_Mod_best_0 17 rfl))
  · refine EJ_iload_n 8 1 (dk_27 (bt bc_Mod_best_0 7 rfl)) rfl rfl ?_
    refine EJ_iconst 9 (dk_3 (bt bc_Mod_best_0 8 rfl)) rfl (v := 0) kI_0 ?_
    refine EJ_iconst 10 (dk_6 (bt bc_Mod_best_0 9 rfl)) rfl (v := 3) kI_3 ?_
    refine EJ_callSi (Y2 := Y_Mod_in) 13 (s_Mod_in G _ _ _ _) rfl (dk_184 (bt bc_Mod_best_0 10 rfl) (bt bc_Mod_best_0 11 rfl) (bt bc_Mod_best_0 12 rfl) (n := 252) rfl) rfl tw_1532 tw_1533 tw_8 tw_1534 hd_Mod_in rfl (by decide) (Nat.le_of_ble_eq_true rfl) (fun r2 M3 => ?_)
    refine EJ_if_ne 18 16 (dk_154 (bt bc_Mod_best_0 13 rfl) (bt bc_Mod_best_0 14 rfl) (bt bc_Mod_best_0 15 rfl) (n := 5) rfl) (by decide) rfl (fun _ => ?_) (fun _ => ?_)
    · refine EJ_iload_n 19 1 (dk_27 (bt bc_Mod_best_0 18 rfl)) rfl rfl ?_
      refine EJ_iconst 20 (dk_5 (bt bc_Mod_best_0 19 rfl)) rfl (v := 2) kI_2 ?_
      refine EJ_icmp_ge 27 23 (dk_162 (bt bc_Mod_best_0 20 rfl) (bt bc_Mod_best_0 21 rfl) (bt bc_Mod_best_0 22 rfl) (n := 7) rfl) (by decide) rfl (fun _ => ?_) (fun _ => ?_)
      · refine EJ_iconst 28 (dk_3 (bt bc_Mod_best_0 27 rfl)) rfl (v := 0) kI_0 ?_
        exact EJ_pick (lv2 := [(0, .ref _), (1, .int _)]) [0, 1] rfl (e_Mod_best_J28 _ _ _ _)
      · refine EJ_iconst 24 (dk_4 (bt bc_Mod_best_0 23 rfl)) rfl (v := 1) kI_1 ?_
        refine EJ_goto 28 (dk_167 (bt bc_Mod_best_0 24 rfl) (bt bc_Mod_best_0 25 rfl) (bt bc_Mod_best_0 26 rfl) (n := 4) rfl) (by decide) ?_
        exact EJ_pick (lv2 := [(0, .ref _), (1, .int _)]) [0, 1] rfl (e_Mod_best_J28 _ _ _ _)
    · refine EJ_iconst 17 (dk_2 (bt bc_Mod_best_0 16 rfl)) rfl (v := (-1)) kI_m1 ?_
      exact EJ_iret rfl (dk_172 (bt bc_Mod_best_0 17 rfl))
abbrev Y_Mod_owe : Ym := (⟨"RiceHallModel", "owe", "(III)Z"⟩, prog_14_method_80_code, 4, (some FieldType.boolean))
theorem bc_Mod_owe_0 : bts prog_14_method_80_code 0 [42, 27, 182, 1, 22, 153, 0, 27, 42, 28, 182, 1, 22, 153, 0, 19, 27, 28, 159, 0, 14, 29, 3, 19, 1, 45, 184, 0, 252, 154, 0, 5] := bts_of (by decide +kernel)
theorem bc_Mod_owe_1 : bts prog_14_method_80_code 32 [3, 172, 42, 180, 0, 236, 16, 16, 27, 104, 28, 96, 29, 79, 4, 172] := bts_of (by decide +kernel)
theorem hd_Mod_owe : Y_Mod_owe.1.cls = RX12 ∧ Y_Mod_owe.1.cls ≠ "java/lang/invoke/MethodHandle" ∧ Y_Mod_owe.1.cls ≠ "java/lang/invoke/VarHandle" ∧ (parseMethodDescriptor Y_Mod_owe.1.desc).map (fun d => d.parameters.length) = some 3 := by decide +kernel
def Mod_owe (M : Mm) (a0 : Nat) (a1 : Int32) (a2 : Int32) (a3 : Int32) : Option (Int32 × Mm) :=
  ck (kO M a0 12 107) (
  bd (Mod_isPerson M a0 a1) (fun r2 M3 =>
  if r2 = 0 then (
    some (0, M3))
  else (
    ck (kO M3 a0 12 107) (
    bd (Mod_isPerson M3 a0 a2) (fun r5 M6 =>
    if r5 = 0 then (
      some (0, M6))
    else (
      if a1 = a2 then (
        some (0, M6))
      else (
        bd (Mod_in M6 a3 0 99999) (fun r7 M8 =>
        if r7 = 0 then (
          some (0, M8))
        else (
          ck (kO M8 a0 12 107) (
          nn (mR M8 a0 103) (fun b10 =>
          ck (kA M8 b10 20 ((16 * a1) + a2)) (
          let M12 := sI M8 b10 (ix ((16 * a1) + a2)) a3
          some (1, M12)))))))))))))
set_option maxRecDepth 100000 in
set_option maxHeartbeats 4000000 in
theorem s_Mod_owe (G : Gx) (M : Mm) (a0 : Nat) (a1 : Int32) (a2 : Int32) (a3 : Int32) : FnS G Y_Mod_owe cvI 2 [.ref a0, .int a1, .int a2, .int a3] M (Mod_owe M a0 a1 a2 a3) := by
  refine FnS.ofE (by decide) (Nat.le_of_ble_eq_true rfl) ?_
  show EJ G Y_Mod_owe cvI 2 0 [(0, .ref a0), (1, .int a1), (2, .int a2), (3, .int a3)] [] M _
  unfold Mod_owe
  refine EJ_aload_n 1 0 (dk_42 (bt bc_Mod_owe_0 0 rfl)) rfl rfl ?_
  refine EJ_iload_n 2 1 (dk_27 (bt bc_Mod_owe_0 1 rfl)) rfl rfl ?_
  refine EJ_ck (fun h1 => ?_)
  refine EJ_callVi (Y2 := Y_Mod_isPerson) 5 cf12 (s_Mod_isPerson G _ _ _) (of_decide_eq_true h1) rfl (dk_182 (bt bc_Mod_owe_0 2 rfl) (bt bc_Mod_owe_0 3 rfl) (bt bc_Mod_owe_0 4 rfl) (n := 278) rfl) rfl tw_1576 tw_1578 ts_41 tw_1579 hd_Mod_isPerson rfl (by decide) (Nat.le_of_ble_eq_true rfl) (fun r2 M3 => ?_)
  refine EJ_if_eq 32 8 (dk_153 (bt bc_Mod_owe_0 5 rfl) (bt bc_Mod_owe_0 6 rfl) (bt bc_Mod_owe_0 7 rfl) (n := 27) rfl) (by decide) rfl (fun _ => ?_) (fun _ => ?_)
  · refine EJ_iconst 33 (dk_3 (bt bc_Mod_owe_1 0 rfl)) rfl (v := 0) kI_0 ?_
    exact EJ_zret rfl (by decide) (dk_172 (bt bc_Mod_owe_1 1 rfl))
  · refine EJ_aload_n 9 0 (dk_42 (bt bc_Mod_owe_0 8 rfl)) rfl rfl ?_
    refine EJ_iload_n 10 2 (dk_28 (bt bc_Mod_owe_0 9 rfl)) rfl rfl ?_
    refine EJ_ck (fun h4 => ?_)
    refine EJ_callVi (Y2 := Y_Mod_isPerson) 13 cf12 (s_Mod_isPerson G _ _ _) (of_decide_eq_true h4) rfl (dk_182 (bt bc_Mod_owe_0 10 rfl) (bt bc_Mod_owe_0 11 rfl) (bt bc_Mod_owe_0 12 rfl) (n := 278) rfl) rfl tw_1576 tw_1578 ts_41 tw_1579 hd_Mod_isPerson rfl (by decide) (Nat.le_of_ble_eq_true rfl) (fun r5 M6 => ?_)
    refine EJ_if_eq 32 16 (dk_153 (bt bc_Mod_owe_0 13 rfl) (bt bc_Mod_owe_0 14 rfl) (bt bc_Mod_owe_0 15 rfl) (n := 19) rfl) (by decide) rfl (fun _ => ?_) (fun _ => ?_)
    · refine EJ_iconst 33 (dk_3 (bt bc_Mod_owe_1 0 rfl)) rfl (v := 0) kI_0 ?_
      exact EJ_zret rfl (by decide) (dk_172 (bt bc_Mod_owe_1 1 rfl))
    · refine EJ_iload_n 17 1 (dk_27 (bt bc_Mod_owe_0 16 rfl)) rfl rfl ?_
      refine EJ_iload_n 18 2 (dk_28 (bt bc_Mod_owe_0 17 rfl)) rfl rfl ?_
      refine EJ_icmp_eq 32 21 (dk_159 (bt bc_Mod_owe_0 18 rfl) (bt bc_Mod_owe_0 19 rfl) (bt bc_Mod_owe_0 20 rfl) (n := 14) rfl) (by decide) rfl (fun _ => ?_) (fun _ => ?_)
      · refine EJ_iconst 33 (dk_3 (bt bc_Mod_owe_1 0 rfl)) rfl (v := 0) kI_0 ?_
        exact EJ_zret rfl (by decide) (dk_172 (bt bc_Mod_owe_1 1 rfl))
      · refine EJ_iload_n 22 3 (dk_29 (bt bc_Mod_owe_0 21 rfl)) rfl rfl ?_
        refine EJ_iconst 23 (dk_3 (bt bc_Mod_owe_0 22 rfl)) rfl (v := 0) kI_0 ?_
        refine EJ_ldcw 26 (dk_19 (bt bc_Mod_owe_0 23 rfl) (bt bc_Mod_owe_0 24 rfl) (bt bc_Mod_owe_0 25 rfl) (n := 301) rfl) rfl tw_1603 ?_
        refine EJ_callSi (Y2 := Y_Mod_in) 29 (s_Mod_in G _ _ _ _) rfl (dk_184 (bt bc_Mod_owe_0 26 rfl) (bt bc_Mod_owe_0 27 rfl) (bt bc_Mod_owe_0 28 rfl) (n := 252) rfl) rfl tw_1532 tw_1533 tw_8 tw_1534 hd_Mod_in rfl (by decide) (Nat.le_of_ble_eq_true rfl) (fun r7 M8 => ?_)
        refine EJ_if_ne 34 32 (dk_154 (bt bc_Mod_owe_0 29 rfl) (bt bc_Mod_owe_0 30 rfl) (bt bc_Mod_owe_0 31 rfl) (n := 5) rfl) (by decide) rfl (fun _ => ?_) (fun _ => ?_)
        · refine EJ_aload_n 35 0 (dk_42 (bt bc_Mod_owe_1 2 rfl)) rfl rfl ?_
          refine EJ_ck (fun h9 => ?_)
          refine EJ_getR cf12 103 (by decide) 38 tw_1301 (fun _ _ _ => rfl) (dk_180 (bt bc_Mod_owe_1 3 rfl) (bt bc_Mod_owe_1 4 rfl) (bt bc_Mod_owe_1 5 rfl) (n := 236) rfl) rfl (of_decide_eq_true h9) (fun b10 => ?_)
          refine EJ_bipush 40 (dk_16 (bt bc_Mod_owe_1 6 rfl) (bt bc_Mod_owe_1 7 rfl) (n := 16) rfl) rfl (v := 16) kB_16 ?_
          refine EJ_iload_n 41 1 (dk_27 (bt bc_Mod_owe_1 8 rfl)) rfl rfl ?_
          refine EJ_imul 42 (dk_104 (bt bc_Mod_owe_1 9 rfl)) rfl ?_
          refine EJ_iload_n 43 2 (dk_28 (bt bc_Mod_owe_1 10 rfl)) rfl rfl ?_
          refine EJ_iadd 44 (dk_96 (bt bc_Mod_owe_1 11 rfl)) rfl ?_
          refine EJ_iload_n 45 3 (dk_29 (bt bc_Mod_owe_1 12 rfl)) rfl rfl ?_
          refine EJ_ck (fun h11 => ?_)
          refine EJ_iast 46 h11 (dk_79 (bt bc_Mod_owe_1 13 rfl)) rfl ?_
          refine EJ_iconst 47 (dk_4 (bt bc_Mod_owe_1 14 rfl)) rfl (v := 1) kI_1 ?_
          exact EJ_zret rfl (by decide) (dk_172 (bt bc_Mod_owe_1 15 rfl))
        · refine EJ_iconst 33 (dk_3 (bt bc_Mod_owe_1 0 rfl)) rfl (v := 0) kI_0 ?_
          exact EJ_zret rfl (by decide) (dk_172 (bt bc_Mod_owe_1 1 rfl))
abbrev Y_Mod_assets : Ym := (⟨"RiceHallModel", "assets", "(II)J"⟩, prog_14_method_81_code, 10, (some FieldType.long))
theorem bc_Mod_assets_0 : bts prog_14_method_81_code 0 [42, 180, 0, 51, 27, 47, 9, 148, 158, 0, 12, 42, 180, 0, 51, 27, 47, 167, 0, 4, 9, 66, 42, 180, 1, 239, 154, 0, 7, 9, 167, 0] := bts_of (by decide +kernel)
theorem bc_Mod_assets_1 : bts prog_14_method_81_code 32 [15, 42, 180, 0, 173, 42, 180, 1, 239, 4, 100, 46, 133, 55, 5, 3, 54, 7, 21, 7, 42, 180, 1, 16, 162, 0, 39, 33, 42, 180, 0, 55] := bts_of (by decide +kernel)
theorem bc_Mod_assets_2 : bts prog_14_method_81_code 64 [7, 27, 104, 21, 7, 96, 46, 133, 22, 5, 105, 42, 21, 7, 182, 1, 57, 133, 105, 20, 1, 52, 109, 97, 66, 132, 7, 1, 167, 255, 214, 3] := bts_of (by decide +kernel)
theorem bc_Mod_assets_3 : bts prog_14_method_81_code 96 [54, 7, 21, 7, 42, 180, 1, 13, 162, 0, 68, 42, 180, 0, 236, 16, 16, 21, 7, 104, 27, 96, 46, 133, 55, 8, 33, 42, 180, 0, 239, 21] := bts_of (by decide +kernel)
theorem bc_Mod_assets_4 : bts prog_14_method_81_code 128 [7, 46, 158, 0, 32, 42, 180, 0, 239, 21, 7, 46, 28, 162, 0, 21, 22, 8, 42, 180, 0, 242, 21, 7, 46, 133, 105, 20, 1, 52, 109, 167] := bts_of (by decide +kernel)
theorem bc_Mod_assets_5 : bts prog_14_method_81_code 160 [0, 5, 22, 8, 97, 66, 132, 7, 1, 167, 255, 185, 33, 173] := bts_of (by decide +kernel)
theorem hd_Mod_assets : Y_Mod_assets.1.cls = RX12 ∧ Y_Mod_assets.1.cls ≠ "java/lang/invoke/MethodHandle" ∧ Y_Mod_assets.1.cls ≠ "java/lang/invoke/VarHandle" ∧ (parseMethodDescriptor Y_Mod_assets.1.desc).map (fun d => d.parameters.length) = some 2 := by decide +kernel
def Mod_assets_J164 (k98 : Nat → Int32 → Int32 → Int64 → Int32 → Mm → Option (Int64 × Mm)) (x0 : Nat) (x1 : Int32) (x2 : Int32) (x7 : Int32) (s0 : Int64) (s1 : Int64) (M : Mm) : Option (Int64 × Mm) :=
  let v14 : Int64 := s1 + s0
  let v15 : Int32 := x7 + 1
  k98 x0 x1 x2 v14 v15 M
set_option maxRecDepth 100000 in
set_option maxHeartbeats 4000000 in
theorem e_Mod_assets_J164 {G : Gx} (k98 : Nat → Int32 → Int32 → Int64 → Int32 → Mm → Option (Int64 × Mm)) (hk98 : ∀ (x0 : Nat) (x1 : Int32) (x2 : Int32) (x3 : Int64) (x7 : Int32) (M : Mm), EJ G Y_Mod_assets cvL 3 98 [(0, .ref x0), (1, .int x1), (2, .int x2), (3, .long x3), (7, .int x7)] [] M (k98 x0 x1 x2 x3 x7 M)) (x0 : Nat) (x1 : Int32) (x2 : Int32) (x7 : Int32) (s0 : Int64) (s1 : Int64) (M : Mm) : EJ G Y_Mod_assets cvL 3 164 [(0, .ref x0), (1, .int x1), (2, .int x2), (7, .int x7)] [.long s0, .long s1] M (Mod_assets_J164 k98 x0 x1 x2 x7 s0 s1 M) := by
  unfold Mod_assets_J164
  refine EJ_ladd 165 (dk_97 (bt bc_Mod_assets_5 4 rfl)) rfl ?_
  refine EJ_lstore_n 166 (lv2 := [(3, .long _), (0, .ref _), (1, .int _), (2, .int _), (7, .int _)]) (dk_66 (bt bc_Mod_assets_5 5 rfl)) rfl (by decide) rfl ?_
  refine EJ_iinc 169 4 (lv2 := [(7, .int _), (3, .long _), (0, .ref _), (1, .int _), (2, .int _)]) (dk_132 (bt bc_Mod_assets_5 6 rfl) (bt bc_Mod_assets_5 7 rfl) (bt bc_Mod_assets_5 8 rfl) (n := 1) rfl) rfl (by decide) rfl (v := 1) kI_1 rfl ?_
  refine EJ_goto 98 (dk_167 (bt bc_Mod_assets_5 9 rfl) (bt bc_Mod_assets_5 10 rfl) (bt bc_Mod_assets_5 11 rfl) (n := -71) rfl) (by decide) ?_
  exact EJ_pick (lv2 := [(0, .ref _), (1, .int _), (2, .int _), (3, .long _), (7, .int _)]) [2, 3, 4, 1, 0] rfl (hk98 _ _ _ _ _ _)
def Mod_assets_J162 (k98 : Nat → Int32 → Int32 → Int64 → Int32 → Mm → Option (Int64 × Mm)) (x0 : Nat) (x1 : Int32) (x2 : Int32) (x7 : Int32) (x8 : Int64) (s0 : Int64) (M : Mm) : Option (Int64 × Mm) :=
  Mod_assets_J164 k98 x0 x1 x2 x7 x8 s0 M
set_option maxRecDepth 100000 in
set_option maxHeartbeats 4000000 in
theorem e_Mod_assets_J162 {G : Gx} (k98 : Nat → Int32 → Int32 → Int64 → Int32 → Mm → Option (Int64 × Mm)) (hk98 : ∀ (x0 : Nat) (x1 : Int32) (x2 : Int32) (x3 : Int64) (x7 : Int32) (M : Mm), EJ G Y_Mod_assets cvL 3 98 [(0, .ref x0), (1, .int x1), (2, .int x2), (3, .long x3), (7, .int x7)] [] M (k98 x0 x1 x2 x3 x7 M)) (x0 : Nat) (x1 : Int32) (x2 : Int32) (x7 : Int32) (x8 : Int64) (s0 : Int64) (M : Mm) : EJ G Y_Mod_assets cvL 3 162 [(0, .ref x0), (1, .int x1), (2, .int x2), (7, .int x7), (8, .long x8)] [.long s0] M (Mod_assets_J162 k98 x0 x1 x2 x7 x8 s0 M) := by
  unfold Mod_assets_J162
  refine EJ_lload 164 4 (dk_22 (bt bc_Mod_assets_5 2 rfl) (bt bc_Mod_assets_5 3 rfl)) rfl rfl ?_
  exact EJ_pick (lv2 := [(0, .ref _), (1, .int _), (2, .int _), (7, .int _)]) [0, 1, 2, 3] rfl (e_Mod_assets_J164 k98 hk98 _ _ _ _ _ _ _)
def Mod_assets_B98 (k98 : Nat → Int32 → Int32 → Int64 → Int32 → Mm → Option (Int64 × Mm)) (x0 : Nat) (x1 : Int32) (x2 : Int32) (x3 : Int64) (x7 : Int32) (M : Mm) : Option (Int64 × Mm) :=
  ck (kO M x0 12 107) (
  if (mI M x0 9) ≤ x7 then (
    some (x3, M))
  else (
    nn (mR M x0 103) (fun b9 =>
    ck (kA M b9 20 ((16 * x7) + x1)) (
    let v11 : Int64 := Int32.toInt64 (mI M b9 (ix ((16 * x7) + x1)))
    nn (mR M x0 104) (fun b12 =>
    ck (kA M b12 20 x7) (
    if (mI M b12 (ix x7)) ≤ 0 then (
      Mod_assets_J162 k98 x0 x1 x2 x7 v11 x3 M)
    else (
      nn (mR M x0 104) (fun b16 =>
      ck (kA M b16 20 x7) (
      if x2 ≤ (mI M b16 (ix x7)) then (
        Mod_assets_J162 k98 x0 x1 x2 x7 v11 x3 M)
      else (
        nn (mR M x0 105) (fun b18 =>
        ck (kA M b18 20 x7) (
        Mod_assets_J164 k98 x0 x1 x2 x7 ((v11 * (Int32.toInt64 (mI M b18 (ix x7)))) / 100) x3 M))))))))))))
set_option maxRecDepth 100000 in
set_option maxHeartbeats 4000000 in
theorem e_Mod_assets_B98 {G : Gx} (k98 : Nat → Int32 → Int32 → Int64 → Int32 → Mm → Option (Int64 × Mm)) (hk98 : ∀ (x0 : Nat) (x1 : Int32) (x2 : Int32) (x3 : Int64) (x7 : Int32) (M : Mm), EJ G Y_Mod_assets cvL 3 98 [(0, .ref x0), (1, .int x1), (2, .int x2), (3, .long x3), (7, .int x7)] [] M (k98 x0 x1 x2 x3 x7 M)) (x0 : Nat) (x1 : Int32) (x2 : Int32) (x3 : Int64) (x7 : Int32) (M : Mm) : EJ G Y_Mod_assets cvL 3 98 [(0, .ref x0), (1, .int x1), (2, .int x2), (3, .long x3), (7, .int x7)] [] M (Mod_assets_B98 k98 x0 x1 x2 x3 x7 M) := by
  unfold Mod_assets_B98
  refine EJ_iload 100 4 (dk_21 (bt bc_Mod_assets_3 2 rfl) (bt bc_Mod_assets_3 3 rfl)) rfl rfl ?_
  refine EJ_aload_n 101 0 (dk_42 (bt bc_Mod_assets_3 4 rfl)) rfl rfl ?_
  refine EJ_ck (fun h8 => ?_)
  refine EJ_getI cf12 9 (by decide) 104 tw_1207 (fun _ _ _ => rfl) (dk_180 (bt bc_Mod_assets_3 5 rfl) (bt bc_Mod_assets_3 6 rfl) (bt bc_Mod_assets_3 7 rfl) (n := 269) rfl) rfl (of_decide_eq_true h8) ?_
  refine EJ_icmp_ge 172 107 (dk_162 (bt bc_Mod_assets_3 8 rfl) (bt bc_Mod_assets_3 9 rfl) (bt bc_Mod_assets_3 10 rfl) (n := 68) rfl) (by decide) rfl (fun _ => ?_) (fun _ => ?_)
  · refine EJ_lload_n 173 3 (dk_33 (bt bc_Mod_assets_5 12 rfl)) rfl rfl ?_
    exact EJ_lret rfl (dk_173 (bt bc_Mod_assets_5 13 rfl))
  · refine EJ_aload_n 108 0 (dk_42 (bt bc_Mod_assets_3 11 rfl)) rfl rfl ?_
    refine EJ_getR cf12 103 (by decide) 111 tw_1301 (fun _ _ _ => rfl) (dk_180 (bt bc_Mod_assets_3 12 rfl) (bt bc_Mod_assets_3 13 rfl) (bt bc_Mod_assets_3 14 rfl) (n := 236) rfl) rfl (of_decide_eq_true h8) (fun b9 => ?_)
    refine EJ_bipush 113 (dk_16 (bt bc_Mod_assets_3 15 rfl) (bt bc_Mod_assets_3 16 rfl) (n := 16) rfl) rfl (v := 16) kB_16 ?_
    refine EJ_iload 115 4 (dk_21 (bt bc_Mod_assets_3 17 rfl) (bt bc_Mod_assets_3 18 rfl)) rfl rfl ?_
    refine EJ_imul 116 (dk_104 (bt bc_Mod_assets_3 19 rfl)) rfl ?_
    refine EJ_iload_n 117 1 (dk_27 (bt bc_Mod_assets_3 20 rfl)) rfl rfl ?_
    refine EJ_iadd 118 (dk_96 (bt bc_Mod_assets_3 21 rfl)) rfl ?_
    refine EJ_ck (fun h10 => ?_)
    refine EJ_iald 119 h10 (dk_46 (bt bc_Mod_assets_3 22 rfl)) rfl ?_
    refine EJ_i2l 120 (dk_133 (bt bc_Mod_assets_3 23 rfl)) rfl ?_
    refine EJ_lstore 122 (lv2 := [(8, .long _), (0, .ref _), (1, .int _), (2, .int _), (3, .long _), (7, .int _)]) (dk_55 (bt bc_Mod_assets_3 24 rfl) (bt bc_Mod_assets_3 25 rfl)) rfl (by decide) rfl ?_
    refine EJ_lload_n 123 4 (dk_33 (bt bc_Mod_assets_3 26 rfl)) rfl rfl ?_
    refine EJ_aload_n 124 1 (dk_42 (bt bc_Mod_assets_3 27 rfl)) rfl rfl ?_
    refine EJ_getR cf12 104 (by decide) 127 tw_1302 (fun _ _ _ => rfl) (dk_180 (bt bc_Mod_assets_3 28 rfl) (bt bc_Mod_assets_3 29 rfl) (bt bc_Mod_assets_3 30 rfl) (n := 239) rfl) rfl (of_decide_eq_true h8) (fun b12 => ?_)
    refine EJ_iload 129 5 (dk_21 (bt bc_Mod_assets_3 31 rfl) (bt bc_Mod_assets_4 0 rfl)) rfl rfl ?_
    refine EJ_ck (fun h13 => ?_)
    refine EJ_iald 130 h13 (dk_46 (bt bc_Mod_assets_4 1 rfl)) rfl ?_
    refine EJ_if_le 162 133 (dk_158 (bt bc_Mod_assets_4 2 rfl) (bt bc_Mod_assets_4 3 rfl) (bt bc_Mod_assets_4 4 rfl) (n := 32) rfl) (by decide) rfl (fun _ => ?_) (fun _ => ?_)
    · exact EJ_pick (lv2 := [(0, .ref _), (1, .int _), (2, .int _), (7, .int _), (8, .long _)]) [1, 2, 3, 5, 0] rfl (e_Mod_assets_J162 k98 hk98 _ _ _ _ _ _ _)
    · refine EJ_aload_n 134 1 (dk_42 (bt bc_Mod_assets_4 5 rfl)) rfl rfl ?_
      refine EJ_getR cf12 104 (by decide) 137 tw_1302 (fun _ _ _ => rfl) (dk_180 (bt bc_Mod_assets_4 6 rfl) (bt bc_Mod_assets_4 7 rfl) (bt bc_Mod_assets_4 8 rfl) (n := 239) rfl) rfl (of_decide_eq_true h8) (fun b16 => ?_)
      refine EJ_iload 139 5 (dk_21 (bt bc_Mod_assets_4 9 rfl) (bt bc_Mod_assets_4 10 rfl)) rfl rfl ?_
      refine EJ_ck (fun h17 => ?_)
      refine EJ_iald 140 h17 (dk_46 (bt bc_Mod_assets_4 11 rfl)) rfl ?_
      refine EJ_iload_n 141 3 (dk_28 (bt bc_Mod_assets_4 12 rfl)) rfl rfl ?_
      refine EJ_icmp_ge 162 144 (dk_162 (bt bc_Mod_assets_4 13 rfl) (bt bc_Mod_assets_4 14 rfl) (bt bc_Mod_assets_4 15 rfl) (n := 21) rfl) (by decide) rfl (fun _ => ?_) (fun _ => ?_)
      · exact EJ_pick (lv2 := [(0, .ref _), (1, .int _), (2, .int _), (7, .int _), (8, .long _)]) [1, 2, 3, 5, 0] rfl (e_Mod_assets_J162 k98 hk98 _ _ _ _ _ _ _)
      · refine EJ_lload 146 0 (dk_22 (bt bc_Mod_assets_4 16 rfl) (bt bc_Mod_assets_4 17 rfl)) rfl rfl ?_
        refine EJ_aload_n 147 1 (dk_42 (bt bc_Mod_assets_4 18 rfl)) rfl rfl ?_
        refine EJ_getR cf12 105 (by decide) 150 tw_1303 (fun _ _ _ => rfl) (dk_180 (bt bc_Mod_assets_4 19 rfl) (bt bc_Mod_assets_4 20 rfl) (bt bc_Mod_assets_4 21 rfl) (n := 242) rfl) rfl (of_decide_eq_true h8) (fun b18 => ?_)
        refine EJ_iload 152 5 (dk_21 (bt bc_Mod_assets_4 22 rfl) (bt bc_Mod_assets_4 23 rfl)) rfl rfl ?_
        refine EJ_ck (fun h19 => ?_)
        refine EJ_iald 153 h19 (dk_46 (bt bc_Mod_assets_4 24 rfl)) rfl ?_
        refine EJ_i2l 154 (dk_133 (bt bc_Mod_assets_4 25 rfl)) rfl ?_
        refine EJ_lmul 155 (dk_105 (bt bc_Mod_assets_4 26 rfl)) rfl ?_
        refine EJ_ldc2 158 (dk_20 (bt bc_Mod_assets_4 27 rfl) (bt bc_Mod_assets_4 28 rfl) (bt bc_Mod_assets_4 29 rfl) (n := 308) rfl) rfl tw_1646 ?_
        refine EJ_ldiv 159 (dk_109 (bt bc_Mod_assets_4 30 rfl)) rfl (by decide) ?_
        refine EJ_goto 164 (dk_167 (bt bc_Mod_assets_4 31 rfl) (bt bc_Mod_assets_5 0 rfl) (bt bc_Mod_assets_5 1 rfl) (n := 5) rfl) (by decide) ?_
        exact EJ_pick (lv2 := [(0, .ref _), (1, .int _), (2, .int _), (7, .int _)]) [1, 2, 3, 5] rfl (e_Mod_assets_J164 k98 hk98 _ _ _ _ _ _ _)
def Mod_assets_L98 (n : Nat) : Nat → Int32 → Int32 → Int64 → Int32 → Mm → Option (Int64 × Mm) :=
  match n with
  | 0 => fun _ _ _ _ _ _ => none
  | n + 1 => Mod_assets_B98 (Mod_assets_L98 n)
theorem e_Mod_assets_L98 {G : Gx} : ∀ (n : Nat) (x0 : Nat) (x1 : Int32) (x2 : Int32) (x3 : Int64) (x7 : Int32) (M : Mm), EJ G Y_Mod_assets cvL 3 98 [(0, .ref x0), (1, .int x1), (2, .int x2), (3, .long x3), (7, .int x7)] [] M (Mod_assets_L98 n x0 x1 x2 x3 x7 M) := by
  intro n
  induction n with
  | zero => intros; exact EJ_none
  | succ n ih => intro x0 x1 x2 x3 x7 M; exact e_Mod_assets_B98 _ ih x0 x1 x2 x3 x7 M
def Mod_assets_B50 (k50 : Nat → Int32 → Int32 → Int64 → Int64 → Int32 → Mm → Option (Int64 × Mm)) (x0 : Nat) (x1 : Int32) (x2 : Int32) (x3 : Int64) (x5 : Int64) (x7 : Int32) (M : Mm) : Option (Int64 × Mm) :=
  ck (kO M x0 12 107) (
  if (mI M x0 22) ≤ x7 then (
    Mod_assets_L98 fu x0 x1 x2 x3 0 M)
  else (
    nn (mR M x0 17) (fun b20 =>
    ck (kA M b20 20 ((4 * x1) + x7)) (
    bd (Mod_shareOf M x0 x7) (fun r22 M23 =>
    let v24 : Int64 := x3 + ((((Int32.toInt64 (mI M b20 (ix ((4 * x1) + x7)))) * x5) * (Int32.toInt64 r22)) / 100)
    let v25 : Int32 := x7 + 1
    k50 x0 x1 x2 v24 x5 v25 M23)))))
set_option maxRecDepth 100000 in
set_option maxHeartbeats 4000000 in
theorem e_Mod_assets_B50 {G : Gx} (k50 : Nat → Int32 → Int32 → Int64 → Int64 → Int32 → Mm → Option (Int64 × Mm)) (hk50 : ∀ (x0 : Nat) (x1 : Int32) (x2 : Int32) (x3 : Int64) (x5 : Int64) (x7 : Int32) (M : Mm), EJ G Y_Mod_assets cvL 3 50 [(0, .ref x0), (1, .int x1), (2, .int x2), (3, .long x3), (5, .long x5), (7, .int x7)] [] M (k50 x0 x1 x2 x3 x5 x7 M)) (x0 : Nat) (x1 : Int32) (x2 : Int32) (x3 : Int64) (x5 : Int64) (x7 : Int32) (M : Mm) : EJ G Y_Mod_assets cvL 3 50 [(0, .ref x0), (1, .int x1), (2, .int x2), (3, .long x3), (5, .long x5), (7, .int x7)] [] M (Mod_assets_B50 k50 x0 x1 x2 x3 x5 x7 M) := by
  unfold Mod_assets_B50
  refine EJ_iload 52 5 (dk_21 (bt bc_Mod_assets_1 18 rfl) (bt bc_Mod_assets_1 19 rfl)) rfl rfl ?_
  refine EJ_aload_n 53 0 (dk_42 (bt bc_Mod_assets_1 20 rfl)) rfl rfl ?_
  refine EJ_ck (fun h7 => ?_)
  refine EJ_getI cf12 22 (by decide) 56 tw_1220 (fun _ _ _ => rfl) (dk_180 (bt bc_Mod_assets_1 21 rfl) (bt bc_Mod_assets_1 22 rfl) (bt bc_Mod_assets_1 23 rfl) (n := 272) rfl) rfl (of_decide_eq_true h7) ?_
  refine EJ_icmp_ge 95 59 (dk_162 (bt bc_Mod_assets_1 24 rfl) (bt bc_Mod_assets_1 25 rfl) (bt bc_Mod_assets_1 26 rfl) (n := 39) rfl) (by decide) rfl (fun _ => ?_) (fun _ => ?_)
  · refine EJ_iconst 96 (dk_3 (bt bc_Mod_assets_2 31 rfl)) rfl (v := 0) kI_0 ?_
    refine EJ_istore 98 (lv2 := [(7, .int _), (0, .ref _), (1, .int _), (2, .int _), (3, .long _), (5, .long _)]) (dk_54 (bt bc_Mod_assets_3 0 rfl) (bt bc_Mod_assets_3 1 rfl)) rfl (by decide) rfl ?_
    exact EJ_pick (lv2 := [(0, .ref _), (1, .int _), (2, .int _), (3, .long _), (7, .int _)]) [1, 2, 3, 4, 0] rfl (e_Mod_assets_L98 fu _ _ _ _ _ _)
  · refine EJ_lload_n 60 3 (dk_33 (bt bc_Mod_assets_1 27 rfl)) rfl rfl ?_
    refine EJ_aload_n 61 0 (dk_42 (bt bc_Mod_assets_1 28 rfl)) rfl rfl ?_
    refine EJ_getR cf12 17 (by decide) 64 tw_1215 (fun _ _ _ => rfl) (dk_180 (bt bc_Mod_assets_1 29 rfl) (bt bc_Mod_assets_1 30 rfl) (bt bc_Mod_assets_1 31 rfl) (n := 55) rfl) rfl (of_decide_eq_true h7) (fun b20 => ?_)
    refine EJ_iconst 65 (dk_7 (bt bc_Mod_assets_2 0 rfl)) rfl (v := 4) kI_4 ?_
    refine EJ_iload_n 66 1 (dk_27 (bt bc_Mod_assets_2 1 rfl)) rfl rfl ?_
    refine EJ_imul 67 (dk_104 (bt bc_Mod_assets_2 2 rfl)) rfl ?_
    refine EJ_iload 69 5 (dk_21 (bt bc_Mod_assets_2 3 rfl) (bt bc_Mod_assets_2 4 rfl)) rfl rfl ?_
    refine EJ_iadd 70 (dk_96 (bt bc_Mod_assets_2 5 rfl)) rfl ?_
    refine EJ_ck (fun h21 => ?_)
    refine EJ_iald 71 h21 (dk_46 (bt bc_Mod_assets_2 6 rfl)) rfl ?_
    refine EJ_i2l 72 (dk_133 (bt bc_Mod_assets_2 7 rfl)) rfl ?_
    refine EJ_lload 74 4 (dk_22 (bt bc_Mod_assets_2 8 rfl) (bt bc_Mod_assets_2 9 rfl)) rfl rfl ?_
    refine EJ_lmul 75 (dk_105 (bt bc_Mod_assets_2 10 rfl)) rfl ?_
    refine EJ_aload_n 76 0 (dk_42 (bt bc_Mod_assets_2 11 rfl)) rfl rfl ?_
    refine EJ_iload 78 5 (dk_21 (bt bc_Mod_assets_2 12 rfl) (bt bc_Mod_assets_2 13 rfl)) rfl rfl ?_
    refine EJ_callVi (Y2 := Y_Mod_shareOf) 81 cf12 (s_Mod_shareOf G _ _ _) (of_decide_eq_true h7) rfl (dk_182 (bt bc_Mod_assets_2 14 rfl) (bt bc_Mod_assets_2 15 rfl) (bt bc_Mod_assets_2 16 rfl) (n := 313) rfl) rfl tw_1642 tw_1644 ts_49 tw_1645 hd_Mod_shareOf rfl (by decide) (Nat.le_of_ble_eq_true rfl) (fun r22 M23 => ?_)
    refine EJ_i2l 82 (dk_133 (bt bc_Mod_assets_2 17 rfl)) rfl ?_
    refine EJ_lmul 83 (dk_105 (bt bc_Mod_assets_2 18 rfl)) rfl ?_
    refine EJ_ldc2 86 (dk_20 (bt bc_Mod_assets_2 19 rfl) (bt bc_Mod_assets_2 20 rfl) (bt bc_Mod_assets_2 21 rfl) (n := 308) rfl) rfl tw_1646 ?_
    refine EJ_ldiv 87 (dk_109 (bt bc_Mod_assets_2 22 rfl)) rfl (by decide) ?_
    refine EJ_ladd 88 (dk_97 (bt bc_Mod_assets_2 23 rfl)) rfl ?_
    refine EJ_lstore_n 89 (lv2 := [(3, .long _), (0, .ref _), (1, .int _), (2, .int _), (5, .long _), (7, .int _)]) (dk_66 (bt bc_Mod_assets_2 24 rfl)) rfl (by decide) rfl ?_
    refine EJ_iinc 92 5 (lv2 := [(7, .int _), (3, .long _), (0, .ref _), (1, .int _), (2, .int _), (5, .long _)]) (dk_132 (bt bc_Mod_assets_2 25 rfl) (bt bc_Mod_assets_2 26 rfl) (bt bc_Mod_assets_2 27 rfl) (n := 1) rfl) rfl (by decide) rfl (v := 1) kI_1 rfl ?_
    refine EJ_goto 50 (dk_167 (bt bc_Mod_assets_2 28 rfl) (bt bc_Mod_assets_2 29 rfl) (bt bc_Mod_assets_2 30 rfl) (n := -42) rfl) (by decide) ?_
    exact EJ_pick (lv2 := [(0, .ref _), (1, .int _), (2, .int _), (3, .long _), (5, .long _), (7, .int _)]) [2, 3, 4, 1, 5, 0] rfl (hk50 _ _ _ _ _ _ _)
def Mod_assets_L50 (n : Nat) : Nat → Int32 → Int32 → Int64 → Int64 → Int32 → Mm → Option (Int64 × Mm) :=
  match n with
  | 0 => fun _ _ _ _ _ _ _ => none
  | n + 1 => Mod_assets_B50 (Mod_assets_L50 n)
theorem e_Mod_assets_L50 {G : Gx} : ∀ (n : Nat) (x0 : Nat) (x1 : Int32) (x2 : Int32) (x3 : Int64) (x5 : Int64) (x7 : Int32) (M : Mm), EJ G Y_Mod_assets cvL 3 50 [(0, .ref x0), (1, .int x1), (2, .int x2), (3, .long x3), (5, .long x5), (7, .int x7)] [] M (Mod_assets_L50 n x0 x1 x2 x3 x5 x7 M) := by
  intro n
  induction n with
  | zero => intros; exact EJ_none
  | succ n ih => intro x0 x1 x2 x3 x5 x7 M; exact e_Mod_assets_B50 _ ih x0 x1 x2 x3 x5 x7 M
def Mod_assets_J45 (x0 : Nat) (x1 : Int32) (x2 : Int32) (x3 : Int64) (s0 : Int64) (M : Mm) : Option (Int64 × Mm) :=
  Mod_assets_L50 fu x0 x1 x2 x3 s0 0 M
set_option maxRecDepth 100000 in
set_option maxHeartbeats 4000000 in
theorem e_Mod_assets_J45 {G : Gx} (x0 : Nat) (x1 : Int32) (x2 : Int32) (x3 : Int64) (s0 : Int64) (M : Mm) : EJ G Y_Mod_assets cvL 3 45 [(0, .ref x0), (1, .int x1), (2, .int x2), (3, .long x3)] [.long s0] M (Mod_assets_J45 x0 x1 x2 x3 s0 M) := by
  unfold Mod_assets_J45
  refine EJ_lstore 47 (lv2 := [(5, .long _), (0, .ref _), (1, .int _), (2, .int _), (3, .long _)]) (dk_55 (bt bc_Mod_assets_1 13 rfl) (bt bc_Mod_assets_1 14 rfl)) rfl (by decide) rfl ?_
  refine EJ_iconst 48 (dk_3 (bt bc_Mod_assets_1 15 rfl)) rfl (v := 0) kI_0 ?_
  refine EJ_istore 50 (lv2 := [(7, .int _), (5, .long _), (0, .ref _), (1, .int _), (2, .int _), (3, .long _)]) (dk_54 (bt bc_Mod_assets_1 16 rfl) (bt bc_Mod_assets_1 17 rfl)) rfl (by decide) rfl ?_
  exact EJ_pick (lv2 := [(0, .ref _), (1, .int _), (2, .int _), (3, .long _), (5, .long _), (7, .int _)]) [2, 3, 4, 5, 1, 0] rfl (e_Mod_assets_L50 fu _ _ _ _ _ _ _)
def Mod_assets_J21 (x0 : Nat) (x1 : Int32) (x2 : Int32) (s0 : Int64) (M : Mm) : Option (Int64 × Mm) :=
  ck (kO M x0 12 107) (
  if (mI M x0 71) = 0 then (
    Mod_assets_J45 x0 x1 x2 s0 0 M)
  else (
    nn (mR M x0 82) (fun b5 =>
    ck (kA M b5 20 ((mI M x0 71) - 1)) (
    Mod_assets_J45 x0 x1 x2 s0 (Int32.toInt64 (mI M b5 (ix ((mI M x0 71) - 1)))) M))))
set_option maxRecDepth 100000 in
set_option maxHeartbeats 4000000 in
theorem e_Mod_assets_J21 {G : Gx} (x0 : Nat) (x1 : Int32) (x2 : Int32) (s0 : Int64) (M : Mm) : EJ G Y_Mod_assets cvL 3 21 [(0, .ref x0), (1, .int x1), (2, .int x2)] [.long s0] M (Mod_assets_J21 x0 x1 x2 s0 M) := by
  unfold Mod_assets_J21
  refine EJ_lstore_n 22 (lv2 := [(3, .long _), (0, .ref _), (1, .int _), (2, .int _)]) (dk_66 (bt bc_Mod_assets_0 21 rfl)) rfl (by decide) rfl ?_
  refine EJ_aload_n 23 1 (dk_42 (bt bc_Mod_assets_0 22 rfl)) rfl rfl ?_
  refine EJ_ck (fun h4 => ?_)
  refine EJ_getI cf12 71 (by decide) 26 tw_1269 (fun _ _ _ => rfl) (dk_180 (bt bc_Mod_assets_0 23 rfl) (bt bc_Mod_assets_0 24 rfl) (bt bc_Mod_assets_0 25 rfl) (n := 495) rfl) rfl (of_decide_eq_true h4) ?_
  refine EJ_if_ne 33 29 (dk_154 (bt bc_Mod_assets_0 26 rfl) (bt bc_Mod_assets_0 27 rfl) (bt bc_Mod_assets_0 28 rfl) (n := 7) rfl) (by decide) rfl (fun _ => ?_) (fun _ => ?_)
  · refine EJ_aload_n 34 1 (dk_42 (bt bc_Mod_assets_1 1 rfl)) rfl rfl ?_
    refine EJ_getR cf12 82 (by decide) 37 tw_1280 (fun _ _ _ => rfl) (dk_180 (bt bc_Mod_assets_1 2 rfl) (bt bc_Mod_assets_1 3 rfl) (bt bc_Mod_assets_1 4 rfl) (n := 173) rfl) rfl (of_decide_eq_true h4) (fun b5 => ?_)
    refine EJ_aload_n 38 1 (dk_42 (bt bc_Mod_assets_1 5 rfl)) rfl rfl ?_
    refine EJ_getI cf12 71 (by decide) 41 tw_1269 (fun _ _ _ => rfl) (dk_180 (bt bc_Mod_assets_1 6 rfl) (bt bc_Mod_assets_1 7 rfl) (bt bc_Mod_assets_1 8 rfl) (n := 495) rfl) rfl (of_decide_eq_true h4) ?_
    refine EJ_iconst 42 (dk_4 (bt bc_Mod_assets_1 9 rfl)) rfl (v := 1) kI_1 ?_
    refine EJ_isub 43 (dk_100 (bt bc_Mod_assets_1 10 rfl)) rfl ?_
    refine EJ_ck (fun h6 => ?_)
    refine EJ_iald 44 h6 (dk_46 (bt bc_Mod_assets_1 11 rfl)) rfl ?_
    refine EJ_i2l 45 (dk_133 (bt bc_Mod_assets_1 12 rfl)) rfl ?_
    exact EJ_pick (lv2 := [(0, .ref _), (1, .int _), (2, .int _), (3, .long _)]) [1, 2, 3, 0] rfl (e_Mod_assets_J45 _ _ _ _ _ _)
  · refine EJ_lconst 30 (dk_9 (bt bc_Mod_assets_0 29 rfl)) rfl (v := 0) (by decide) ?_
    refine EJ_goto 45 (dk_167 (bt bc_Mod_assets_0 30 rfl) (bt bc_Mod_assets_0 31 rfl) (bt bc_Mod_assets_1 0 rfl) (n := 15) rfl) (by decide) ?_
    exact EJ_pick (lv2 := [(0, .ref _), (1, .int _), (2, .int _), (3, .long _)]) [1, 2, 3, 0] rfl (e_Mod_assets_J45 _ _ _ _ _ _)
def Mod_assets (M : Mm) (a0 : Nat) (a1 : Int32) (a2 : Int32) : Option (Int64 × Mm) :=
  ck (kO M a0 12 107) (
  nn (mR M a0 16) (fun b2 =>
  ck (kA M b2 23 a1) (
  if (mL M b2 (ix a1)) ≤ 0 then (
    Mod_assets_J21 a0 a1 a2 0 M)
  else (
    nn (mR M a0 16) (fun b26 =>
    ck (kA M b26 23 a1) (
    Mod_assets_J21 a0 a1 a2 (mL M b26 (ix a1)) M))))))
set_option maxRecDepth 100000 in
set_option maxHeartbeats 4000000 in
theorem s_Mod_assets (G : Gx) (M : Mm) (a0 : Nat) (a1 : Int32) (a2 : Int32) : FnS G Y_Mod_assets cvL 3 [.ref a0, .int a1, .int a2] M (Mod_assets M a0 a1 a2) := by
  refine FnS.ofE (by decide) (Nat.le_of_ble_eq_true rfl) ?_
  show EJ G Y_Mod_assets cvL 3 0 [(0, .ref a0), (1, .int a1), (2, .int a2)] [] M _
  unfold Mod_assets
  refine EJ_aload_n 1 0 (dk_42 (bt bc_Mod_assets_0 0 rfl)) rfl rfl ?_
  refine EJ_ck (fun h1 => ?_)
  refine EJ_getR cf12 16 (by decide) 4 tw_1214 (fun _ _ _ => rfl) (dk_180 (bt bc_Mod_assets_0 1 rfl) (bt bc_Mod_assets_0 2 rfl) (bt bc_Mod_assets_0 3 rfl) (n := 51) rfl) rfl (of_decide_eq_true h1) (fun b2 => ?_)
  refine EJ_iload_n 5 1 (dk_27 (bt bc_Mod_assets_0 4 rfl)) rfl rfl ?_
  refine EJ_ck (fun h3 => ?_)
  refine EJ_lald 6 h3 (dk_47 (bt bc_Mod_assets_0 5 rfl)) rfl ?_
  refine EJ_lconst 7 (dk_9 (bt bc_Mod_assets_0 6 rfl)) rfl (v := 0) (by decide) ?_
  refine EJ_lcmp_le 20 11 (dk_148 (bt bc_Mod_assets_0 7 rfl)) (dk_158 (bt bc_Mod_assets_0 8 rfl) (bt bc_Mod_assets_0 9 rfl) (bt bc_Mod_assets_0 10 rfl) (n := 12) rfl) (by decide) rfl (fun _ => ?_) (fun _ => ?_)
  · refine EJ_lconst 21 (dk_9 (bt bc_Mod_assets_0 20 rfl)) rfl (v := 0) (by decide) ?_
    exact EJ_pick (lv2 := [(0, .ref _), (1, .int _), (2, .int _)]) [0, 1, 2] rfl (e_Mod_assets_J21 _ _ _ _ _)
  · refine EJ_aload_n 12 0 (dk_42 (bt bc_Mod_assets_0 11 rfl)) rfl rfl ?_
    refine EJ_getR cf12 16 (by decide) 15 tw_1214 (fun _ _ _ => rfl) (dk_180 (bt bc_Mod_assets_0 12 rfl) (bt bc_Mod_assets_0 13 rfl) (bt bc_Mod_assets_0 14 rfl) (n := 51) rfl) rfl (of_decide_eq_true h1) (fun b26 => ?_)
    refine EJ_iload_n 16 1 (dk_27 (bt bc_Mod_assets_0 15 rfl)) rfl rfl ?_
    refine EJ_ck (fun h27 => ?_)
    refine EJ_lald 17 h27 (dk_47 (bt bc_Mod_assets_0 16 rfl)) rfl ?_
    refine EJ_goto 21 (dk_167 (bt bc_Mod_assets_0 17 rfl) (bt bc_Mod_assets_0 18 rfl) (bt bc_Mod_assets_0 19 rfl) (n := 4) rfl) (by decide) ?_
    exact EJ_pick (lv2 := [(0, .ref _), (1, .int _), (2, .int _)]) [0, 1, 2] rfl (e_Mod_assets_J21 _ _ _ _ _)
