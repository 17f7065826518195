abbrev Y_Hall_pass : Ym := (⟨"RiceHall", "pass", "(I)I"⟩, prog_1_method_31_code, 4, (some FieldType.int))
theorem bc_Hall_pass_0 : bts prog_1_method_31_code 0 [27, 4, 17, 11, 184, 184, 0, 80, 153, 0, 14, 42, 180, 0, 120, 27, 96, 18, 79, 164, 0, 5, 2, 172, 42, 180, 0, 120, 27, 96, 61, 42] := bts_of (by decide +kernel)
theorem bc_Hall_pass_1 : bts prog_1_method_31_code 32 [182, 1, 40, 3, 62, 29, 27, 162, 0, 34, 42, 180, 0, 252, 198, 0, 27, 42, 182, 1, 43, 42, 180, 0, 252, 180, 1, 46, 157, 0, 7, 42] := bts_of (by decide +kernel)
theorem bc_Hall_pass_2 : bts prog_1_method_31_code 64 [182, 1, 49, 132, 3, 1, 167, 255, 223, 42, 28, 181, 0, 120, 42, 180, 0, 120, 172] := bts_of (by decide +kernel)
theorem hd_Hall_pass : Y_Hall_pass.1.cls = RX11 ∧ Y_Hall_pass.1.cls ≠ "java/lang/invoke/MethodHandle" ∧ Y_Hall_pass.1.cls ≠ "java/lang/invoke/VarHandle" ∧ (parseMethodDescriptor Y_Hall_pass.1.desc).map (fun d => d.parameters.length) = some 1 := by decide +kernel
def Hall_pass_J73 (x0 : Nat) (x2 : Int32) (M : Mm) : Option (Int32 × Mm) :=
  ck (kO M x0 11 18) (
  let M8 := sI M x0 16 x2
  some (mI M8 x0 16, M8))
set_option maxRecDepth 100000 in
set_option maxHeartbeats 4000000 in
theorem e_Hall_pass_J73 {G : Gx} (x0 : Nat) (x2 : Int32) (M : Mm) : EJ G Y_Hall_pass cvI 7 73 [(0, .ref x0), (2, .int x2)] [] M (Hall_pass_J73 x0 x2 M) := by
  unfold Hall_pass_J73
  refine EJ_aload_n 74 0 (dk_42 (bt bc_Hall_pass_2 9 rfl)) rfl rfl ?_
  refine EJ_iload_n 75 1 (dk_28 (bt bc_Hall_pass_2 10 rfl)) rfl rfl ?_
  refine EJ_ck (fun h7 => ?_)
  refine EJ_putI cf11 16 (by decide) 78 tw_216 rfl (Or.inl rfl) (dk_181 (bt bc_Hall_pass_2 11 rfl) (bt bc_Hall_pass_2 12 rfl) (bt bc_Hall_pass_2 13 rfl) (n := 120) rfl) rfl (of_decide_eq_true h7) ?_
  refine EJ_aload_n 79 0 (dk_42 (bt bc_Hall_pass_2 14 rfl)) rfl rfl ?_
  refine EJ_getI cf11 16 (by decide) 82 tw_216 (fun _ _ _ => rfl) (dk_180 (bt bc_Hall_pass_2 15 rfl) (bt bc_Hall_pass_2 16 rfl) (bt bc_Hall_pass_2 17 rfl) (n := 120) rfl) rfl (kp_I (of_decide_eq_true h7)) ?_
  exact EJ_iret rfl (dk_172 (bt bc_Hall_pass_2 18 rfl))
def Hall_pass_J67 (k37 : Nat → Int32 → Int32 → Int32 → Mm → Option (Int32 × Mm)) (x0 : Nat) (x1 : Int32) (x2 : Int32) (x3 : Int32) (M : Mm) : Option (Int32 × Mm) :=
  let v16 : Int32 := x3 + 1
  k37 x0 x1 x2 v16 M
set_option maxRecDepth 100000 in
set_option maxHeartbeats 4000000 in
theorem e_Hall_pass_J67 {G : Gx} (k37 : Nat → Int32 → Int32 → Int32 → Mm → Option (Int32 × Mm)) (hk37 : ∀ (x0 : Nat) (x1 : Int32) (x2 : Int32) (x3 : Int32) (M : Mm), EJ G Y_Hall_pass cvI 7 37 [(0, .ref x0), (1, .int x1), (2, .int x2), (3, .int x3)] [] M (k37 x0 x1 x2 x3 M)) (x0 : Nat) (x1 : Int32) (x2 : Int32) (x3 : Int32) (M : Mm) : EJ G Y_Hall_pass cvI 7 67 [(0, .ref x0), (1, .int x1), (2, .int x2), (3, .int x3)] [] M (Hall_pass_J67 k37 x0 x1 x2 x3 M) := by
  unfold Hall_pass_J67
  refine EJ_iinc 70 3 (lv2 := [(3, .int _), (0, .ref _), (1, .int _), (2, .int _)]) (dk_132 (bt bc_Hall_pass_2 3 rfl) (bt bc_Hall_pass_2 4 rfl) (bt bc_Hall_pass_2 5 rfl) (n := 1) rfl) rfl (by decide) rfl (v := 1) kI_1 rfl ?_
  refine EJ_goto 37 (dk_167 (bt bc_Hall_pass_2 6 rfl) (bt bc_Hall_pass_2 7 rfl) (bt bc_Hall_pass_2 8 rfl) (n := -33) rfl) (by decide) ?_
  exact EJ_pick (lv2 := [(0, .ref _), (1, .int _), (2, .int _), (3, .int _)]) [1, 2, 3, 0] rfl (hk37 _ _ _ _ _)
def Hall_pass_B37 (k37 : Nat → Int32 → Int32 → Int32 → Mm → Option (Int32 × Mm)) (x0 : Nat) (x1 : Int32) (x2 : Int32) (x3 : Int32) (M : Mm) : Option (Int32 × Mm) :=
  if x1 ≤ x3 then (
    Hall_pass_J73 x0 x2 M)
  else (
    ck (kO M x0 11 18) (
    nl (mR M x0 14) (
      Hall_pass_J73 x0 x2 M)
    (fun b10 =>
      bd (Hall_burnOneMinute M x0) (fun _ M12 =>
      ck (kO M12 x0 11 18) (
      nn (mR M12 x0 14) (fun b14 =>
      ck (kO M12 b14 9 11) (
      if 0 < (mI M12 b14 7) then (
        Hall_pass_J67 k37 x0 x1 x2 x3 M12)
      else (
        bd (Hall_endSession M12 x0) (fun _ M18 =>
        Hall_pass_J67 k37 x0 x1 x2 x3 M18)))))))))
set_option maxRecDepth 100000 in
set_option maxHeartbeats 4000000 in
theorem e_Hall_pass_B37 {G : Gx} (k37 : Nat → Int32 → Int32 → Int32 → Mm → Option (Int32 × Mm)) (hk37 : ∀ (x0 : Nat) (x1 : Int32) (x2 : Int32) (x3 : Int32) (M : Mm), EJ G Y_Hall_pass cvI 7 37 [(0, .ref x0), (1, .int x1), (2, .int x2), (3, .int x3)] [] M (k37 x0 x1 x2 x3 M)) (x0 : Nat) (x1 : Int32) (x2 : Int32) (x3 : Int32) (M : Mm) : EJ G Y_Hall_pass cvI 7 37 [(0, .ref x0), (1, .int x1), (2, .int x2), (3, .int x3)] [] M (Hall_pass_B37 k37 x0 x1 x2 x3 M) := by
  unfold Hall_pass_B37
  refine EJ_iload_n 38 3 (dk_29 (bt bc_Hall_pass_1 5 rfl)) rfl rfl ?_
  refine EJ_iload_n 39 1 (dk_27 (bt bc_Hall_pass_1 6 rfl)) rfl rfl ?_
  refine EJ_icmp_ge 73 42 (dk_162 (bt bc_Hall_pass_1 7 rfl) (bt bc_Hall_pass_1 8 rfl) (bt bc_Hall_pass_1 9 rfl) (n := 34) rfl) (by decide) rfl (fun _ => ?_) (fun _ => ?_)
  · exact EJ_pick (lv2 := [(0, .ref _), (2, .int _)]) [0, 2] rfl (e_Hall_pass_J73 _ _ _)
  · refine EJ_aload_n 43 0 (dk_42 (bt bc_Hall_pass_1 10 rfl)) rfl rfl ?_
    refine EJ_ck (fun h9 => ?_)
    refine EJ_getN cf11 14 (by decide) 46 tw_214 (fun _ _ _ => rfl) (dk_180 (bt bc_Hall_pass_1 11 rfl) (bt bc_Hall_pass_1 12 rfl) (bt bc_Hall_pass_1 13 rfl) (n := 252) rfl) rfl (of_decide_eq_true h9) ?_ (fun b10 => ?_)
    · refine EJ_ifnull_N 73 (dk_198 (bt bc_Hall_pass_1 14 rfl) (bt bc_Hall_pass_1 15 rfl) (bt bc_Hall_pass_1 16 rfl) (n := 27) rfl) (by decide) ?_
      exact EJ_pick (lv2 := [(0, .ref _), (2, .int _)]) [0, 2] rfl (e_Hall_pass_J73 _ _ _)
    · refine EJ_ifnull_R 49 (dk_198 (bt bc_Hall_pass_1 14 rfl) (bt bc_Hall_pass_1 15 rfl) (bt bc_Hall_pass_1 16 rfl) (n := 27) rfl) rfl ?_
      refine EJ_aload_n 50 0 (dk_42 (bt bc_Hall_pass_1 17 rfl)) rfl rfl ?_
      refine EJ_callVv (Y2 := Y_Hall_burnOneMinute) 53 cf11 (s_Hall_burnOneMinute G _ _) (of_decide_eq_true h9) rfl (dk_182 (bt bc_Hall_pass_1 18 rfl) (bt bc_Hall_pass_1 19 rfl) (bt bc_Hall_pass_1 20 rfl) (n := 299) rfl) rfl tw_1033 tw_1035 ts_25 tw_1036 hd_Hall_burnOneMinute rfl (by decide) (Nat.le_of_ble_eq_true rfl) (fun _ M12 => ?_)
      refine EJ_aload_n 54 0 (dk_42 (bt bc_Hall_pass_1 21 rfl)) rfl rfl ?_
      refine EJ_ck (fun h13 => ?_)
      refine EJ_getR cf11 14 (by decide) 57 tw_214 (fun _ _ _ => rfl) (dk_180 (bt bc_Hall_pass_1 22 rfl) (bt bc_Hall_pass_1 23 rfl) (bt bc_Hall_pass_1 24 rfl) (n := 252) rfl) rfl (of_decide_eq_true h13) (fun b14 => ?_)
      refine EJ_ck (fun h15 => ?_)
      refine EJ_getI cf9 7 (by decide) 60 tw_843 (fun _ _ _ => rfl) (dk_180 (bt bc_Hall_pass_1 25 rfl) (bt bc_Hall_pass_1 26 rfl) (bt bc_Hall_pass_1 27 rfl) (n := 302) rfl) rfl (of_decide_eq_true h15) ?_
      refine EJ_if_gt 67 63 (dk_157 (bt bc_Hall_pass_1 28 rfl) (bt bc_Hall_pass_1 29 rfl) (bt bc_Hall_pass_1 30 rfl) (n := 7) rfl) (by decide) rfl (fun _ => ?_) (fun _ => ?_)
      · exact EJ_pick (lv2 := [(0, .ref _), (1, .int _), (2, .int _), (3, .int _)]) [0, 1, 2, 3] rfl (e_Hall_pass_J67 k37 hk37 _ _ _ _ _)
      · refine EJ_aload_n 64 0 (dk_42 (bt bc_Hall_pass_1 31 rfl)) rfl rfl ?_
        refine EJ_callVv (Y2 := Y_Hall_endSession) 67 cf11 (s_Hall_endSession G _ _) (of_decide_eq_true h13) rfl (dk_182 (bt bc_Hall_pass_2 0 rfl) (bt bc_Hall_pass_2 1 rfl) (bt bc_Hall_pass_2 2 rfl) (n := 305) rfl) rfl tw_1037 tw_1039 ts_26 tw_1040 hd_Hall_endSession rfl (by decide) (Nat.le_of_ble_eq_true rfl) (fun _ M18 => ?_)
        exact EJ_pick (lv2 := [(0, .ref _), (1, .int _), (2, .int _), (3, .int _)]) [0, 1, 2, 3] rfl (e_Hall_pass_J67 k37 hk37 _ _ _ _ _)
def Hall_pass_L37 (n : Nat) : Nat → Int32 → Int32 → Int32 → Mm → Option (Int32 × Mm) :=
  match n with
  | 0 => fun _ _ _ _ _ => none
  | n + 1 => Hall_pass_B37 (Hall_pass_L37 n)
theorem e_Hall_pass_L37 {G : Gx} : ∀ (n : Nat) (x0 : Nat) (x1 : Int32) (x2 : Int32) (x3 : Int32) (M : Mm), EJ G Y_Hall_pass cvI 7 37 [(0, .ref x0), (1, .int x1), (2, .int x2), (3, .int x3)] [] M (Hall_pass_L37 n x0 x1 x2 x3 M) := by
  intro n
  induction n with
  | zero => intros; exact EJ_none
  | succ n ih => intro x0 x1 x2 x3 M; exact e_Hall_pass_B37 _ ih x0 x1 x2 x3 M
def Hall_pass (M : Mm) (a0 : Nat) (a1 : Int32) : Option (Int32 × Mm) :=
  bd (Hall_isWithin M a1 1 3000) (fun r1 M2 =>
  if r1 = 0 then (
    some ((-1), M2))
  else (
    ck (kO M2 a0 11 18) (
    if ((mI M2 a0 16) + a1) ≤ 57600 then (
      let v4 : Int32 := (mI M2 a0 16) + a1
      bd (Hall_lookAround M2 a0) (fun _ M6 =>
      Hall_pass_L37 fu a0 a1 v4 0 M6))
    else (
      some ((-1), M2)))))
set_option maxRecDepth 100000 in
set_option maxHeartbeats 4000000 in
theorem s_Hall_pass (G : Gx) (M : Mm) (a0 : Nat) (a1 : Int32) : FnS G Y_Hall_pass cvI 7 [.ref a0, .int a1] M (Hall_pass M a0 a1) := by
  refine FnS.ofE (by decide) (Nat.le_of_ble_eq_true rfl) ?_
  show EJ G Y_Hall_pass cvI 7 0 [(0, .ref a0), (1, .int a1)] [] M _
  unfold Hall_pass
  refine EJ_iload_n 1 1 (dk_27 (bt bc_Hall_pass_0 0 rfl)) rfl rfl ?_
  refine EJ_iconst 2 (dk_4 (bt bc_Hall_pass_0 1 rfl)) rfl (v := 1) kI_1 ?_
  refine EJ_sipush 5 (dk_17 (bt bc_Hall_pass_0 2 rfl) (bt bc_Hall_pass_0 3 rfl) (bt bc_Hall_pass_0 4 rfl) (n := 3000) rfl) rfl (v := 3000) kS_3000 ?_
  refine EJ_callSi (Y2 := Y_Hall_isWithin) 8 (s_Hall_isWithin G _ _ _ _) rfl (dk_184 (bt bc_Hall_pass_0 5 rfl) (bt bc_Hall_pass_0 6 rfl) (bt bc_Hall_pass_0 7 rfl) (n := 80) rfl) rfl tw_292 tw_276 tw_1 tw_277 hd_Hall_isWithin rfl (by decide) (Nat.le_of_ble_eq_true rfl) (fun r1 M2 => ?_)
  refine EJ_if_eq 22 11 (dk_153 (bt bc_Hall_pass_0 8 rfl) (bt bc_Hall_pass_0 9 rfl) (bt bc_Hall_pass_0 10 rfl) (n := 14) rfl) (by decide) rfl (fun _ => ?_) (fun _ => ?_)
  · refine EJ_iconst 23 (dk_2 (bt bc_Hall_pass_0 22 rfl)) rfl (v := (-1)) kI_m1 ?_
    exact EJ_iret rfl (dk_172 (bt bc_Hall_pass_0 23 rfl))
  · refine EJ_aload_n 12 0 (dk_42 (bt bc_Hall_pass_0 11 rfl)) rfl rfl ?_
    refine EJ_ck (fun h3 => ?_)
    refine EJ_getI cf11 16 (by decide) 15 tw_216 (fun _ _ _ => rfl) (dk_180 (bt bc_Hall_pass_0 12 rfl) (bt bc_Hall_pass_0 13 rfl) (bt bc_Hall_pass_0 14 rfl) (n := 120) rfl) rfl (of_decide_eq_true h3) ?_
    refine EJ_iload_n 16 1 (dk_27 (bt bc_Hall_pass_0 15 rfl)) rfl rfl ?_
    refine EJ_iadd 17 (dk_96 (bt bc_Hall_pass_0 16 rfl)) rfl ?_
    refine EJ_ldc 19 (dk_18 (bt bc_Hall_pass_0 17 rfl) (bt bc_Hall_pass_0 18 rfl)) rfl tw_291 ?_
    refine EJ_icmp_le 24 22 (dk_164 (bt bc_Hall_pass_0 19 rfl) (bt bc_Hall_pass_0 20 rfl) (bt bc_Hall_pass_0 21 rfl) (n := 5) rfl) (by decide) rfl (fun _ => ?_) (fun _ => ?_)
    · refine EJ_aload_n 25 0 (dk_42 (bt bc_Hall_pass_0 24 rfl)) rfl rfl ?_
      refine EJ_getI cf11 16 (by decide) 28 tw_216 (fun _ _ _ => rfl) (dk_180 (bt bc_Hall_pass_0 25 rfl) (bt bc_Hall_pass_0 26 rfl) (bt bc_Hall_pass_0 27 rfl) (n := 120) rfl) rfl (of_decide_eq_true h3) ?_
      refine EJ_iload_n 29 1 (dk_27 (bt bc_Hall_pass_0 28 rfl)) rfl rfl ?_
      refine EJ_iadd 30 (dk_96 (bt bc_Hall_pass_0 29 rfl)) rfl ?_
      refine EJ_istore_n 31 (lv2 := [(2, .int _), (0, .ref _), (1, .int _)]) (dk_61 (bt bc_Hall_pass_0 30 rfl)) rfl (by decide) rfl ?_
      refine EJ_aload_n 32 1 (dk_42 (bt bc_Hall_pass_0 31 rfl)) rfl rfl ?_
      refine EJ_callVv (Y2 := Y_Hall_lookAround) 35 cf11 (s_Hall_lookAround G _ _) (of_decide_eq_true h3) rfl (dk_182 (bt bc_Hall_pass_1 0 rfl) (bt bc_Hall_pass_1 1 rfl) (bt bc_Hall_pass_1 2 rfl) (n := 296) rfl) rfl tw_503 tw_505 ts_11 tw_506 hd_Hall_lookAround rfl (by decide) (Nat.le_of_ble_eq_true rfl) (fun _ M6 => ?_)
      refine EJ_iconst 36 (dk_3 (bt bc_Hall_pass_1 3 rfl)) rfl (v := 0) kI_0 ?_
      refine EJ_istore_n 37 (lv2 := [(3, .int _), (2, .int _), (0, .ref _), (1, .int _)]) (dk_62 (bt bc_Hall_pass_1 4 rfl)) rfl (by decide) rfl ?_
      exact EJ_pick (lv2 := [(0, .ref _), (1, .int _), (2, .int _), (3, .int _)]) [2, 3, 1, 0] rfl (e_Hall_pass_L37 fu _ _ _ _ _)
    · refine EJ_iconst 23 (dk_2 (bt bc_Hall_pass_0 22 rfl)) rfl (v := (-1)) kI_m1 ?_
      exact EJ_iret rfl (dk_172 (bt bc_Hall_pass_0 23 rfl))
abbrev Y_Hall_isSession : Ym := (⟨"RiceHall", "isSession", "(I)Z"⟩, prog_1_method_45_code, 2, (some FieldType.boolean))
theorem bc_Hall_isSession_0 : bts prog_1_method_45_code 0 [27, 155, 0, 15, 27, 42, 180, 1, 0, 162, 0, 7, 4, 167, 0, 4, 3, 172] := bts_of (by decide +kernel)
theorem hd_Hall_isSession : Y_Hall_isSession.1.cls = RX11 ∧ Y_Hall_isSession.1.cls ≠ "java/lang/invoke/MethodHandle" ∧ Y_Hall_isSession.1.cls ≠ "java/lang/invoke/VarHandle" ∧ (parseMethodDescriptor Y_Hall_isSession.1.desc).map (fun d => d.parameters.length) = some 1 := by decide +kernel
def Hall_isSession (M : Mm) (a0 : Nat) (a1 : Int32) : Option (Int32 × Mm) :=
  if a1 < 0 then (
    some (0, M))
  else (
    ck (kO M a0 11 18) (
    if (mI M a0 13) ≤ a1 then (
      some (0, M))
    else (
      some (1, M))))
set_option maxRecDepth 100000 in
set_option maxHeartbeats 4000000 in
theorem s_Hall_isSession (G : Gx) (M : Mm) (a0 : Nat) (a1 : Int32) : FnS G Y_Hall_isSession cvI 1 [.ref a0, .int a1] M (Hall_isSession M a0 a1) := by
  refine FnS.ofE (by decide) (Nat.le_of_ble_eq_true rfl) ?_
  show EJ G Y_Hall_isSession cvI 1 0 [(0, .ref a0), (1, .int a1)] [] M _
  unfold Hall_isSession
  refine EJ_iload_n 1 1 (dk_27 (bt bc_Hall_isSession_0 0 rfl)) rfl rfl ?_
  refine EJ_if_lt 16 4 (dk_155 (bt bc_Hall_isSession_0 1 rfl) (bt bc_Hall_isSession_0 2 rfl) (bt bc_Hall_isSession_0 3 rfl) (n := 15) rfl) (by decide) rfl (fun _ => ?_) (fun _ => ?_)
  · refine EJ_iconst 17 (dk_3 (bt bc_Hall_isSession_0 16 rfl)) rfl (v := 0) kI_0 ?_
    exact EJ_zret rfl (by decide) (dk_172 (bt bc_Hall_isSession_0 17 rfl))
  · refine EJ_iload_n 5 1 (dk_27 (bt bc_Hall_isSession_0 4 rfl)) rfl rfl ?_
    refine EJ_aload_n 6 0 (dk_42 (bt bc_Hall_isSession_0 5 rfl)) rfl rfl ?_
    refine EJ_ck (fun h1 => ?_)
    refine EJ_getI cf11 13 (by decide) 9 tw_213 (fun _ _ _ => rfl) (dk_180 (bt bc_Hall_isSession_0 6 rfl) (bt bc_Hall_isSession_0 7 rfl) (bt bc_Hall_isSession_0 8 rfl) (n := 256) rfl) rfl (of_decide_eq_true h1) ?_
    refine EJ_icmp_ge 16 12 (dk_162 (bt bc_Hall_isSession_0 9 rfl) (bt bc_Hall_isSession_0 10 rfl) (bt bc_Hall_isSession_0 11 rfl) (n := 7) rfl) (by decide) rfl (fun _ => ?_) (fun _ => ?_)
    · refine EJ_iconst 17 (dk_3 (bt bc_Hall_isSession_0 16 rfl)) rfl (v := 0) kI_0 ?_
      exact EJ_zret rfl (by decide) (dk_172 (bt bc_Hall_isSession_0 17 rfl))
    · refine EJ_iconst 13 (dk_4 (bt bc_Hall_isSession_0 12 rfl)) rfl (v := 1) kI_1 ?_
      refine EJ_goto 17 (dk_167 (bt bc_Hall_isSession_0 13 rfl) (bt bc_Hall_isSession_0 14 rfl) (bt bc_Hall_isSession_0 15 rfl) (n := 4) rfl) (by decide) ?_
      exact EJ_zret rfl (by decide) (dk_172 (bt bc_Hall_isSession_0 17 rfl))
abbrev Y_Hall_session : Ym := (⟨"RiceHall", "session", "(II)I"⟩, prog_1_method_32_code, 4, (some FieldType.int))
theorem bc_Hall_session_0 : bts prog_1_method_32_code 0 [42, 27, 182, 1, 52, 154, 0, 5, 2, 172, 42, 180, 0, 55, 27, 50, 78, 28, 170, 0, 0, 0, 0, 77, 0, 0, 0, 0, 0, 0, 0, 6] := bts_of (by decide +kernel)
theorem bc_Hall_session_1 : bts prog_1_method_32_code 32 [0, 0, 0, 42, 0, 0, 0, 47, 0, 0, 0, 52, 0, 0, 0, 57, 0, 0, 0, 62, 0, 0, 0, 67, 0, 0, 0, 72, 45, 180, 1, 55] := bts_of (by decide +kernel)
theorem bc_Hall_session_2 : bts prog_1_method_32_code 64 [172, 45, 180, 1, 58, 172, 45, 180, 1, 61, 172, 45, 180, 1, 5, 172, 45, 180, 1, 64, 172, 45, 180, 1, 67, 172, 45, 180, 1, 46, 172, 2] := bts_of (by decide +kernel)
theorem bc_Hall_session_3 : bts prog_1_method_32_code 96 [172] := bts_of (by decide +kernel)
theorem hd_Hall_session : Y_Hall_session.1.cls = RX11 ∧ Y_Hall_session.1.cls ≠ "java/lang/invoke/MethodHandle" ∧ Y_Hall_session.1.cls ≠ "java/lang/invoke/VarHandle" ∧ (parseMethodDescriptor Y_Hall_session.1.desc).map (fun d => d.parameters.length) = some 2 := by decide +kernel
set_option maxRecDepth 100000 in
theorem ds_Hall_session_18 : decode prog_1_method_32_code 18 = .ok (.tableswitch (77) (0) (6) #[42, 47, 52, 57, 62, 67, 72], 42) := by decide +kernel
def Hall_session (M : Mm) (a0 : Nat) (a1 : Int32) (a2 : Int32) : Option (Int32 × Mm) :=
  ck (kO M a0 11 18) (
  bd (Hall_isSession M a0 a1) (fun r2 M3 =>
  if r2 = 0 then (
    some ((-1), M3))
  else (
    ck (kO M3 a0 11 18) (
    nn (mR M3 a0 12) (fun b5 =>
    ck (kA M3 b5 26 a1) (
    nn (mR M3 b5 (ix a1)) (fun b7 =>
    if a2 = 0 then (
      ck (kO M3 b7 9 11) (
      some (mI M3 b7 0, M3)))
    else (
    if a2 = 1 then (
      ck (kO M3 b7 9 11) (
      some (mI M3 b7 8, M3)))
    else (
    if a2 = 2 then (
      ck (kO M3 b7 9 11) (
      some (mI M3 b7 9, M3)))
    else (
    if a2 = 3 then (
      ck (kO M3 b7 9 11) (
      some (mI M3 b7 4, M3)))
    else (
    if a2 = 4 then (
      ck (kO M3 b7 9 11) (
      some (mI M3 b7 5, M3)))
    else (
    if a2 = 5 then (
      ck (kO M3 b7 9 11) (
      some (mI M3 b7 6, M3)))
    else (
    if a2 = 6 then (
      ck (kO M3 b7 9 11) (
      some (mI M3 b7 7, M3)))
    else (
    some ((-1), M3)))))))))))))))
set_option maxRecDepth 100000 in
set_option maxHeartbeats 4000000 in
theorem s_Hall_session (G : Gx) (M : Mm) (a0 : Nat) (a1 : Int32) (a2 : Int32) : FnS G Y_Hall_session cvI 2 [.ref a0, .int a1, .int a2] M (Hall_session M a0 a1 a2) := by
  refine FnS.ofE (by decide) (Nat.le_of_ble_eq_true rfl) ?_
  show EJ G Y_Hall_session cvI 2 0 [(0, .ref a0), (1, .int a1), (2, .int a2)] [] M _
  unfold Hall_session
  refine EJ_aload_n 1 0 (dk_42 (bt bc_Hall_session_0 0 rfl)) rfl rfl ?_
  refine EJ_iload_n 2 1 (dk_27 (bt bc_Hall_session_0 1 rfl)) rfl rfl ?_
  refine EJ_ck (fun h1 => ?_)
  refine EJ_callVi (Y2 := Y_Hall_isSession) 5 cf11 (s_Hall_isSession G _ _ _) (of_decide_eq_true h1) rfl (dk_182 (bt bc_Hall_session_0 2 rfl) (bt bc_Hall_session_0 3 rfl) (bt bc_Hall_session_0 4 rfl) (n := 308) rfl) rfl tw_1100 tw_1102 ts_31 tw_1103 hd_Hall_isSession rfl (by decide) (Nat.le_of_ble_eq_true rfl) (fun r2 M3 => ?_)
  refine EJ_if_ne 10 8 (dk_154 (bt bc_Hall_session_0 5 rfl) (bt bc_Hall_session_0 6 rfl) (bt bc_Hall_session_0 7 rfl) (n := 5) rfl) (by decide) rfl (fun _ => ?_) (fun _ => ?_)
  · refine EJ_aload_n 11 0 (dk_42 (bt bc_Hall_session_0 10 rfl)) rfl rfl ?_
    refine EJ_ck (fun h4 => ?_)
    refine EJ_getR cf11 12 (by decide) 14 tw_212 (fun _ _ _ => rfl) (dk_180 (bt bc_Hall_session_0 11 rfl) (bt bc_Hall_session_0 12 rfl) (bt bc_Hall_session_0 13 rfl) (n := 55) rfl) rfl (of_decide_eq_true h4) (fun b5 => ?_)
    refine EJ_iload_n 15 1 (dk_27 (bt bc_Hall_session_0 14 rfl)) rfl rfl ?_
    refine EJ_ck (fun h6 => ?_)
    refine EJ_aald 6 16 (by decide) (by decide) rfl h6 (dk_50 (bt bc_Hall_session_0 15 rfl)) rfl (fun b7 => ?_)
    refine EJ_astore_n 17 (lv2 := [(3, .ref _), (0, .ref _), (1, .int _), (2, .int _)]) (dk_78 (bt bc_Hall_session_0 16 rfl)) rfl (by decide) rfl ?_
    refine EJ_iload_n 18 3 (dk_28 (bt bc_Hall_session_0 17 rfl)) rfl rfl ?_
    refine EJ_case 0 60 ds_Hall_session_18 (by decide) rfl (by decide) (fun _ => ?_) (fun hc18_0 => ?_)
    · refine EJ_aload_n 61 0 (dk_45 (bt bc_Hall_session_1 28 rfl)) rfl rfl ?_
      refine EJ_ck (fun h8 => ?_)
      refine EJ_getI cf9 0 (by decide) 64 tw_829 (fun _ _ _ => rfl) (dk_180 (bt bc_Hall_session_1 29 rfl) (bt bc_Hall_session_1 30 rfl) (bt bc_Hall_session_1 31 rfl) (n := 311) rfl) rfl (of_decide_eq_true h8) ?_
      exact EJ_iret rfl (dk_172 (bt bc_Hall_session_2 0 rfl))
    refine EJ_case 1 65 ds_Hall_session_18 (by decide) rfl (by decide) (fun _ => ?_) (fun hc18_1 => ?_)
    · refine EJ_aload_n 66 0 (dk_45 (bt bc_Hall_session_2 1 rfl)) rfl rfl ?_
      refine EJ_ck (fun h9 => ?_)
      refine EJ_getI cf9 8 (by decide) 69 tw_845 (fun _ _ _ => rfl) (dk_180 (bt bc_Hall_session_2 2 rfl) (bt bc_Hall_session_2 3 rfl) (bt bc_Hall_session_2 4 rfl) (n := 314) rfl) rfl (of_decide_eq_true h9) ?_
      exact EJ_iret rfl (dk_172 (bt bc_Hall_session_2 5 rfl))
    refine EJ_case 2 70 ds_Hall_session_18 (by decide) rfl (by decide) (fun _ => ?_) (fun hc18_2 => ?_)
    · refine EJ_aload_n 71 0 (dk_45 (bt bc_Hall_session_2 6 rfl)) rfl rfl ?_
      refine EJ_ck (fun h10 => ?_)
      refine EJ_getI cf9 9 (by decide) 74 tw_848 (fun _ _ _ => rfl) (dk_180 (bt bc_Hall_session_2 7 rfl) (bt bc_Hall_session_2 8 rfl) (bt bc_Hall_session_2 9 rfl) (n := 317) rfl) rfl (of_decide_eq_true h10) ?_
      exact EJ_iret rfl (dk_172 (bt bc_Hall_session_2 10 rfl))
    refine EJ_case 3 75 ds_Hall_session_18 (by decide) rfl (by decide) (fun _ => ?_) (fun hc18_3 => ?_)
    · refine EJ_aload_n 76 0 (dk_45 (bt bc_Hall_session_2 11 rfl)) rfl rfl ?_
      refine EJ_ck (fun h11 => ?_)
      refine EJ_getI cf9 4 (by decide) 79 tw_836 (fun _ _ _ => rfl) (dk_180 (bt bc_Hall_session_2 12 rfl) (bt bc_Hall_session_2 13 rfl) (bt bc_Hall_session_2 14 rfl) (n := 261) rfl) rfl (of_decide_eq_true h11) ?_
      exact EJ_iret rfl (dk_172 (bt bc_Hall_session_2 15 rfl))
    refine EJ_case 4 80 ds_Hall_session_18 (by decide) rfl (by decide) (fun _ => ?_) (fun hc18_4 => ?_)
    · refine EJ_aload_n 81 0 (dk_45 (bt bc_Hall_session_2 16 rfl)) rfl rfl ?_
      refine EJ_ck (fun h12 => ?_)
      refine EJ_getI cf9 5 (by decide) 84 tw_839 (fun _ _ _ => rfl) (dk_180 (bt bc_Hall_session_2 17 rfl) (bt bc_Hall_session_2 18 rfl) (bt bc_Hall_session_2 19 rfl) (n := 320) rfl) rfl (of_decide_eq_true h12) ?_
      exact EJ_iret rfl (dk_172 (bt bc_Hall_session_2 20 rfl))
    refine EJ_case 5 85 ds_Hall_session_18 (by decide) rfl (by decide) (fun _ => ?_) (fun hc18_5 => ?_)
    · refine EJ_aload_n 86 0 (dk_45 (bt bc_Hall_session_2 21 rfl)) rfl rfl ?_
      refine EJ_ck (fun h13 => ?_)
      refine EJ_getI cf9 6 (by decide) 89 tw_841 (fun _ _ _ => rfl) (dk_180 (bt bc_Hall_session_2 22 rfl) (bt bc_Hall_session_2 23 rfl) (bt bc_Hall_session_2 24 rfl) (n := 323) rfl) rfl (of_decide_eq_true h13) ?_
      exact EJ_iret rfl (dk_172 (bt bc_Hall_session_2 25 rfl))
    refine EJ_case 6 90 ds_Hall_session_18 (by decide) rfl (by decide) (fun _ => ?_) (fun hc18_6 => ?_)
    · refine EJ_aload_n 91 0 (dk_45 (bt bc_Hall_session_2 26 rfl)) rfl rfl ?_
      refine EJ_ck (fun h14 => ?_)
      refine EJ_getI cf9 7 (by decide) 94 tw_843 (fun _ _ _ => rfl) (dk_180 (bt bc_Hall_session_2 27 rfl) (bt bc_Hall_session_2 28 rfl) (bt bc_Hall_session_2 29 rfl) (n := 302) rfl) rfl (of_decide_eq_true h14) ?_
      exact EJ_iret rfl (dk_172 (bt bc_Hall_session_2 30 rfl))
    refine EJ_tabOut 95 ds_Hall_session_18 (tabOut (fun k k1 k2 => by
        rcases (show k = 0 ∨ k = 1 ∨ k = 2 ∨ k = 3 ∨ k = 4 ∨ k = 5 ∨ k = 6 by omega) with rfl | rfl | rfl | rfl | rfl | rfl | rfl
        · exact hc18_0
        · exact hc18_1
        · exact hc18_2
        · exact hc18_3
        · exact hc18_4
        · exact hc18_5
        · exact hc18_6)) (by decide) ?_
    refine EJ_iconst 96 (dk_2 (bt bc_Hall_session_2 31 rfl)) rfl (v := (-1)) kI_m1 ?_
    exact EJ_iret rfl (dk_172 (bt bc_Hall_session_3 0 rfl))
  · refine EJ_iconst 9 (dk_2 (bt bc_Hall_session_0 8 rfl)) rfl (v := (-1)) kI_m1 ?_
    exact EJ_iret rfl (dk_172 (bt bc_Hall_session_0 9 rfl))
abbrev Y_Hall_bargain : Ym := (⟨"RiceHall", "bargain", "(III)I"⟩, prog_1_method_33_code, 5, (some FieldType.int))
theorem bc_Hall_bargain_0 : bts prog_1_method_33_code 0 [42, 27, 182, 1, 52, 153, 0, 16, 42, 180, 0, 55, 27, 50, 28, 182, 1, 23, 154, 0, 5, 2, 172, 42, 180, 0, 55, 27, 50, 180, 1, 26] := bts_of (by decide +kernel)
theorem bc_Hall_bargain_1 : bts prog_1_method_33_code 32 [28, 50, 58, 4, 29, 170, 0, 0, 0, 0, 0, 103, 0, 0, 0, 0, 0, 0, 0, 7, 0, 0, 0, 47, 0, 0, 0, 53, 0, 0, 0, 59] := bts_of (by decide +kernel)
theorem bc_Hall_bargain_2 : bts prog_1_method_33_code 64 [0, 0, 0, 65, 0, 0, 0, 71, 0, 0, 0, 77, 0, 0, 0, 83, 0, 0, 0, 89, 25, 4, 180, 1, 70, 172, 25, 4, 180, 1, 73, 172] := bts_of (by decide +kernel)
theorem bc_Hall_bargain_3 : bts prog_1_method_33_code 96 [25, 4, 180, 1, 76, 172, 25, 4, 180, 1, 79, 172, 25, 4, 180, 1, 82, 172, 25, 4, 180, 1, 85, 172, 25, 4, 180, 1, 88, 172, 25, 4] := bts_of (by decide +kernel)
theorem bc_Hall_bargain_4 : bts prog_1_method_33_code 128 [182, 1, 91, 153, 0, 7, 4, 167, 0, 4, 3, 172, 2, 172] := bts_of (by decide +kernel)
theorem hd_Hall_bargain : Y_Hall_bargain.1.cls = RX11 ∧ Y_Hall_bargain.1.cls ≠ "java/lang/invoke/MethodHandle" ∧ Y_Hall_bargain.1.cls ≠ "java/lang/invoke/VarHandle" ∧ (parseMethodDescriptor Y_Hall_bargain.1.desc).map (fun d => d.parameters.length) = some 3 := by decide +kernel
set_option maxRecDepth 100000 in
theorem ds_Hall_bargain_37 : decode prog_1_method_33_code 37 = .ok (.tableswitch (103) (0) (7) #[47, 53, 59, 65, 71, 77, 83, 89], 47) := by decide +kernel
def Hall_bargain (M : Mm) (a0 : Nat) (a1 : Int32) (a2 : Int32) (a3 : Int32) : Option (Int32 × Mm) :=
  ck (kO M a0 11 18) (
  bd (Hall_isSession M a0 a1) (fun r2 M3 =>
  if r2 = 0 then (
    some ((-1), M3))
  else (
    ck (kO M3 a0 11 18) (
    nn (mR M3 a0 12) (fun b5 =>
    ck (kA M3 b5 26 a1) (
    nn (mR M3 b5 (ix a1)) (fun b7 =>
    ck (kO M3 b7 9 11) (
    bd (Session_hasBargain M3 b7 a2) (fun r9 M10 =>
    if r9 = 0 then (
      some ((-1), M10))
    else (
      ck (kO M10 a0 11 18) (
      nn (mR M10 a0 12) (fun b12 =>
      ck (kA M10 b12 26 a1) (
      nn (mR M10 b12 (ix a1)) (fun b14 =>
      ck (kO M10 b14 9 11) (
      nn (mR M10 b14 3) (fun b16 =>
      ck (kA M10 b16 29 a2) (
      nn (mR M10 b16 (ix a2)) (fun b18 =>
      if a3 = 0 then (
        ck (kO M10 b18 0 14) (
        some (mI M10 b18 0, M10)))
      else (
      if a3 = 1 then (
        ck (kO M10 b18 0 14) (
        some (mI M10 b18 1, M10)))
      else (
      if a3 = 2 then (
        ck (kO M10 b18 0 14) (
        some (mI M10 b18 2, M10)))
      else (
      if a3 = 3 then (
        ck (kO M10 b18 0 14) (
        some (mI M10 b18 3, M10)))
      else (
      if a3 = 4 then (
        ck (kO M10 b18 0 14) (
        some (mI M10 b18 4, M10)))
      else (
      if a3 = 5 then (
        ck (kO M10 b18 0 14) (
        some (mI M10 b18 12, M10)))
      else (
      if a3 = 6 then (
        ck (kO M10 b18 0 14) (
        some (mI M10 b18 13, M10)))
      else (
      if a3 = 7 then (
        ck (kO M10 b18 0 14) (
        bd (Bargain_isDenied M10 b18) (fun r27 M28 =>
        if r27 = 0 then (
          some (0, M28))
        else (
          some (1, M28)))))
      else (
      some ((-1), M10)))))))))))))))))))))))))))
set_option maxRecDepth 100000 in
set_option maxHeartbeats 4000000 in
theorem s_Hall_bargain (G : Gx) (M : Mm) (a0 : Nat) (a1 : Int32) (a2 : Int32) (a3 : Int32) : FnS G Y_Hall_bargain cvI 2 [.ref a0, .int a1, .int a2, .int a3] M (Hall_bargain M a0 a1 a2 a3) := by
  refine FnS.ofE (by decide) (Nat.le_of_ble_eq_true rfl) ?_
  show EJ G Y_Hall_bargain cvI 2 0 [(0, .ref a0), (1, .int a1), (2, .int a2), (3, .int a3)] [] M _
  unfold Hall_bargain
  refine EJ_aload_n 1 0 (dk_42 (bt bc_Hall_bargain_0 0 rfl)) rfl rfl ?_
  refine EJ_iload_n 2 1 (dk_27 (bt bc_Hall_bargain_0 1 rfl)) rfl rfl ?_
  refine EJ_ck (fun h1 => ?_)
  refine EJ_callVi (Y2 := Y_Hall_isSession) 5 cf11 (s_Hall_isSession G _ _ _) (of_decide_eq_true h1) rfl (dk_182 (bt bc_Hall_bargain_0 2 rfl) (bt bc_Hall_bargain_0 3 rfl) (bt bc_Hall_bargain_0 4 rfl) (n := 308) rfl) rfl tw_1100 tw_1102 ts_31 tw_1103 hd_Hall_isSession rfl (by decide) (Nat.le_of_ble_eq_true rfl) (fun r2 M3 => ?_)
  refine EJ_if_eq 21 8 (dk_153 (bt bc_Hall_bargain_0 5 rfl) (bt bc_Hall_bargain_0 6 rfl) (bt bc_Hall_bargain_0 7 rfl) (n := 16) rfl) (by decide) rfl (fun _ => ?_) (fun _ => ?_)
  · refine EJ_iconst 22 (dk_2 (bt bc_Hall_bargain_0 21 rfl)) rfl (v := (-1)) kI_m1 ?_
    exact EJ_iret rfl (dk_172 (bt bc_Hall_bargain_0 22 rfl))
  · refine EJ_aload_n 9 0 (dk_42 (bt bc_Hall_bargain_0 8 rfl)) rfl rfl ?_
    refine EJ_ck (fun h4 => ?_)
    refine EJ_getR cf11 12 (by decide) 12 tw_212 (fun _ _ _ => rfl) (dk_180 (bt bc_Hall_bargain_0 9 rfl) (bt bc_Hall_bargain_0 10 rfl) (bt bc_Hall_bargain_0 11 rfl) (n := 55) rfl) rfl (of_decide_eq_true h4) (fun b5 => ?_)
    refine EJ_iload_n 13 1 (dk_27 (bt bc_Hall_bargain_0 12 rfl)) rfl rfl ?_
    refine EJ_ck (fun h6 => ?_)
    refine EJ_aald 6 14 (by decide) (by decide) rfl h6 (dk_50 (bt bc_Hall_bargain_0 13 rfl)) rfl (fun b7 => ?_)
    refine EJ_iload_n 15 2 (dk_28 (bt bc_Hall_bargain_0 14 rfl)) rfl rfl ?_
    refine EJ_ck (fun h8 => ?_)
    refine EJ_callVi (Y2 := Y_Session_hasBargain) 18 cf9 (s_Session_hasBargain G _ _ _) (of_decide_eq_true h8) rfl (dk_182 (bt bc_Hall_bargain_0 15 rfl) (bt bc_Hall_bargain_0 16 rfl) (bt bc_Hall_bargain_0 17 rfl) (n := 279) rfl) rfl tw_1009 tw_1010 tw_1011 tw_1012 hd_Session_hasBargain rfl (by decide) (Nat.le_of_ble_eq_true rfl) (fun r9 M10 => ?_)
    refine EJ_if_ne 23 21 (dk_154 (bt bc_Hall_bargain_0 18 rfl) (bt bc_Hall_bargain_0 19 rfl) (bt bc_Hall_bargain_0 20 rfl) (n := 5) rfl) (by decide) rfl (fun _ => ?_) (fun _ => ?_)
    · refine EJ_aload_n 24 0 (dk_42 (bt bc_Hall_bargain_0 23 rfl)) rfl rfl ?_
      refine EJ_ck (fun h11 => ?_)
      refine EJ_getR cf11 12 (by decide) 27 tw_212 (fun _ _ _ => rfl) (dk_180 (bt bc_Hall_bargain_0 24 rfl) (bt bc_Hall_bargain_0 25 rfl) (bt bc_Hall_bargain_0 26 rfl) (n := 55) rfl) rfl (of_decide_eq_true h11) (fun b12 => ?_)
      refine EJ_iload_n 28 1 (dk_27 (bt bc_Hall_bargain_0 27 rfl)) rfl rfl ?_
      refine EJ_ck (fun h13 => ?_)
      refine EJ_aald 6 29 (by decide) (by decide) rfl h13 (dk_50 (bt bc_Hall_bargain_0 28 rfl)) rfl (fun b14 => ?_)
      refine EJ_ck (fun h15 => ?_)
      refine EJ_getR cf9 3 (by decide) 32 tw_834 (fun _ _ _ => rfl) (dk_180 (bt bc_Hall_bargain_0 29 rfl) (bt bc_Hall_bargain_0 30 rfl) (bt bc_Hall_bargain_0 31 rfl) (n := 282) rfl) rfl (of_decide_eq_true h15) (fun b16 => ?_)
      refine EJ_iload_n 33 2 (dk_28 (bt bc_Hall_bargain_1 0 rfl)) rfl rfl ?_
      refine EJ_ck (fun h17 => ?_)
      refine EJ_aald 9 34 (by decide) (by decide) rfl h17 (dk_50 (bt bc_Hall_bargain_1 1 rfl)) rfl (fun b18 => ?_)
      refine EJ_astore 36 (lv2 := [(4, .ref _), (0, .ref _), (1, .int _), (2, .int _), (3, .int _)]) (dk_58 (bt bc_Hall_bargain_1 2 rfl) (bt bc_Hall_bargain_1 3 rfl)) rfl (by decide) rfl ?_
      refine EJ_iload_n 37 4 (dk_29 (bt bc_Hall_bargain_1 4 rfl)) rfl rfl ?_
      refine EJ_case 0 84 ds_Hall_bargain_37 (by decide) rfl (by decide) (fun _ => ?_) (fun hc37_0 => ?_)
      · refine EJ_aload 86 0 (dk_25 (bt bc_Hall_bargain_2 20 rfl) (bt bc_Hall_bargain_2 21 rfl)) rfl rfl ?_
        refine EJ_ck (fun h19 => ?_)
        refine EJ_getI cf0 0 (by decide) 89 tw_942 (fun _ _ _ => rfl) (dk_180 (bt bc_Hall_bargain_2 22 rfl) (bt bc_Hall_bargain_2 23 rfl) (bt bc_Hall_bargain_2 24 rfl) (n := 326) rfl) rfl (of_decide_eq_true h19) ?_
        exact EJ_iret rfl (dk_172 (bt bc_Hall_bargain_2 25 rfl))
      refine EJ_case 1 90 ds_Hall_bargain_37 (by decide) rfl (by decide) (fun _ => ?_) (fun hc37_1 => ?_)
      · refine EJ_aload 92 0 (dk_25 (bt bc_Hall_bargain_2 26 rfl) (bt bc_Hall_bargain_2 27 rfl)) rfl rfl ?_
        refine EJ_ck (fun h20 => ?_)
        refine EJ_getI cf0 1 (by decide) 95 tw_945 (fun _ _ _ => rfl) (dk_180 (bt bc_Hall_bargain_2 28 rfl) (bt bc_Hall_bargain_2 29 rfl) (bt bc_Hall_bargain_2 30 rfl) (n := 329) rfl) rfl (of_decide_eq_true h20) ?_
        exact EJ_iret rfl (dk_172 (bt bc_Hall_bargain_2 31 rfl))
      refine EJ_case 2 96 ds_Hall_bargain_37 (by decide) rfl (by decide) (fun _ => ?_) (fun hc37_2 => ?_)
      · refine EJ_aload 98 0 (dk_25 (bt bc_Hall_bargain_3 0 rfl) (bt bc_Hall_bargain_3 1 rfl)) rfl rfl ?_
        refine EJ_ck (fun h21 => ?_)
        refine EJ_getI cf0 2 (by decide) 101 tw_947 (fun _ _ _ => rfl) (dk_180 (bt bc_Hall_bargain_3 2 rfl) (bt bc_Hall_bargain_3 3 rfl) (bt bc_Hall_bargain_3 4 rfl) (n := 332) rfl) rfl (of_decide_eq_true h21) ?_
        exact EJ_iret rfl (dk_172 (bt bc_Hall_bargain_3 5 rfl))
      refine EJ_case 3 102 ds_Hall_bargain_37 (by decide) rfl (by decide) (fun _ => ?_) (fun hc37_3 => ?_)
      · refine EJ_aload 104 0 (dk_25 (bt bc_Hall_bargain_3 6 rfl) (bt bc_Hall_bargain_3 7 rfl)) rfl rfl ?_
        refine EJ_ck (fun h22 => ?_)
        refine EJ_getI cf0 3 (by decide) 107 tw_950 (fun _ _ _ => rfl) (dk_180 (bt bc_Hall_bargain_3 8 rfl) (bt bc_Hall_bargain_3 9 rfl) (bt bc_Hall_bargain_3 10 rfl) (n := 335) rfl) rfl (of_decide_eq_true h22) ?_
        exact EJ_iret rfl (dk_172 (bt bc_Hall_bargain_3 11 rfl))
      refine EJ_case 4 108 ds_Hall_bargain_37 (by decide) rfl (by decide) (fun _ => ?_) (fun hc37_4 => ?_)
      · refine EJ_aload 110 0 (dk_25 (bt bc_Hall_bargain_3 12 rfl) (bt bc_Hall_bargain_3 13 rfl)) rfl rfl ?_
        refine EJ_ck (fun h23 => ?_)
        refine EJ_getI cf0 4 (by decide) 113 tw_953 (fun _ _ _ => rfl) (dk_180 (bt bc_Hall_bargain_3 14 rfl) (bt bc_Hall_bargain_3 15 rfl) (bt bc_Hall_bargain_3 16 rfl) (n := 338) rfl) rfl (of_decide_eq_true h23) ?_
        exact EJ_iret rfl (dk_172 (bt bc_Hall_bargain_3 17 rfl))
      refine EJ_case 5 114 ds_Hall_bargain_37 (by decide) rfl (by decide) (fun _ => ?_) (fun hc37_5 => ?_)
      · refine EJ_aload 116 0 (dk_25 (bt bc_Hall_bargain_3 18 rfl) (bt bc_Hall_bargain_3 19 rfl)) rfl rfl ?_
        refine EJ_ck (fun h24 => ?_)
        refine EJ_getI cf0 12 (by decide) 119 tw_964 (fun _ _ _ => rfl) (dk_180 (bt bc_Hall_bargain_3 20 rfl) (bt bc_Hall_bargain_3 21 rfl) (bt bc_Hall_bargain_3 22 rfl) (n := 341) rfl) rfl (of_decide_eq_true h24) ?_
        exact EJ_iret rfl (dk_172 (bt bc_Hall_bargain_3 23 rfl))
      refine EJ_case 6 120 ds_Hall_bargain_37 (by decide) rfl (by decide) (fun _ => ?_) (fun hc37_6 => ?_)
      · refine EJ_aload 122 0 (dk_25 (bt bc_Hall_bargain_3 24 rfl) (bt bc_Hall_bargain_3 25 rfl)) rfl rfl ?_
        refine EJ_ck (fun h25 => ?_)
        refine EJ_getI cf0 13 (by decide) 125 tw_967 (fun _ _ _ => rfl) (dk_180 (bt bc_Hall_bargain_3 26 rfl) (bt bc_Hall_bargain_3 27 rfl) (bt bc_Hall_bargain_3 28 rfl) (n := 344) rfl) rfl (of_decide_eq_true h25) ?_
        exact EJ_iret rfl (dk_172 (bt bc_Hall_bargain_3 29 rfl))
      refine EJ_case 7 126 ds_Hall_bargain_37 (by decide) rfl (by decide) (fun _ => ?_) (fun hc37_7 => ?_)
      · refine EJ_aload 128 0 (dk_25 (bt bc_Hall_bargain_3 30 rfl) (bt bc_Hall_bargain_3 31 rfl)) rfl rfl ?_
        refine EJ_ck (fun h26 => ?_)
        refine EJ_callVi (Y2 := Y_Bargain_isDenied) 131 cf0 (s_Bargain_isDenied G _ _) (of_decide_eq_true h26) rfl (dk_182 (bt bc_Hall_bargain_4 0 rfl) (bt bc_Hall_bargain_4 1 rfl) (bt bc_Hall_bargain_4 2 rfl) (n := 347) rfl) rfl tw_1108 tw_1026 tw_1027 tw_1028 hd_Bargain_isDenied rfl (by decide) (Nat.le_of_ble_eq_true rfl) (fun r27 M28 => ?_)
        refine EJ_if_eq 138 134 (dk_153 (bt bc_Hall_bargain_4 3 rfl) (bt bc_Hall_bargain_4 4 rfl) (bt bc_Hall_bargain_4 5 rfl) (n := 7) rfl) (by decide) rfl (fun _ => ?_) (fun _ => ?_)
        · refine EJ_iconst 139 (dk_3 (bt bc_Hall_bargain_4 10 rfl)) rfl (v := 0) kI_0 ?_
          exact EJ_iret rfl (dk_172 (bt bc_Hall_bargain_4 11 rfl))
        · refine EJ_iconst 135 (dk_4 (bt bc_Hall_bargain_4 6 rfl)) rfl (v := 1) kI_1 ?_
          refine EJ_goto 139 (dk_167 (bt bc_Hall_bargain_4 7 rfl) (bt bc_Hall_bargain_4 8 rfl) (bt bc_Hall_bargain_4 9 rfl) (n := 4) rfl) (by decide) ?_
          exact EJ_iret rfl (dk_172 (bt bc_Hall_bargain_4 11 rfl))
      refine EJ_tabOut 140 ds_Hall_bargain_37 (tabOut (fun k k1 k2 => by
          rcases (show k = 0 ∨ k = 1 ∨ k = 2 ∨ k = 3 ∨ k = 4 ∨ k = 5 ∨ k = 6 ∨ k = 7 by omega) with rfl | rfl | rfl | rfl | rfl | rfl | rfl | rfl
          · exact hc37_0
          · exact hc37_1
          · exact hc37_2
          · exact hc37_3
          · exact hc37_4
          · exact hc37_5
          · exact hc37_6
          · exact hc37_7)) (by decide) ?_
      refine EJ_iconst 141 (dk_2 (bt bc_Hall_bargain_4 12 rfl)) rfl (v := (-1)) kI_m1 ?_
      exact EJ_iret rfl (dk_172 (bt bc_Hall_bargain_4 13 rfl))
    · refine EJ_iconst 22 (dk_2 (bt bc_Hall_bargain_0 21 rfl)) rfl (v := (-1)) kI_m1 ?_
      exact EJ_iret rfl (dk_172 (bt bc_Hall_bargain_0 22 rfl))
abbrev Y_Hall_best : Ym := (⟨"RiceHall", "best", "(I)I"⟩, prog_1_method_34_code, 4, (some FieldType.int))
theorem bc_Hall_best_0 : bts prog_1_method_34_code 0 [42, 180, 0, 252, 198, 0, 12, 27, 3, 6, 184, 0, 80, 154, 0, 5, 2, 172, 27, 5, 162, 0, 7, 4, 167, 0, 4, 3, 61, 42, 180, 0] := bts_of (by decide +kernel)
theorem bc_Hall_best_1 : bts prog_1_method_34_code 32 [252, 28, 182, 1, 94, 62, 29, 2, 159, 0, 12, 27, 153, 0, 8, 27, 5, 160, 0, 5, 29, 172, 42, 180, 0, 252, 28, 29, 182, 1, 98, 172] := bts_of (by decide +kernel)
theorem hd_Hall_best : Y_Hall_best.1.cls = RX11 ∧ Y_Hall_best.1.cls ≠ "java/lang/invoke/MethodHandle" ∧ Y_Hall_best.1.cls ≠ "java/lang/invoke/VarHandle" ∧ (parseMethodDescriptor Y_Hall_best.1.desc).map (fun d => d.parameters.length) = some 1 := by decide +kernel
def Hall_best_J28 (x0 : Nat) (x1 : Int32) (s0 : Int32) (M : Mm) : Option (Int32 × Mm) :=
  ck (kO M x0 11 18) (
  nn (mR M x0 14) (fun b6 =>
  ck (kO M b6 9 11) (
  bd (Session_bestPrice M b6 s0) (fun r8 M9 =>
  if r8 = (-1) then (
    some (r8, M9))
  else (
    if x1 = 0 then (
      some (r8, M9))
    else (
      if x1 = 2 then (
        some (r8, M9))
      else (
        ck (kO M9 x0 11 18) (
        nn (mR M9 x0 14) (fun b11 =>
        ck (kO M9 b11 9 11) (
        bd (Session_lotsAt M9 b11 s0 r8) (fun r13 M14 =>
        some (r13, M14))))))))))))
set_option maxRecDepth 100000 in
set_option maxHeartbeats 4000000 in
theorem e_Hall_best_J28 {G : Gx} (x0 : Nat) (x1 : Int32) (s0 : Int32) (M : Mm) : EJ G Y_Hall_best cvI 3 28 [(0, .ref x0), (1, .int x1)] [.int s0] M (Hall_best_J28 x0 x1 s0 M) := by
  unfold Hall_best_J28
  refine EJ_istore_n 29 (lv2 := [(2, .int _), (0, .ref _), (1, .int _)]) (dk_61 (bt bc_Hall_best_0 28 rfl)) rfl (by decide) rfl ?_
  refine EJ_aload_n 30 1 (dk_42 (bt bc_Hall_best_0 29 rfl)) rfl rfl ?_
  refine EJ_ck (fun h5 => ?_)
  refine EJ_getR cf11 14 (by decide) 33 tw_214 (fun _ _ _ => rfl) (dk_180 (bt bc_Hall_best_0 30 rfl) (bt bc_Hall_best_0 31 rfl) (bt bc_Hall_best_1 0 rfl) (n := 252) rfl) rfl (of_decide_eq_true h5) (fun b6 => ?_)
  refine EJ_iload_n 34 0 (dk_28 (bt bc_Hall_best_1 1 rfl)) rfl rfl ?_
  refine EJ_ck (fun h7 => ?_)
  refine EJ_callVi (Y2 := Y_Session_bestPrice) 37 cf9 (s_Session_bestPrice G _ _ _) (of_decide_eq_true h7) rfl (dk_182 (bt bc_Hall_best_1 2 rfl) (bt bc_Hall_best_1 3 rfl) (bt bc_Hall_best_1 4 rfl) (n := 350) rfl) rfl tw_1113 tw_1114 tw_1115 tw_1116 hd_Session_bestPrice rfl (by decide) (Nat.le_of_ble_eq_true rfl) (fun r8 M9 => ?_)
  refine EJ_istore_n 38 (lv2 := [(3, .int _), (2, .int _), (0, .ref _), (1, .int _)]) (dk_62 (bt bc_Hall_best_1 5 rfl)) rfl (by decide) rfl ?_
  refine EJ_iload_n 39 0 (dk_29 (bt bc_Hall_best_1 6 rfl)) rfl rfl ?_
  refine EJ_iconst 40 (dk_2 (bt bc_Hall_best_1 7 rfl)) rfl (v := (-1)) kI_m1 ?_
  refine EJ_icmp_eq 52 43 (dk_159 (bt bc_Hall_best_1 8 rfl) (bt bc_Hall_best_1 9 rfl) (bt bc_Hall_best_1 10 rfl) (n := 12) rfl) (by decide) rfl (fun _ => ?_) (fun _ => ?_)
  · refine EJ_iload_n 53 0 (dk_29 (bt bc_Hall_best_1 20 rfl)) rfl rfl ?_
    exact EJ_iret rfl (dk_172 (bt bc_Hall_best_1 21 rfl))
  · refine EJ_iload_n 44 3 (dk_27 (bt bc_Hall_best_1 11 rfl)) rfl rfl ?_
    refine EJ_if_eq 52 47 (dk_153 (bt bc_Hall_best_1 12 rfl) (bt bc_Hall_best_1 13 rfl) (bt bc_Hall_best_1 14 rfl) (n := 8) rfl) (by decide) rfl (fun _ => ?_) (fun _ => ?_)
    · refine EJ_iload_n 53 0 (dk_29 (bt bc_Hall_best_1 20 rfl)) rfl rfl ?_
      exact EJ_iret rfl (dk_172 (bt bc_Hall_best_1 21 rfl))
    · refine EJ_iload_n 48 3 (dk_27 (bt bc_Hall_best_1 15 rfl)) rfl rfl ?_
      refine EJ_iconst 49 (dk_5 (bt bc_Hall_best_1 16 rfl)) rfl (v := 2) kI_2 ?_
      refine EJ_icmp_ne 54 52 (dk_160 (bt bc_Hall_best_1 17 rfl) (bt bc_Hall_best_1 18 rfl) (bt bc_Hall_best_1 19 rfl) (n := 5) rfl) (by decide) rfl (fun _ => ?_) (fun _ => ?_)
      · refine EJ_aload_n 55 2 (dk_42 (bt bc_Hall_best_1 22 rfl)) rfl rfl ?_
        refine EJ_ck (fun h10 => ?_)
        refine EJ_getR cf11 14 (by decide) 58 tw_214 (fun _ _ _ => rfl) (dk_180 (bt bc_Hall_best_1 23 rfl) (bt bc_Hall_best_1 24 rfl) (bt bc_Hall_best_1 25 rfl) (n := 252) rfl) rfl (of_decide_eq_true h10) (fun b11 => ?_)
        refine EJ_iload_n 59 1 (dk_28 (bt bc_Hall_best_1 26 rfl)) rfl rfl ?_
        refine EJ_iload_n 60 0 (dk_29 (bt bc_Hall_best_1 27 rfl)) rfl rfl ?_
        refine EJ_ck (fun h12 => ?_)
        refine EJ_callVi (Y2 := Y_Session_lotsAt) 63 cf9 (s_Session_lotsAt G _ _ _ _) (of_decide_eq_true h12) rfl (dk_182 (bt bc_Hall_best_1 28 rfl) (bt bc_Hall_best_1 29 rfl) (bt bc_Hall_best_1 30 rfl) (n := 354) rfl) rfl tw_1117 tw_1118 tw_1119 tw_1120 hd_Session_lotsAt rfl (by decide) (Nat.le_of_ble_eq_true rfl) (fun r13 M14 => ?_)
        exact EJ_iret rfl (dk_172 (bt bc_Hall_best_1 31 rfl))
      · refine EJ_iload_n 53 0 (dk_29 (bt bc_Hall_best_1 20 rfl)) rfl rfl ?_
        exact EJ_iret rfl (dk_172 (bt bc_Hall_best_1 21 rfl))
def Hall_best (M : Mm) (a0 : Nat) (a1 : Int32) : Option (Int32 × Mm) :=
  ck (kO M a0 11 18) (
  nl (mR M a0 14) (
    some ((-1), M))
  (fun b2 =>
    bd (Hall_isWithin M a1 0 3) (fun r3 M4 =>
    if r3 = 0 then (
      some ((-1), M4))
    else (
      if 2 ≤ a1 then (
        Hall_best_J28 a0 a1 0 M4)
      else (
        Hall_best_J28 a0 a1 1 M4)))))
set_option maxRecDepth 100000 in
set_option maxHeartbeats 4000000 in
theorem s_Hall_best (G : Gx) (M : Mm) (a0 : Nat) (a1 : Int32) : FnS G Y_Hall_best cvI 3 [.ref a0, .int a1] M (Hall_best M a0 a1) := by
  refine FnS.ofE (by decide) (Nat.le_of_ble_eq_true rfl) ?_
  show EJ G Y_Hall_best cvI 3 0 [(0, .ref a0), (1, .int a1)] [] M _
  unfold Hall_best
  refine EJ_aload_n 1 0 (dk_42 (bt bc_Hall_best_0 0 rfl)) rfl rfl ?_
  refine EJ_ck (fun h1 => ?_)
  refine EJ_getN cf11 14 (by decide) 4 tw_214 (fun _ _ _ => rfl) (dk_180 (bt bc_Hall_best_0 1 rfl) (bt bc_Hall_best_0 2 rfl) (bt bc_Hall_best_0 3 rfl) (n := 252) rfl) rfl (of_decide_eq_true h1) ?_ (fun b2 => ?_)
  · refine EJ_ifnull_N 16 (dk_198 (bt bc_Hall_best_0 4 rfl) (bt bc_Hall_best_0 5 rfl) (bt bc_Hall_best_0 6 rfl) (n := 12) rfl) (by decide) ?_
    refine EJ_iconst 17 (dk_2 (bt bc_Hall_best_0 16 rfl)) rfl (v := (-1)) kI_m1 ?_
    exact EJ_iret rfl (dk_172 (bt bc_Hall_best_0 17 rfl))
  · refine EJ_ifnull_R 7 (dk_198 (bt bc_Hall_best_0 4 rfl) (bt bc_Hall_best_0 5 rfl) (bt bc_Hall_best_0 6 rfl) (n := 12) rfl) rfl ?_
    refine EJ_iload_n 8 1 (dk_27 (bt bc_Hall_best_0 7 rfl)) rfl rfl ?_
    refine EJ_iconst 9 (dk_3 (bt bc_Hall_best_0 8 rfl)) rfl (v := 0) kI_0 ?_
    refine EJ_iconst 10 (dk_6 (bt bc_Hall_best_0 9 rfl)) rfl (v := 3) kI_3 ?_
    refine EJ_callSi (Y2 := Y_Hall_isWithin) 13 (s_Hall_isWithin G _ _ _ _) rfl (dk_184 (bt bc_Hall_best_0 10 rfl) (bt bc_Hall_best_0 11 rfl) (bt bc_Hall_best_0 12 rfl) (n := 80) rfl) rfl tw_292 tw_276 tw_1 tw_277 hd_Hall_isWithin rfl (by decide) (Nat.le_of_ble_eq_true rfl) (fun r3 M4 => ?_)
    refine EJ_if_ne 18 16 (dk_154 (bt bc_Hall_best_0 13 rfl) (bt bc_Hall_best_0 14 rfl) (bt bc_Hall_best_0 15 rfl) (n := 5) rfl) (by decide) rfl (fun _ => ?_) (fun _ => ?_)
    · refine EJ_iload_n 19 1 (dk_27 (bt bc_Hall_best_0 18 rfl)) rfl rfl ?_
      refine EJ_iconst 20 (dk_5 (bt bc_Hall_best_0 19 rfl)) rfl (v := 2) kI_2 ?_
      refine EJ_icmp_ge 27 23 (dk_162 (bt bc_Hall_best_0 20 rfl) (bt bc_Hall_best_0 21 rfl) (bt bc_Hall_best_0 22 rfl) (n := 7) rfl) (by decide) rfl (fun _ => ?_) (fun _ => ?_)
      · refine EJ_iconst 28 (dk_3 (bt bc_Hall_best_0 27 rfl)) rfl (v := 0) kI_0 ?_
        exact EJ_pick (lv2 := [(0, .ref _), (1, .int _)]) [0, 1] rfl (e_Hall_best_J28 _ _ _ _)
      · refine EJ_iconst 24 (dk_4 (bt bc_Hall_best_0 23 rfl)) rfl (v := 1) kI_1 ?_
        refine EJ_goto 28 (dk_167 (bt bc_Hall_best_0 24 rfl) (bt bc_Hall_best_0 25 rfl) (bt bc_Hall_best_0 26 rfl) (n := 4) rfl) (by decide) ?_
        exact EJ_pick (lv2 := [(0, .ref _), (1, .int _)]) [0, 1] rfl (e_Hall_best_J28 _ _ _ _)
    · refine EJ_iconst 17 (dk_2 (bt bc_Hall_best_0 16 rfl)) rfl (v := (-1)) kI_m1 ?_
      exact EJ_iret rfl (dk_172 (bt bc_Hall_best_0 17 rfl))
abbrev Y_Hall_owe : Ym := (⟨"RiceHall", "owe", "(III)Z"⟩, prog_1_method_35_code, 4, (some FieldType.boolean))
theorem bc_Hall_owe_0 : bts prog_1_method_35_code 0 [42, 27, 182, 0, 111, 153, 0, 26, 42, 28, 182, 0, 111, 153, 0, 18, 27, 28, 159, 0, 13, 29, 3, 18, 146, 184, 0, 80, 154, 0, 5, 3] := bts_of (by decide +kernel)
theorem bc_Hall_owe_1 : bts prog_1_method_35_code 32 [172, 42, 180, 0, 18, 27, 50, 180, 1, 102, 28, 29, 79, 4, 172] := bts_of (by decide +kernel)
theorem hd_Hall_owe : Y_Hall_owe.1.cls = RX11 ∧ Y_Hall_owe.1.cls ≠ "java/lang/invoke/MethodHandle" ∧ Y_Hall_owe.1.cls ≠ "java/lang/invoke/VarHandle" ∧ (parseMethodDescriptor Y_Hall_owe.1.desc).map (fun d => d.parameters.length) = some 3 := by decide +kernel
def Hall_owe (M : Mm) (a0 : Nat) (a1 : Int32) (a2 : Int32) (a3 : Int32) : Option (Int32 × Mm) :=
  ck (kO M a0 11 18) (
  bd (Hall_isPerson M a0 a1) (fun r2 M3 =>
  if r2 = 0 then (
    some (0, M3))
  else (
    ck (kO M3 a0 11 18) (
    bd (Hall_isPerson M3 a0 a2) (fun r5 M6 =>
    if r5 = 0 then (
      some (0, M6))
    else (
      if a1 = a2 then (
        some (0, M6))
      else (
        bd (Hall_isWithin M6 a3 0 99999) (fun r7 M8 =>
        if r7 = 0 then (
          some (0, M8))
        else (
          ck (kO M8 a0 11 18) (
          nn (mR M8 a0 1) (fun b10 =>
          ck (kA M8 b10 24 a1) (
          nn (mR M8 b10 (ix a1)) (fun b12 =>
          ck (kO M8 b12 6 9) (
          nn (mR M8 b12 2) (fun b14 =>
          ck (kA M8 b14 20 a2) (
          let M16 := sI M8 b14 (ix a2) a3
          some (1, M16)))))))))))))))))
set_option maxRecDepth 100000 in
set_option maxHeartbeats 4000000 in
theorem s_Hall_owe (G : Gx) (M : Mm) (a0 : Nat) (a1 : Int32) (a2 : Int32) (a3 : Int32) : FnS G Y_Hall_owe cvI 2 [.ref a0, .int a1, .int a2, .int a3] M (Hall_owe M a0 a1 a2 a3) := by
  refine FnS.ofE (by decide) (Nat.le_of_ble_eq_true rfl) ?_
  show EJ G Y_Hall_owe cvI 2 0 [(0, .ref a0), (1, .int a1), (2, .int a2), (3, .int a3)] [] M _
  unfold Hall_owe
  refine EJ_aload_n 1 0 (dk_42 (bt bc_Hall_owe_0 0 rfl)) rfl rfl ?_
  refine EJ_iload_n 2 1 (dk_27 (bt bc_Hall_owe_0 1 rfl)) rfl rfl ?_
  refine EJ_ck (fun h1 => ?_)
  refine EJ_callVi (Y2 := Y_Hall_isPerson) 5 cf11 (s_Hall_isPerson G _ _ _) (of_decide_eq_true h1) rfl (dk_182 (bt bc_Hall_owe_0 2 rfl) (bt bc_Hall_owe_0 3 rfl) (bt bc_Hall_owe_0 4 rfl) (n := 111) rfl) rfl tw_457 tw_459 ts_8 tw_460 hd_Hall_isPerson rfl (by decide) (Nat.le_of_ble_eq_true rfl) (fun r2 M3 => ?_)
  refine EJ_if_eq 31 8 (dk_153 (bt bc_Hall_owe_0 5 rfl) (bt bc_Hall_owe_0 6 rfl) (bt bc_Hall_owe_0 7 rfl) (n := 26) rfl) (by decide) rfl (fun _ => ?_) (fun _ => ?_)
  · refine EJ_iconst 32 (dk_3 (bt bc_Hall_owe_0 31 rfl)) rfl (v := 0) kI_0 ?_
    exact EJ_zret rfl (by decide) (dk_172 (bt bc_Hall_owe_1 0 rfl))
  · refine EJ_aload_n 9 0 (dk_42 (bt bc_Hall_owe_0 8 rfl)) rfl rfl ?_
    refine EJ_iload_n 10 2 (dk_28 (bt bc_Hall_owe_0 9 rfl)) rfl rfl ?_
    refine EJ_ck (fun h4 => ?_)
    refine EJ_callVi (Y2 := Y_Hall_isPerson) 13 cf11 (s_Hall_isPerson G _ _ _) (of_decide_eq_true h4) rfl (dk_182 (bt bc_Hall_owe_0 10 rfl) (bt bc_Hall_owe_0 11 rfl) (bt bc_Hall_owe_0 12 rfl) (n := 111) rfl) rfl tw_457 tw_459 ts_8 tw_460 hd_Hall_isPerson rfl (by decide) (Nat.le_of_ble_eq_true rfl) (fun r5 M6 => ?_)
    refine EJ_if_eq 31 16 (dk_153 (bt bc_Hall_owe_0 13 rfl) (bt bc_Hall_owe_0 14 rfl) (bt bc_Hall_owe_0 15 rfl) (n := 18) rfl) (by decide) rfl (fun _ => ?_) (fun _ => ?_)
    · refine EJ_iconst 32 (dk_3 (bt bc_Hall_owe_0 31 rfl)) rfl (v := 0) kI_0 ?_
      exact EJ_zret rfl (by decide) (dk_172 (bt bc_Hall_owe_1 0 rfl))
    · refine EJ_iload_n 17 1 (dk_27 (bt bc_Hall_owe_0 16 rfl)) rfl rfl ?_
      refine EJ_iload_n 18 2 (dk_28 (bt bc_Hall_owe_0 17 rfl)) rfl rfl ?_
      refine EJ_icmp_eq 31 21 (dk_159 (bt bc_Hall_owe_0 18 rfl) (bt bc_Hall_owe_0 19 rfl) (bt bc_Hall_owe_0 20 rfl) (n := 13) rfl) (by decide) rfl (fun _ => ?_) (fun _ => ?_)
      · refine EJ_iconst 32 (dk_3 (bt bc_Hall_owe_0 31 rfl)) rfl (v := 0) kI_0 ?_
        exact EJ_zret rfl (by decide) (dk_172 (bt bc_Hall_owe_1 0 rfl))
      · refine EJ_iload_n 22 3 (dk_29 (bt bc_Hall_owe_0 21 rfl)) rfl rfl ?_
        refine EJ_iconst 23 (dk_3 (bt bc_Hall_owe_0 22 rfl)) rfl (v := 0) kI_0 ?_
        refine EJ_ldc 25 (dk_18 (bt bc_Hall_owe_0 23 rfl) (bt bc_Hall_owe_0 24 rfl)) rfl tw_494 ?_
        refine EJ_callSi (Y2 := Y_Hall_isWithin) 28 (s_Hall_isWithin G _ _ _ _) rfl (dk_184 (bt bc_Hall_owe_0 25 rfl) (bt bc_Hall_owe_0 26 rfl) (bt bc_Hall_owe_0 27 rfl) (n := 80) rfl) rfl tw_292 tw_276 tw_1 tw_277 hd_Hall_isWithin rfl (by decide) (Nat.le_of_ble_eq_true rfl) (fun r7 M8 => ?_)
        refine EJ_if_ne 33 31 (dk_154 (bt bc_Hall_owe_0 28 rfl) (bt bc_Hall_owe_0 29 rfl) (bt bc_Hall_owe_0 30 rfl) (n := 5) rfl) (by decide) rfl (fun _ => ?_) (fun _ => ?_)
        · refine EJ_aload_n 34 0 (dk_42 (bt bc_Hall_owe_1 1 rfl)) rfl rfl ?_
          refine EJ_ck (fun h9 => ?_)
          refine EJ_getR cf11 1 (by decide) 37 tw_201 (fun _ _ _ => rfl) (dk_180 (bt bc_Hall_owe_1 2 rfl) (bt bc_Hall_owe_1 3 rfl) (bt bc_Hall_owe_1 4 rfl) (n := 18) rfl) rfl (of_decide_eq_true h9) (fun b10 => ?_)
          refine EJ_iload_n 38 1 (dk_27 (bt bc_Hall_owe_1 5 rfl)) rfl rfl ?_
          refine EJ_ck (fun h11 => ?_)
          refine EJ_aald 4 39 (by decide) (by decide) rfl h11 (dk_50 (bt bc_Hall_owe_1 6 rfl)) rfl (fun b12 => ?_)
          refine EJ_ck (fun h13 => ?_)
          refine EJ_getR cf6 2 (by decide) 42 tw_344 (fun _ _ _ => rfl) (dk_180 (bt bc_Hall_owe_1 7 rfl) (bt bc_Hall_owe_1 8 rfl) (bt bc_Hall_owe_1 9 rfl) (n := 358) rfl) rfl (of_decide_eq_true h13) (fun b14 => ?_)
          refine EJ_iload_n 43 2 (dk_28 (bt bc_Hall_owe_1 10 rfl)) rfl rfl ?_
          refine EJ_iload_n 44 3 (dk_29 (bt bc_Hall_owe_1 11 rfl)) rfl rfl ?_
          refine EJ_ck (fun h15 => ?_)
          refine EJ_iast 45 h15 (dk_79 (bt bc_Hall_owe_1 12 rfl)) rfl ?_
          refine EJ_iconst 46 (dk_4 (bt bc_Hall_owe_1 13 rfl)) rfl (v := 1) kI_1 ?_
          exact EJ_zret rfl (by decide) (dk_172 (bt bc_Hall_owe_1 14 rfl))
        · refine EJ_iconst 32 (dk_3 (bt bc_Hall_owe_0 31 rfl)) rfl (v := 0) kI_0 ?_
          exact EJ_zret rfl (by decide) (dk_172 (bt bc_Hall_owe_1 0 rfl))
abbrev Y_Hall_fails : Ym := (⟨"RiceHall", "fails", "(II)I"⟩, prog_1_method_36_code, 3, (some FieldType.int))
theorem bc_Hall_fails_0 : bts prog_1_method_36_code 0 [42, 27, 182, 0, 111, 153, 0, 12, 28, 3, 6, 184, 0, 80, 154, 0, 5, 2, 172, 42, 180, 0, 49, 42, 180, 0, 18, 42, 180, 0, 91, 42] := bts_of (by decide +kernel)
theorem bc_Hall_fails_1 : bts prog_1_method_36_code 32 [180, 0, 24, 42, 180, 0, 104, 42, 180, 0, 42, 182, 1, 105, 182, 1, 108, 28, 170, 0, 0, 0, 0, 54, 0, 0, 0, 0, 0, 0, 0, 2] := bts_of (by decide +kernel)
theorem bc_Hall_fails_2 : bts prog_1_method_36_code 64 [0, 0, 0, 26, 0, 0, 0, 36, 0, 0, 0, 46, 42, 180, 0, 49, 180, 1, 112, 27, 46, 172, 42, 180, 0, 49, 180, 1, 115, 27, 46, 172] := bts_of (by decide +kernel)
theorem bc_Hall_fails_3 : bts prog_1_method_36_code 96 [42, 180, 0, 49, 180, 1, 118, 172, 42, 180, 0, 49, 180, 1, 119, 172] := bts_of (by decide +kernel)
theorem hd_Hall_fails : Y_Hall_fails.1.cls = RX11 ∧ Y_Hall_fails.1.cls ≠ "java/lang/invoke/MethodHandle" ∧ Y_Hall_fails.1.cls ≠ "java/lang/invoke/VarHandle" ∧ (parseMethodDescriptor Y_Hall_fails.1.desc).map (fun d => d.parameters.length) = some 2 := by decide +kernel
set_option maxRecDepth 100000 in
theorem ds_Hall_fails_50 : decode prog_1_method_36_code 50 = .ok (.tableswitch (54) (0) (2) #[26, 36, 46], 26) := by decide +kernel
def Hall_fails (M : Mm) (a0 : Nat) (a1 : Int32) (a2 : Int32) : Option (Int32 × Mm) :=
  ck (kO M a0 11 18) (
  bd (Hall_isPerson M a0 a1) (fun r2 M3 =>
  if r2 = 0 then (
    some ((-1), M3))
  else (
    bd (Hall_isWithin M3 a2 0 3) (fun r4 M5 =>
    if r4 = 0 then (
      some ((-1), M5))
    else (
      ck (kO M5 a0 11 18) (
      nn (mR M5 a0 11) (fun b7 =>
      nn (mR M5 a0 1) (fun b8 =>
      nn (mR M5 a0 3) (fun b9 =>
      nn (mR M5 a0 10) (fun b10 =>
      ck (kO M5 b10 3 7) (
      bd (House_latestClose M5 b10) (fun r12 M13 =>
      ck (kO M13 b7 7 5) (
      bd (Ruin_reckon M13 b7 b8 (mI M5 a0 2) b9 (mI M5 a0 4) r12) (fun _ M16 =>
      if a2 = 0 then (
        ck (kO M16 a0 11 18) (
        nn (mR M16 a0 11) (fun b18 =>
        ck (kO M16 b18 7 5) (
        nn (mR M16 b18 0) (fun b20 =>
        ck (kA M16 b20 20 a1) (
        some (mI M16 b20 (ix a1), M16)))))))
      else (
      if a2 = 1 then (
        ck (kO M16 a0 11 18) (
        nn (mR M16 a0 11) (fun b23 =>
        ck (kO M16 b23 7 5) (
        nn (mR M16 b23 1) (fun b25 =>
        ck (kA M16 b25 20 a1) (
        some (mI M16 b25 (ix a1), M16)))))))
      else (
      if a2 = 2 then (
        ck (kO M16 a0 11 18) (
        nn (mR M16 a0 11) (fun b28 =>
        ck (kO M16 b28 7 5) (
        some (mI M16 b28 3, M16)))))
      else (
      ck (kO M16 a0 11 18) (
      nn (mR M16 a0 11) (fun b31 =>
      ck (kO M16 b31 7 5) (
      some (mI M16 b31 4, M16)))))))))))))))))))))
set_option maxRecDepth 100000 in
set_option maxHeartbeats 4000000 in
theorem s_Hall_fails (G : Gx) (M : Mm) (a0 : Nat) (a1 : Int32) (a2 : Int32) : FnS G Y_Hall_fails cvI 5 [.ref a0, .int a1, .int a2] M (Hall_fails M a0 a1 a2) := by
  refine FnS.ofE (by decide) (Nat.le_of_ble_eq_true rfl) ?_
  show EJ G Y_Hall_fails cvI 5 0 [(0, .ref a0), (1, .int a1), (2, .int a2)] [] M _
  unfold Hall_fails
  refine EJ_aload_n 1 0 (dk_42 (bt bc_Hall_fails_0 0 rfl)) rfl rfl ?_
  refine EJ_iload_n 2 1 (dk_27 (bt bc_Hall_fails_0 1 rfl)) rfl rfl ?_
  refine EJ_ck (fun h1 => ?_)
  refine EJ_callVi (Y2 := Y_Hall_isPerson) 5 cf11 (s_Hall_isPerson G _ _ _) (of_decide_eq_true h1) rfl (dk_182 (bt bc_Hall_fails_0 2 rfl) (bt bc_Hall_fails_0 3 rfl) (bt bc_Hall_fails_0 4 rfl) (n := 111) rfl) rfl tw_457 tw_459 ts_8 tw_460 hd_Hall_isPerson rfl (by decide) (Nat.le_of_ble_eq_true rfl) (fun r2 M3 => ?_)
  refine EJ_if_eq 17 8 (dk_153 (bt bc_Hall_fails_0 5 rfl) (bt bc_Hall_fails_0 6 rfl) (bt bc_Hall_fails_0 7 rfl) (n := 12) rfl) (by decide) rfl (fun _ => ?_) (fun _ => ?_)
  · refine EJ_iconst 18 (dk_2 (bt bc_Hall_fails_0 17 rfl)) rfl (v := (-1)) kI_m1 ?_
    exact EJ_iret rfl (dk_172 (bt bc_Hall_fails_0 18 rfl))
  · refine EJ_iload_n 9 2 (dk_28 (bt bc_Hall_fails_0 8 rfl)) rfl rfl ?_
    refine EJ_iconst 10 (dk_3 (bt bc_Hall_fails_0 9 rfl)) rfl (v := 0) kI_0 ?_
    refine EJ_iconst 11 (dk_6 (bt bc_Hall_fails_0 10 rfl)) rfl (v := 3) kI_3 ?_
    refine EJ_callSi (Y2 := Y_Hall_isWithin) 14 (s_Hall_isWithin G _ _ _ _) rfl (dk_184 (bt bc_Hall_fails_0 11 rfl) (bt bc_Hall_fails_0 12 rfl) (bt bc_Hall_fails_0 13 rfl) (n := 80) rfl) rfl tw_292 tw_276 tw_1 tw_277 hd_Hall_isWithin rfl (by decide) (Nat.le_of_ble_eq_true rfl) (fun r4 M5 => ?_)
    refine EJ_if_ne 19 17 (dk_154 (bt bc_Hall_fails_0 14 rfl) (bt bc_Hall_fails_0 15 rfl) (bt bc_Hall_fails_0 16 rfl) (n := 5) rfl) (by decide) rfl (fun _ => ?_) (fun _ => ?_)
    · refine EJ_aload_n 20 0 (dk_42 (bt bc_Hall_fails_0 19 rfl)) rfl rfl ?_
      refine EJ_ck (fun h6 => ?_)
      refine EJ_getR cf11 11 (by decide) 23 tw_211 (fun _ _ _ => rfl) (dk_180 (bt bc_Hall_fails_0 20 rfl) (bt bc_Hall_fails_0 21 rfl) (bt bc_Hall_fails_0 22 rfl) (n := 49) rfl) rfl (of_decide_eq_true h6) (fun b7 => ?_)
      refine EJ_aload_n 24 0 (dk_42 (bt bc_Hall_fails_0 23 rfl)) rfl rfl ?_
      refine EJ_getR cf11 1 (by decide) 27 tw_201 (fun _ _ _ => rfl) (dk_180 (bt bc_Hall_fails_0 24 rfl) (bt bc_Hall_fails_0 25 rfl) (bt bc_Hall_fails_0 26 rfl) (n := 18) rfl) rfl (of_decide_eq_true h6) (fun b8 => ?_)
      refine EJ_aload_n 28 0 (dk_42 (bt bc_Hall_fails_0 27 rfl)) rfl rfl ?_
      refine EJ_getI cf11 2 (by decide) 31 tw_202 (fun _ _ _ => rfl) (dk_180 (bt bc_Hall_fails_0 28 rfl) (bt bc_Hall_fails_0 29 rfl) (bt bc_Hall_fails_0 30 rfl) (n := 91) rfl) rfl (of_decide_eq_true h6) ?_
      refine EJ_aload_n 32 0 (dk_42 (bt bc_Hall_fails_0 31 rfl)) rfl rfl ?_
      refine EJ_getR cf11 3 (by decide) 35 tw_203 (fun _ _ _ => rfl) (dk_180 (bt bc_Hall_fails_1 0 rfl) (bt bc_Hall_fails_1 1 rfl) (bt bc_Hall_fails_1 2 rfl) (n := 24) rfl) rfl (of_decide_eq_true h6) (fun b9 => ?_)
      refine EJ_aload_n 36 0 (dk_42 (bt bc_Hall_fails_1 3 rfl)) rfl rfl ?_
      refine EJ_getI cf11 4 (by decide) 39 tw_204 (fun _ _ _ => rfl) (dk_180 (bt bc_Hall_fails_1 4 rfl) (bt bc_Hall_fails_1 5 rfl) (bt bc_Hall_fails_1 6 rfl) (n := 104) rfl) rfl (of_decide_eq_true h6) ?_
      refine EJ_aload_n 40 0 (dk_42 (bt bc_Hall_fails_1 7 rfl)) rfl rfl ?_
      refine EJ_getR cf11 10 (by decide) 43 tw_210 (fun _ _ _ => rfl) (dk_180 (bt bc_Hall_fails_1 8 rfl) (bt bc_Hall_fails_1 9 rfl) (bt bc_Hall_fails_1 10 rfl) (n := 42) rfl) rfl (of_decide_eq_true h6) (fun b10 => ?_)
      refine EJ_ck (fun h11 => ?_)
      refine EJ_callVi (Y2 := Y_House_latestClose) 46 cf3 (s_House_latestClose G _ _) (of_decide_eq_true h11) rfl (dk_182 (bt bc_Hall_fails_1 11 rfl) (bt bc_Hall_fails_1 12 rfl) (bt bc_Hall_fails_1 13 rfl) (n := 361) rfl) rfl tw_511 tw_512 tw_513 tw_514 hd_House_latestClose rfl (by decide) (Nat.le_of_ble_eq_true rfl) (fun r12 M13 => ?_)
      refine EJ_ck (fun h14 => ?_)
      refine EJ_callVv (Y2 := Y_Ruin_reckon) 49 cf7 (s_Ruin_reckon G _ _ _ _ _ _ _) (of_decide_eq_true h14) rfl (dk_182 (bt bc_Hall_fails_1 14 rfl) (bt bc_Hall_fails_1 15 rfl) (bt bc_Hall_fails_1 16 rfl) (n := 364) rfl) rfl tw_1129 tw_1130 tw_1131 tw_1132 hd_Ruin_reckon rfl (by decide) (Nat.le_of_ble_eq_true rfl) (fun _ M16 => ?_)
      refine EJ_iload_n 50 2 (dk_28 (bt bc_Hall_fails_1 17 rfl)) rfl rfl ?_
      refine EJ_case 0 76 ds_Hall_fails_50 (by decide) rfl (by decide) (fun _ => ?_) (fun hc50_0 => ?_)
      · refine EJ_aload_n 77 0 (dk_42 (bt bc_Hall_fails_2 12 rfl)) rfl rfl ?_
        refine EJ_ck (fun h17 => ?_)
        refine EJ_getR cf11 11 (by decide) 80 tw_211 (fun _ _ _ => rfl) (dk_180 (bt bc_Hall_fails_2 13 rfl) (bt bc_Hall_fails_2 14 rfl) (bt bc_Hall_fails_2 15 rfl) (n := 49) rfl) rfl (of_decide_eq_true h17) (fun b18 => ?_)
        refine EJ_ck (fun h19 => ?_)
        refine EJ_getR cf7 0 (by decide) 83 tw_179 (fun _ _ _ => rfl) (dk_180 (bt bc_Hall_fails_2 16 rfl) (bt bc_Hall_fails_2 17 rfl) (bt bc_Hall_fails_2 18 rfl) (n := 368) rfl) rfl (of_decide_eq_true h19) (fun b20 => ?_)
        refine EJ_iload_n 84 1 (dk_27 (bt bc_Hall_fails_2 19 rfl)) rfl rfl ?_
        refine EJ_ck (fun h21 => ?_)
        refine EJ_iald 85 h21 (dk_46 (bt bc_Hall_fails_2 20 rfl)) rfl ?_
        exact EJ_iret rfl (dk_172 (bt bc_Hall_fails_2 21 rfl))
      refine EJ_case 1 86 ds_Hall_fails_50 (by decide) rfl (by decide) (fun _ => ?_) (fun hc50_1 => ?_)
      · refine EJ_aload_n 87 0 (dk_42 (bt bc_Hall_fails_2 22 rfl)) rfl rfl ?_
        refine EJ_ck (fun h22 => ?_)
        refine EJ_getR cf11 11 (by decide) 90 tw_211 (fun _ _ _ => rfl) (dk_180 (bt bc_Hall_fails_2 23 rfl) (bt bc_Hall_fails_2 24 rfl) (bt bc_Hall_fails_2 25 rfl) (n := 49) rfl) rfl (of_decide_eq_true h22) (fun b23 => ?_)
        refine EJ_ck (fun h24 => ?_)
        refine EJ_getR cf7 1 (by decide) 93 tw_181 (fun _ _ _ => rfl) (dk_180 (bt bc_Hall_fails_2 26 rfl) (bt bc_Hall_fails_2 27 rfl) (bt bc_Hall_fails_2 28 rfl) (n := 371) rfl) rfl (of_decide_eq_true h24) (fun b25 => ?_)
        refine EJ_iload_n 94 1 (dk_27 (bt bc_Hall_fails_2 29 rfl)) rfl rfl ?_
        refine EJ_ck (fun h26 => ?_)
        refine EJ_iald 95 h26 (dk_46 (bt bc_Hall_fails_2 30 rfl)) rfl ?_
        exact EJ_iret rfl (dk_172 (bt bc_Hall_fails_2 31 rfl))
      refine EJ_case 2 96 ds_Hall_fails_50 (by decide) rfl (by decide) (fun _ => ?_) (fun hc50_2 => ?_)
      · refine EJ_aload_n 97 0 (dk_42 (bt bc_Hall_fails_3 0 rfl)) rfl rfl ?_
        refine EJ_ck (fun h27 => ?_)
        refine EJ_getR cf11 11 (by decide) 100 tw_211 (fun _ _ _ => rfl) (dk_180 (bt bc_Hall_fails_3 1 rfl) (bt bc_Hall_fails_3 2 rfl) (bt bc_Hall_fails_3 3 rfl) (n := 49) rfl) rfl (of_decide_eq_true h27) (fun b28 => ?_)
        refine EJ_ck (fun h29 => ?_)
        refine EJ_getI cf7 3 (by decide) 103 tw_184 (fun _ _ _ => rfl) (dk_180 (bt bc_Hall_fails_3 4 rfl) (bt bc_Hall_fails_3 5 rfl) (bt bc_Hall_fails_3 6 rfl) (n := 374) rfl) rfl (of_decide_eq_true h29) ?_
        exact EJ_iret rfl (dk_172 (bt bc_Hall_fails_3 7 rfl))
      refine EJ_tabOut 104 ds_Hall_fails_50 (tabOut (fun k k1 k2 => by
          rcases (show k = 0 ∨ k = 1 ∨ k = 2 by omega) with rfl | rfl | rfl
          · exact hc50_0
          · exact hc50_1
          · exact hc50_2)) (by decide) ?_
      refine EJ_aload_n 105 0 (dk_42 (bt bc_Hall_fails_3 8 rfl)) rfl rfl ?_
      refine EJ_ck (fun h30 => ?_)
      refine EJ_getR cf11 11 (by decide) 108 tw_211 (fun _ _ _ => rfl) (dk_180 (bt bc_Hall_fails_3 9 rfl) (bt bc_Hall_fails_3 10 rfl) (bt bc_Hall_fails_3 11 rfl) (n := 49) rfl) rfl (of_decide_eq_true h30) (fun b31 => ?_)
      refine EJ_ck (fun h32 => ?_)
      refine EJ_getI cf7 4 (by decide) 111 tw_186 (fun _ _ _ => rfl) (dk_180 (bt bc_Hall_fails_3 12 rfl) (bt bc_Hall_fails_3 13 rfl) (bt bc_Hall_fails_3 14 rfl) (n := 375) rfl) rfl (of_decide_eq_true h32) ?_
      exact EJ_iret rfl (dk_172 (bt bc_Hall_fails_3 15 rfl))
    · refine EJ_iconst 18 (dk_2 (bt bc_Hall_fails_0 17 rfl)) rfl (v := (-1)) kI_m1 ?_
      exact EJ_iret rfl (dk_172 (bt bc_Hall_fails_0 18 rfl))
abbrev Y_Hall_other : Ym := (⟨"RiceHall", "other", "(III)I"⟩, prog_1_method_37_code, 4, (some FieldType.int))
theorem bc_Hall_other_0 : bts prog_1_method_37_code 0 [42, 27, 182, 1, 52, 153, 0, 36, 42, 180, 0, 55, 27, 50, 180, 1, 58, 2, 159, 0, 23, 28, 3, 18, 146, 184, 0, 80, 153, 0, 13, 29] := bts_of (by decide +kernel)
theorem bc_Hall_other_1 : bts prog_1_method_37_code 32 [3, 18, 146, 184, 0, 80, 154, 0, 5, 2, 172, 42, 180, 0, 55, 27, 50, 28, 29, 42, 180, 0, 59, 182, 1, 122, 172] := bts_of (by decide +kernel)
theorem hd_Hall_other : Y_Hall_other.1.cls = RX11 ∧ Y_Hall_other.1.cls ≠ "java/lang/invoke/MethodHandle" ∧ Y_Hall_other.1.cls ≠ "java/lang/invoke/VarHandle" ∧ (parseMethodDescriptor Y_Hall_other.1.desc).map (fun d => d.parameters.length) = some 3 := by decide +kernel
def Hall_other (M : Mm) (a0 : Nat) (a1 : Int32) (a2 : Int32) (a3 : Int32) : Option (Int32 × Mm) :=
  ck (kO M a0 11 18) (
  bd (Hall_isSession M a0 a1) (fun r2 M3 =>
  if r2 = 0 then (
    some ((-1), M3))
  else (
    ck (kO M3 a0 11 18) (
    nn (mR M3 a0 12) (fun b5 =>
    ck (kA M3 b5 26 a1) (
    nn (mR M3 b5 (ix a1)) (fun b7 =>
    ck (kO M3 b7 9 11) (
    if (mI M3 b7 8) = (-1) then (
      some ((-1), M3))
    else (
      bd (Hall_isWithin M3 a2 0 99999) (fun r9 M10 =>
      if r9 = 0 then (
        some ((-1), M10))
      else (
        bd (Hall_isWithin M10 a3 0 99999) (fun r11 M12 =>
        if r11 = 0 then (
          some ((-1), M12))
        else (
          ck (kO M12 a0 11 18) (
          nn (mR M12 a0 12) (fun b14 =>
          ck (kA M12 b14 26 a1) (
          nn (mR M12 b14 (ix a1)) (fun b16 =>
          nn (mR M12 a0 15) (fun b17 =>
          ck (kO M12 b16 9 11) (
          bd (Session_otherClose M12 b16 a2 a3 b17) (fun r19 M20 =>
          some (r19, M20)))))))))))))))))))))
set_option maxRecDepth 100000 in
set_option maxHeartbeats 4000000 in
theorem s_Hall_other (G : Gx) (M : Mm) (a0 : Nat) (a1 : Int32) (a2 : Int32) (a3 : Int32) : FnS G Y_Hall_other cvI 5 [.ref a0, .int a1, .int a2, .int a3] M (Hall_other M a0 a1 a2 a3) := by
  refine FnS.ofE (by decide) (Nat.le_of_ble_eq_true rfl) ?_
  show EJ G Y_Hall_other cvI 5 0 [(0, .ref a0), (1, .int a1), (2, .int a2), (3, .int a3)] [] M _
  unfold Hall_other
  refine EJ_aload_n 1 0 (dk_42 (bt bc_Hall_other_0 0 rfl)) rfl rfl ?_
  refine EJ_iload_n 2 1 (dk_27 (bt bc_Hall_other_0 1 rfl)) rfl rfl ?_
  refine EJ_ck (fun h1 => ?_)
  refine EJ_callVi (Y2 := Y_Hall_isSession) 5 cf11 (s_Hall_isSession G _ _ _) (of_decide_eq_true h1) rfl (dk_182 (bt bc_Hall_other_0 2 rfl) (bt bc_Hall_other_0 3 rfl) (bt bc_Hall_other_0 4 rfl) (n := 308) rfl) rfl tw_1100 tw_1102 ts_31 tw_1103 hd_Hall_isSession rfl (by decide) (Nat.le_of_ble_eq_true rfl) (fun r2 M3 => ?_)
  refine EJ_if_eq 41 8 (dk_153 (bt bc_Hall_other_0 5 rfl) (bt bc_Hall_other_0 6 rfl) (bt bc_Hall_other_0 7 rfl) (n := 36) rfl) (by decide) rfl (fun _ => ?_) (fun _ => ?_)
  · refine EJ_iconst 42 (dk_2 (bt bc_Hall_other_1 9 rfl)) rfl (v := (-1)) kI_m1 ?_
    exact EJ_iret rfl (dk_172 (bt bc_Hall_other_1 10 rfl))
  · refine EJ_aload_n 9 0 (dk_42 (bt bc_Hall_other_0 8 rfl)) rfl rfl ?_
    refine EJ_ck (fun h4 => ?_)
    refine EJ_getR cf11 12 (by decide) 12 tw_212 (fun _ _ _ => rfl) (dk_180 (bt bc_Hall_other_0 9 rfl) (bt bc_Hall_other_0 10 rfl) (bt bc_Hall_other_0 11 rfl) (n := 55) rfl) rfl (of_decide_eq_true h4) (fun b5 => ?_)
    refine EJ_iload_n 13 1 (dk_27 (bt bc_Hall_other_0 12 rfl)) rfl rfl ?_
    refine EJ_ck (fun h6 => ?_)
    refine EJ_aald 6 14 (by decide) (by decide) rfl h6 (dk_50 (bt bc_Hall_other_0 13 rfl)) rfl (fun b7 => ?_)
    refine EJ_ck (fun h8 => ?_)
    refine EJ_getI cf9 8 (by decide) 17 tw_845 (fun _ _ _ => rfl) (dk_180 (bt bc_Hall_other_0 14 rfl) (bt bc_Hall_other_0 15 rfl) (bt bc_Hall_other_0 16 rfl) (n := 314) rfl) rfl (of_decide_eq_true h8) ?_
    refine EJ_iconst 18 (dk_2 (bt bc_Hall_other_0 17 rfl)) rfl (v := (-1)) kI_m1 ?_
    refine EJ_icmp_eq 41 21 (dk_159 (bt bc_Hall_other_0 18 rfl) (bt bc_Hall_other_0 19 rfl) (bt bc_Hall_other_0 20 rfl) (n := 23) rfl) (by decide) rfl (fun _ => ?_) (fun _ => ?_)
    · refine EJ_iconst 42 (dk_2 (bt bc_Hall_other_1 9 rfl)) rfl (v := (-1)) kI_m1 ?_
      exact EJ_iret rfl (dk_172 (bt bc_Hall_other_1 10 rfl))
    · refine EJ_iload_n 22 2 (dk_28 (bt bc_Hall_other_0 21 rfl)) rfl rfl ?_
      refine EJ_iconst 23 (dk_3 (bt bc_Hall_other_0 22 rfl)) rfl (v := 0) kI_0 ?_
      refine EJ_ldc 25 (dk_18 (bt bc_Hall_other_0 23 rfl) (bt bc_Hall_other_0 24 rfl)) rfl tw_494 ?_
      refine EJ_callSi (Y2 := Y_Hall_isWithin) 28 (s_Hall_isWithin G _ _ _ _) rfl (dk_184 (bt bc_Hall_other_0 25 rfl) (bt bc_Hall_other_0 26 rfl) (bt bc_Hall_other_0 27 rfl) (n := 80) rfl) rfl tw_292 tw_276 tw_1 tw_277 hd_Hall_isWithin rfl (by decide) (Nat.le_of_ble_eq_true rfl) (fun r9 M10 => ?_)
      refine EJ_if_eq 41 31 (dk_153 (bt bc_Hall_other_0 28 rfl) (bt bc_Hall_other_0 29 rfl) (bt bc_Hall_other_0 30 rfl) (n := 13) rfl) (by decide) rfl (fun _ => ?_) (fun _ => ?_)
      · refine EJ_iconst 42 (dk_2 (bt bc_Hall_other_1 9 rfl)) rfl (v := (-1)) kI_m1 ?_
        exact EJ_iret rfl (dk_172 (bt bc_Hall_other_1 10 rfl))
      · refine EJ_iload_n 32 3 (dk_29 (bt bc_Hall_other_0 31 rfl)) rfl rfl ?_
        refine EJ_iconst 33 (dk_3 (bt bc_Hall_other_1 0 rfl)) rfl (v := 0) kI_0 ?_
        refine EJ_ldc 35 (dk_18 (bt bc_Hall_other_1 1 rfl) (bt bc_Hall_other_1 2 rfl)) rfl tw_494 ?_
        refine EJ_callSi (Y2 := Y_Hall_isWithin) 38 (s_Hall_isWithin G _ _ _ _) rfl (dk_184 (bt bc_Hall_other_1 3 rfl) (bt bc_Hall_other_1 4 rfl) (bt bc_Hall_other_1 5 rfl) (n := 80) rfl) rfl tw_292 tw_276 tw_1 tw_277 hd_Hall_isWithin rfl (by decide) (Nat.le_of_ble_eq_true rfl) (fun r11 M12 => ?_)
        refine EJ_if_ne 43 41 (dk_154 (bt bc_Hall_other_1 6 rfl) (bt bc_Hall_other_1 7 rfl) (bt bc_Hall_other_1 8 rfl) (n := 5) rfl) (by decide) rfl (fun _ => ?_) (fun _ => ?_)
        · refine EJ_aload_n 44 0 (dk_42 (bt bc_Hall_other_1 11 rfl)) rfl rfl ?_
          refine EJ_ck (fun h13 => ?_)
          refine EJ_getR cf11 12 (by decide) 47 tw_212 (fun _ _ _ => rfl) (dk_180 (bt bc_Hall_other_1 12 rfl) (bt bc_Hall_other_1 13 rfl) (bt bc_Hall_other_1 14 rfl) (n := 55) rfl) rfl (of_decide_eq_true h13) (fun b14 => ?_)
          refine EJ_iload_n 48 1 (dk_27 (bt bc_Hall_other_1 15 rfl)) rfl rfl ?_
          refine EJ_ck (fun h15 => ?_)
          refine EJ_aald 6 49 (by decide) (by decide) rfl h15 (dk_50 (bt bc_Hall_other_1 16 rfl)) rfl (fun b16 => ?_)
          refine EJ_iload_n 50 2 (dk_28 (bt bc_Hall_other_1 17 rfl)) rfl rfl ?_
          refine EJ_iload_n 51 3 (dk_29 (bt bc_Hall_other_1 18 rfl)) rfl rfl ?_
          refine EJ_aload_n 52 0 (dk_42 (bt bc_Hall_other_1 19 rfl)) rfl rfl ?_
          refine EJ_getR cf11 15 (by decide) 55 tw_215 (fun _ _ _ => rfl) (dk_180 (bt bc_Hall_other_1 20 rfl) (bt bc_Hall_other_1 21 rfl) (bt bc_Hall_other_1 22 rfl) (n := 59) rfl) rfl (of_decide_eq_true h13) (fun b17 => ?_)
          refine EJ_ck (fun h18 => ?_)
          refine EJ_callVi (Y2 := Y_Session_otherClose) 58 cf9 (s_Session_otherClose G _ _ _ _ _) (of_decide_eq_true h18) rfl (dk_182 (bt bc_Hall_other_1 23 rfl) (bt bc_Hall_other_1 24 rfl) (bt bc_Hall_other_1 25 rfl) (n := 378) rfl) rfl tw_1151 tw_1152 tw_1153 tw_1154 hd_Session_otherClose rfl (by decide) (Nat.le_of_ble_eq_true rfl) (fun r19 M20 => ?_)
          exact EJ_iret rfl (dk_172 (bt bc_Hall_other_1 26 rfl))
        · refine EJ_iconst 42 (dk_2 (bt bc_Hall_other_1 9 rfl)) rfl (v := (-1)) kI_m1 ?_
          exact EJ_iret rfl (dk_172 (bt bc_Hall_other_1 10 rfl))
abbrev Y_Hall_least : Ym := (⟨"RiceHall", "least", "(I)I"⟩, prog_1_method_38_code, 4, (some FieldType.int))
theorem bc_Hall_least_0 : bts prog_1_method_38_code 0 [27, 4, 16, 10, 184, 0, 80, 153, 0, 14, 42, 180, 0, 42, 180, 1, 126, 5, 162, 0, 5, 2, 172, 3, 61, 3, 62, 29, 42, 180, 0, 42] := bts_of (by decide +kernel)
theorem bc_Hall_least_1 : bts prog_1_method_38_code 32 [180, 1, 126, 162, 0, 23, 28, 42, 180, 0, 42, 29, 27, 182, 1, 129, 184, 1, 133, 61, 132, 3, 1, 167, 255, 228, 28, 172] := bts_of (by decide +kernel)
theorem hd_Hall_least : Y_Hall_least.1.cls = RX11 ∧ Y_Hall_least.1.cls ≠ "java/lang/invoke/MethodHandle" ∧ Y_Hall_least.1.cls ≠ "java/lang/invoke/VarHandle" ∧ (parseMethodDescriptor Y_Hall_least.1.desc).map (fun d => d.parameters.length) = some 1 := by decide +kernel
def Hall_least_B27 (k27 : Nat → Int32 → Int32 → Int32 → Mm → Option (Int32 × Mm)) (x0 : Nat) (x1 : Int32) (x2 : Int32) (x3 : Int32) (M : Mm) : Option (Int32 × Mm) :=
  ck (kO M x0 11 18) (
  nn (mR M x0 10) (fun b7 =>
  ck (kO M b7 3 7) (
  if (mI M b7 2) ≤ x3 then (
    some (x2, M))
  else (
    nn (mR M x0 10) (fun b9 =>
    ck (kO M b9 3 7) (
    bd (House_widest M b9 x3 x1) (fun r11 M12 =>
    bd (Math_max_I M12 x2 r11) (fun r13 M14 =>
    let v15 : Int32 := x3 + 1
    k27 x0 x1 r13 v15 M14))))))))
set_option maxRecDepth 100000 in
set_option maxHeartbeats 4000000 in
theorem e_Hall_least_B27 {G : Gx} (k27 : Nat → Int32 → Int32 → Int32 → Mm → Option (Int32 × Mm)) (hk27 : ∀ (x0 : Nat) (x1 : Int32) (x2 : Int32) (x3 : Int32) (M : Mm), EJ G Y_Hall_least cvI 3 27 [(0, .ref x0), (1, .int x1), (2, .int x2), (3, .int x3)] [] M (k27 x0 x1 x2 x3 M)) (x0 : Nat) (x1 : Int32) (x2 : Int32) (x3 : Int32) (M : Mm) : EJ G Y_Hall_least cvI 3 27 [(0, .ref x0), (1, .int x1), (2, .int x2), (3, .int x3)] [] M (Hall_least_B27 k27 x0 x1 x2 x3 M) := by
  unfold Hall_least_B27
  refine EJ_iload_n 28 3 (dk_29 (bt bc_Hall_least_0 27 rfl)) rfl rfl ?_
  refine EJ_aload_n 29 0 (dk_42 (bt bc_Hall_least_0 28 rfl)) rfl rfl ?_
  refine EJ_ck (fun h6 => ?_)
  refine EJ_getR cf11 10 (by decide) 32 tw_210 (fun _ _ _ => rfl) (dk_180 (bt bc_Hall_least_0 29 rfl) (bt bc_Hall_least_0 30 rfl) (bt bc_Hall_least_0 31 rfl) (n := 42) rfl) rfl (of_decide_eq_true h6) (fun b7 => ?_)
  refine EJ_ck (fun h8 => ?_)
  refine EJ_getI cf3 2 (by decide) 35 tw_149 (fun _ _ _ => rfl) (dk_180 (bt bc_Hall_least_1 0 rfl) (bt bc_Hall_least_1 1 rfl) (bt bc_Hall_least_1 2 rfl) (n := 382) rfl) rfl (of_decide_eq_true h8) ?_
  refine EJ_icmp_ge 58 38 (dk_162 (bt bc_Hall_least_1 3 rfl) (bt bc_Hall_least_1 4 rfl) (bt bc_Hall_least_1 5 rfl) (n := 23) rfl) (by decide) rfl (fun _ => ?_) (fun _ => ?_)
  · refine EJ_iload_n 59 2 (dk_28 (bt bc_Hall_least_1 26 rfl)) rfl rfl ?_
    exact EJ_iret rfl (dk_172 (bt bc_Hall_least_1 27 rfl))
  · refine EJ_iload_n 39 2 (dk_28 (bt bc_Hall_least_1 6 rfl)) rfl rfl ?_
    refine EJ_aload_n 40 0 (dk_42 (bt bc_Hall_least_1 7 rfl)) rfl rfl ?_
    refine EJ_getR cf11 10 (by decide) 43 tw_210 (fun _ _ _ => rfl) (dk_180 (bt bc_Hall_least_1 8 rfl) (bt bc_Hall_least_1 9 rfl) (bt bc_Hall_least_1 10 rfl) (n := 42) rfl) rfl (of_decide_eq_true h6) (fun b9 => ?_)
    refine EJ_iload_n 44 3 (dk_29 (bt bc_Hall_least_1 11 rfl)) rfl rfl ?_
    refine EJ_iload_n 45 1 (dk_27 (bt bc_Hall_least_1 12 rfl)) rfl rfl ?_
    refine EJ_ck (fun h10 => ?_)
    refine EJ_callVi (Y2 := Y_House_widest) 48 cf3 (s_House_widest G _ _ _ _) (of_decide_eq_true h10) rfl (dk_182 (bt bc_Hall_least_1 13 rfl) (bt bc_Hall_least_1 14 rfl) (bt bc_Hall_least_1 15 rfl) (n := 385) rfl) rfl tw_1168 tw_1169 tw_1170 tw_1171 hd_House_widest rfl (by decide) (Nat.le_of_ble_eq_true rfl) (fun r11 M12 => ?_)
    refine EJ_callSi (Y2 := Y_Math_max_I) 51 (s_Math_max_I G _ _ _) rfl (dk_184 (bt bc_Hall_least_1 16 rfl) (bt bc_Hall_least_1 17 rfl) (bt bc_Hall_least_1 18 rfl) (n := 389) rfl) rfl tw_1174 tw_559 tw_9 tw_560 hd_Math_max_I rfl (by decide) (Nat.le_of_ble_eq_true rfl) (fun r13 M14 => ?_)
    refine EJ_istore_n 52 (lv2 := [(2, .int _), (0, .ref _), (1, .int _), (3, .int _)]) (dk_61 (bt bc_Hall_least_1 19 rfl)) rfl (by decide) rfl ?_
    refine EJ_iinc 55 3 (lv2 := [(3, .int _), (2, .int _), (0, .ref _), (1, .int _)]) (dk_132 (bt bc_Hall_least_1 20 rfl) (bt bc_Hall_least_1 21 rfl) (bt bc_Hall_least_1 22 rfl) (n := 1) rfl) rfl (by decide) rfl (v := 1) kI_1 rfl ?_
    refine EJ_goto 27 (dk_167 (bt bc_Hall_least_1 23 rfl) (bt bc_Hall_least_1 24 rfl) (bt bc_Hall_least_1 25 rfl) (n := -28) rfl) (by decide) ?_
    exact EJ_pick (lv2 := [(0, .ref _), (1, .int _), (2, .int _), (3, .int _)]) [2, 3, 1, 0] rfl (hk27 _ _ _ _ _)
def Hall_least_L27 (n : Nat) : Nat → Int32 → Int32 → Int32 → Mm → Option (Int32 × Mm) :=
  match n with
  | 0 => fun _ _ _ _ _ => none
  | n + 1 => Hall_least_B27 (Hall_least_L27 n)
theorem e_Hall_least_L27 {G : Gx} : ∀ (n : Nat) (x0 : Nat) (x1 : Int32) (x2 : Int32) (x3 : Int32) (M : Mm), EJ G Y_Hall_least cvI 3 27 [(0, .ref x0), (1, .int x1), (2, .int x2), (3, .int x3)] [] M (Hall_least_L27 n x0 x1 x2 x3 M) := by
  intro n
  induction n with
  | zero => intros; exact EJ_none
  | succ n ih => intro x0 x1 x2 x3 M; exact e_Hall_least_B27 _ ih x0 x1 x2 x3 M
def Hall_least (M : Mm) (a0 : Nat) (a1 : Int32) : Option (Int32 × Mm) :=
  bd (Hall_isWithin M a1 1 10) (fun r1 M2 =>
  if r1 = 0 then (
    some ((-1), M2))
  else (
    ck (kO M2 a0 11 18) (
    nn (mR M2 a0 10) (fun b4 =>
    ck (kO M2 b4 3 7) (
    if 2 ≤ (mI M2 b4 2) then (
      Hall_least_L27 fu a0 a1 0 0 M2)
    else (
      some ((-1), M2)))))))
set_option maxRecDepth 100000 in
set_option maxHeartbeats 4000000 in
theorem s_Hall_least (G : Gx) (M : Mm) (a0 : Nat) (a1 : Int32) : FnS G Y_Hall_least cvI 3 [.ref a0, .int a1] M (Hall_least M a0 a1) := by
  refine FnS.ofE (by decide) (Nat.le_of_ble_eq_true rfl) ?_
  show EJ G Y_Hall_least cvI 3 0 [(0, .ref a0), (1, .int a1)] [] M _
  unfold Hall_least
  refine EJ_iload_n 1 1 (dk_27 (bt bc_Hall_least_0 0 rfl)) rfl rfl ?_
  refine EJ_iconst 2 (dk_4 (bt bc_Hall_least_0 1 rfl)) rfl (v := 1) kI_1 ?_
  refine EJ_bipush 4 (dk_16 (bt bc_Hall_least_0 2 rfl) (bt bc_Hall_least_0 3 rfl) (n := 10) rfl) rfl (v := 10) kB_10 ?_
  refine EJ_callSi (Y2 := Y_Hall_isWithin) 7 (s_Hall_isWithin G _ _ _ _) rfl (dk_184 (bt bc_Hall_least_0 4 rfl) (bt bc_Hall_least_0 5 rfl) (bt bc_Hall_least_0 6 rfl) (n := 80) rfl) rfl tw_292 tw_276 tw_1 tw_277 hd_Hall_isWithin rfl (by decide) (Nat.le_of_ble_eq_true rfl) (fun r1 M2 => ?_)
  refine EJ_if_eq 21 10 (dk_153 (bt bc_Hall_least_0 7 rfl) (bt bc_Hall_least_0 8 rfl) (bt bc_Hall_least_0 9 rfl) (n := 14) rfl) (by decide) rfl (fun _ => ?_) (fun _ => ?_)
  · refine EJ_iconst 22 (dk_2 (bt bc_Hall_least_0 21 rfl)) rfl (v := (-1)) kI_m1 ?_
    exact EJ_iret rfl (dk_172 (bt bc_Hall_least_0 22 rfl))
  · refine EJ_aload_n 11 0 (dk_42 (bt bc_Hall_least_0 10 rfl)) rfl rfl ?_
    refine EJ_ck (fun h3 => ?_)
    refine EJ_getR cf11 10 (by decide) 14 tw_210 (fun _ _ _ => rfl) (dk_180 (bt bc_Hall_least_0 11 rfl) (bt bc_Hall_least_0 12 rfl) (bt bc_Hall_least_0 13 rfl) (n := 42) rfl) rfl (of_decide_eq_true h3) (fun b4 => ?_)
    refine EJ_ck (fun h5 => ?_)
    refine EJ_getI cf3 2 (by decide) 17 tw_149 (fun _ _ _ => rfl) (dk_180 (bt bc_Hall_least_0 14 rfl) (bt bc_Hall_least_0 15 rfl) (bt bc_Hall_least_0 16 rfl) (n := 382) rfl) rfl (of_decide_eq_true h5) ?_
    refine EJ_iconst 18 (dk_5 (bt bc_Hall_least_0 17 rfl)) rfl (v := 2) kI_2 ?_
    refine EJ_icmp_ge 23 21 (dk_162 (bt bc_Hall_least_0 18 rfl) (bt bc_Hall_least_0 19 rfl) (bt bc_Hall_least_0 20 rfl) (n := 5) rfl) (by decide) rfl (fun _ => ?_) (fun _ => ?_)
    · refine EJ_iconst 24 (dk_3 (bt bc_Hall_least_0 23 rfl)) rfl (v := 0) kI_0 ?_
      refine EJ_istore_n 25 (lv2 := [(2, .int _), (0, .ref _), (1, .int _)]) (dk_61 (bt bc_Hall_least_0 24 rfl)) rfl (by decide) rfl ?_
      refine EJ_iconst 26 (dk_3 (bt bc_Hall_least_0 25 rfl)) rfl (v := 0) kI_0 ?_
      refine EJ_istore_n 27 (lv2 := [(3, .int _), (2, .int _), (0, .ref _), (1, .int _)]) (dk_62 (bt bc_Hall_least_0 26 rfl)) rfl (by decide) rfl ?_
      exact EJ_pick (lv2 := [(0, .ref _), (1, .int _), (2, .int _), (3, .int _)]) [2, 3, 1, 0] rfl (e_Hall_least_L27 fu _ _ _ _ _)
    · refine EJ_iconst 22 (dk_2 (bt bc_Hall_least_0 21 rfl)) rfl (v := (-1)) kI_m1 ?_
      exact EJ_iret rfl (dk_172 (bt bc_Hall_least_0 22 rfl))
abbrev Y_Hall_judged : Ym := (⟨"RiceHall", "judged", "(II)I"⟩, prog_1_method_39_code, 5, (some FieldType.int))
theorem bc_Hall_judged_0 : bts prog_1_method_39_code 0 [27, 3, 18, 146, 184, 0, 80, 153, 0, 13, 28, 4, 16, 10, 184, 0, 80, 154, 0, 5, 2, 172, 3, 62, 3, 54, 4, 21, 4, 42, 180, 0] := bts_of (by decide +kernel)
theorem bc_Hall_judged_1 : bts prog_1_method_39_code 32 [42, 180, 1, 126, 162, 0, 26, 42, 180, 0, 42, 21, 4, 28, 182, 1, 129, 27, 164, 0, 6, 132, 3, 1, 132, 4, 1, 167, 255, 224, 29, 172] := bts_of (by decide +kernel)
theorem hd_Hall_judged : Y_Hall_judged.1.cls = RX11 ∧ Y_Hall_judged.1.cls ≠ "java/lang/invoke/MethodHandle" ∧ Y_Hall_judged.1.cls ≠ "java/lang/invoke/VarHandle" ∧ (parseMethodDescriptor Y_Hall_judged.1.desc).map (fun d => d.parameters.length) = some 2 := by decide +kernel
def Hall_judged_J56 (k27 : Nat → Int32 → Int32 → Int32 → Int32 → Mm → Option (Int32 × Mm)) (x0 : Nat) (x1 : Int32) (x2 : Int32) (x3 : Int32) (x4 : Int32) (M : Mm) : Option (Int32 × Mm) :=
  let v12 : Int32 := x4 + 1
  k27 x0 x1 x2 x3 v12 M
set_option maxRecDepth 100000 in
set_option maxHeartbeats 4000000 in
theorem e_Hall_judged_J56 {G : Gx} (k27 : Nat → Int32 → Int32 → Int32 → Int32 → Mm → Option (Int32 × Mm)) (hk27 : ∀ (x0 : Nat) (x1 : Int32) (x2 : Int32) (x3 : Int32) (x4 : Int32) (M : Mm), EJ G Y_Hall_judged cvI 3 27 [(0, .ref x0), (1, .int x1), (2, .int x2), (3, .int x3), (4, .int x4)] [] M (k27 x0 x1 x2 x3 x4 M)) (x0 : Nat) (x1 : Int32) (x2 : Int32) (x3 : Int32) (x4 : Int32) (M : Mm) : EJ G Y_Hall_judged cvI 3 56 [(0, .ref x0), (1, .int x1), (2, .int x2), (3, .int x3), (4, .int x4)] [] M (Hall_judged_J56 k27 x0 x1 x2 x3 x4 M) := by
  unfold Hall_judged_J56
  refine EJ_iinc 59 4 (lv2 := [(4, .int _), (0, .ref _), (1, .int _), (2, .int _), (3, .int _)]) (dk_132 (bt bc_Hall_judged_1 24 rfl) (bt bc_Hall_judged_1 25 rfl) (bt bc_Hall_judged_1 26 rfl) (n := 1) rfl) rfl (by decide) rfl (v := 1) kI_1 rfl ?_
  refine EJ_goto 27 (dk_167 (bt bc_Hall_judged_1 27 rfl) (bt bc_Hall_judged_1 28 rfl) (bt bc_Hall_judged_1 29 rfl) (n := -32) rfl) (by decide) ?_
  exact EJ_pick (lv2 := [(0, .ref _), (1, .int _), (2, .int _), (3, .int _), (4, .int _)]) [1, 2, 3, 4, 0] rfl (hk27 _ _ _ _ _ _)
def Hall_judged_B27 (k27 : Nat → Int32 → Int32 → Int32 → Int32 → Mm → Option (Int32 × Mm)) (x0 : Nat) (x1 : Int32) (x2 : Int32) (x3 : Int32) (x4 : Int32) (M : Mm) : Option (Int32 × Mm) :=
  ck (kO M x0 11 18) (
  nn (mR M x0 10) (fun b6 =>
  ck (kO M b6 3 7) (
  if (mI M b6 2) ≤ x4 then (
    some (x3, M))
  else (
    nn (mR M x0 10) (fun b8 =>
    ck (kO M b8 3 7) (
    bd (House_widest M b8 x4 x2) (fun r10 M11 =>
    if r10 ≤ x1 then (
      Hall_judged_J56 k27 x0 x1 x2 x3 x4 M11)
    else (
      let v13 : Int32 := x3 + 1
      Hall_judged_J56 k27 x0 x1 x2 v13 x4 M11))))))))
set_option maxRecDepth 100000 in
set_option maxHeartbeats 4000000 in
theorem e_Hall_judged_B27 {G : Gx} (k27 : Nat → Int32 → Int32 → Int32 → Int32 → Mm → Option (Int32 × Mm)) (hk27 : ∀ (x0 : Nat) (x1 : Int32) (x2 : Int32) (x3 : Int32) (x4 : Int32) (M : Mm), EJ G Y_Hall_judged cvI 3 27 [(0, .ref x0), (1, .int x1), (2, .int x2), (3, .int x3), (4, .int x4)] [] M (k27 x0 x1 x2 x3 x4 M)) (x0 : Nat) (x1 : Int32) (x2 : Int32) (x3 : Int32) (x4 : Int32) (M : Mm) : EJ G Y_Hall_judged cvI 3 27 [(0, .ref x0), (1, .int x1), (2, .int x2), (3, .int x3), (4, .int x4)] [] M (Hall_judged_B27 k27 x0 x1 x2 x3 x4 M) := by
  unfold Hall_judged_B27
  refine EJ_iload 29 4 (dk_21 (bt bc_Hall_judged_0 27 rfl) (bt bc_Hall_judged_0 28 rfl)) rfl rfl ?_
  refine EJ_aload_n 30 0 (dk_42 (bt bc_Hall_judged_0 29 rfl)) rfl rfl ?_
  refine EJ_ck (fun h5 => ?_)
  refine EJ_getR cf11 10 (by decide) 33 tw_210 (fun _ _ _ => rfl) (dk_180 (bt bc_Hall_judged_0 30 rfl) (bt bc_Hall_judged_0 31 rfl) (bt bc_Hall_judged_1 0 rfl) (n := 42) rfl) rfl (of_decide_eq_true h5) (fun b6 => ?_)
  refine EJ_ck (fun h7 => ?_)
  refine EJ_getI cf3 2 (by decide) 36 tw_149 (fun _ _ _ => rfl) (dk_180 (bt bc_Hall_judged_1 1 rfl) (bt bc_Hall_judged_1 2 rfl) (bt bc_Hall_judged_1 3 rfl) (n := 382) rfl) rfl (of_decide_eq_true h7) ?_
  refine EJ_icmp_ge 62 39 (dk_162 (bt bc_Hall_judged_1 4 rfl) (bt bc_Hall_judged_1 5 rfl) (bt bc_Hall_judged_1 6 rfl) (n := 26) rfl) (by decide) rfl (fun _ => ?_) (fun _ => ?_)
  · refine EJ_iload_n 63 3 (dk_29 (bt bc_Hall_judged_1 30 rfl)) rfl rfl ?_
    exact EJ_iret rfl (dk_172 (bt bc_Hall_judged_1 31 rfl))
  · refine EJ_aload_n 40 0 (dk_42 (bt bc_Hall_judged_1 7 rfl)) rfl rfl ?_
    refine EJ_getR cf11 10 (by decide) 43 tw_210 (fun _ _ _ => rfl) (dk_180 (bt bc_Hall_judged_1 8 rfl) (bt bc_Hall_judged_1 9 rfl) (bt bc_Hall_judged_1 10 rfl) (n := 42) rfl) rfl (of_decide_eq_true h5) (fun b8 => ?_)
    refine EJ_iload 45 4 (dk_21 (bt bc_Hall_judged_1 11 rfl) (bt bc_Hall_judged_1 12 rfl)) rfl rfl ?_
    refine EJ_iload_n 46 2 (dk_28 (bt bc_Hall_judged_1 13 rfl)) rfl rfl ?_
    refine EJ_ck (fun h9 => ?_)
    refine EJ_callVi (Y2 := Y_House_widest) 49 cf3 (s_House_widest G _ _ _ _) (of_decide_eq_true h9) rfl (dk_182 (bt bc_Hall_judged_1 14 rfl) (bt bc_Hall_judged_1 15 rfl) (bt bc_Hall_judged_1 16 rfl) (n := 385) rfl) rfl tw_1168 tw_1169 tw_1170 tw_1171 hd_House_widest rfl (by decide) (Nat.le_of_ble_eq_true rfl) (fun r10 M11 => ?_)
    refine EJ_iload_n 50 1 (dk_27 (bt bc_Hall_judged_1 17 rfl)) rfl rfl ?_
    refine EJ_icmp_le 56 53 (dk_164 (bt bc_Hall_judged_1 18 rfl) (bt bc_Hall_judged_1 19 rfl) (bt bc_Hall_judged_1 20 rfl) (n := 6) rfl) (by decide) rfl (fun _ => ?_) (fun _ => ?_)
    · exact EJ_pick (lv2 := [(0, .ref _), (1, .int _), (2, .int _), (3, .int _), (4, .int _)]) [0, 1, 2, 3, 4] rfl (e_Hall_judged_J56 k27 hk27 _ _ _ _ _ _)
    · refine EJ_iinc 56 3 (lv2 := [(3, .int _), (0, .ref _), (1, .int _), (2, .int _), (4, .int _)]) (dk_132 (bt bc_Hall_judged_1 21 rfl) (bt bc_Hall_judged_1 22 rfl) (bt bc_Hall_judged_1 23 rfl) (n := 1) rfl) rfl (by decide) rfl (v := 1) kI_1 rfl ?_
      exact EJ_pick (lv2 := [(0, .ref _), (1, .int _), (2, .int _), (3, .int _), (4, .int _)]) [1, 2, 3, 0, 4] rfl (e_Hall_judged_J56 k27 hk27 _ _ _ _ _ _)
def Hall_judged_L27 (n : Nat) : Nat → Int32 → Int32 → Int32 → Int32 → Mm → Option (Int32 × Mm) :=
  match n with
  | 0 => fun _ _ _ _ _ _ => none
  | n + 1 => Hall_judged_B27 (Hall_judged_L27 n)
theorem e_Hall_judged_L27 {G : Gx} : ∀ (n : Nat) (x0 : Nat) (x1 : Int32) (x2 : Int32) (x3 : Int32) (x4 : Int32) (M : Mm), EJ G Y_Hall_judged cvI 3 27 [(0, .ref x0), (1, .int x1), (2, .int x2), (3, .int x3), (4, .int x4)] [] M (Hall_judged_L27 n x0 x1 x2 x3 x4 M) := by
  intro n
  induction n with
  | zero => intros; exact EJ_none
  | succ n ih => intro x0 x1 x2 x3 x4 M; exact e_Hall_judged_B27 _ ih x0 x1 x2 x3 x4 M
def Hall_judged (M : Mm) (a0 : Nat) (a1 : Int32) (a2 : Int32) : Option (Int32 × Mm) :=
  bd (Hall_isWithin M a1 0 99999) (fun r1 M2 =>
  if r1 = 0 then (
    some ((-1), M2))
  else (
    bd (Hall_isWithin M2 a2 1 10) (fun r3 M4 =>
    if r3 = 0 then (
      some ((-1), M4))
    else (
      Hall_judged_L27 fu a0 a1 a2 0 0 M4))))
set_option maxRecDepth 100000 in
set_option maxHeartbeats 4000000 in
theorem s_Hall_judged (G : Gx) (M : Mm) (a0 : Nat) (a1 : Int32) (a2 : Int32) : FnS G Y_Hall_judged cvI 3 [.ref a0, .int a1, .int a2] M (Hall_judged M a0 a1 a2) := by
  refine FnS.ofE (by decide) (Nat.le_of_ble_eq_true rfl) ?_
  show EJ G Y_Hall_judged cvI 3 0 [(0, .ref a0), (1, .int a1), (2, .int a2)] [] M _
  unfold Hall_judged
  refine EJ_iload_n 1 1 (dk_27 (bt bc_Hall_judged_0 0 rfl)) rfl rfl ?_
  refine EJ_iconst 2 (dk_3 (bt bc_Hall_judged_0 1 rfl)) rfl (v := 0) kI_0 ?_
  refine EJ_ldc 4 (dk_18 (bt bc_Hall_judged_0 2 rfl) (bt bc_Hall_judged_0 3 rfl)) rfl tw_494 ?_
  refine EJ_callSi (Y2 := Y_Hall_isWithin) 7 (s_Hall_isWithin G _ _ _ _) rfl (dk_184 (bt bc_Hall_judged_0 4 rfl) (bt bc_Hall_judged_0 5 rfl) (bt bc_Hall_judged_0 6 rfl) (n := 80) rfl) rfl tw_292 tw_276 tw_1 tw_277 hd_Hall_isWithin rfl (by decide) (Nat.le_of_ble_eq_true rfl) (fun r1 M2 => ?_)
  refine EJ_if_eq 20 10 (dk_153 (bt bc_Hall_judged_0 7 rfl) (bt bc_Hall_judged_0 8 rfl) (bt bc_Hall_judged_0 9 rfl) (n := 13) rfl) (by decide) rfl (fun _ => ?_) (fun _ => ?_)
  · refine EJ_iconst 21 (dk_2 (bt bc_Hall_judged_0 20 rfl)) rfl (v := (-1)) kI_m1 ?_
    exact EJ_iret rfl (dk_172 (bt bc_Hall_judged_0 21 rfl))
  · refine EJ_iload_n 11 2 (dk_28 (bt bc_Hall_judged_0 10 rfl)) rfl rfl ?_
    refine EJ_iconst 12 (dk_4 (bt bc_Hall_judged_0 11 rfl)) rfl (v := 1) kI_1 ?_
    refine EJ_bipush 14 (dk_16 (bt bc_Hall_judged_0 12 rfl) (bt bc_Hall_judged_0 13 rfl) (n := 10) rfl) rfl (v := 10) kB_10 ?_
    refine EJ_callSi (Y2 := Y_Hall_isWithin) 17 (s_Hall_isWithin G _ _ _ _) rfl (dk_184 (bt bc_Hall_judged_0 14 rfl) (bt bc_Hall_judged_0 15 rfl) (bt bc_Hall_judged_0 16 rfl) (n := 80) rfl) rfl tw_292 tw_276 tw_1 tw_277 hd_Hall_isWithin rfl (by decide) (Nat.le_of_ble_eq_true rfl) (fun r3 M4 => ?_)
    refine EJ_if_ne 22 20 (dk_154 (bt bc_Hall_judged_0 17 rfl) (bt bc_Hall_judged_0 18 rfl) (bt bc_Hall_judged_0 19 rfl) (n := 5) rfl) (by decide) rfl (fun _ => ?_) (fun _ => ?_)
    · refine EJ_iconst 23 (dk_3 (bt bc_Hall_judged_0 22 rfl)) rfl (v := 0) kI_0 ?_
      refine EJ_istore_n 24 (lv2 := [(3, .int _), (0, .ref _), (1, .int _), (2, .int _)]) (dk_62 (bt bc_Hall_judged_0 23 rfl)) rfl (by decide) rfl ?_
      refine EJ_iconst 25 (dk_3 (bt bc_Hall_judged_0 24 rfl)) rfl (v := 0) kI_0 ?_
      refine EJ_istore 27 (lv2 := [(4, .int _), (3, .int _), (0, .ref _), (1, .int _), (2, .int _)]) (dk_54 (bt bc_Hall_judged_0 25 rfl) (bt bc_Hall_judged_0 26 rfl)) rfl (by decide) rfl ?_
      exact EJ_pick (lv2 := [(0, .ref _), (1, .int _), (2, .int _), (3, .int _), (4, .int _)]) [2, 3, 4, 1, 0] rfl (e_Hall_judged_L27 fu _ _ _ _ _ _)
    · refine EJ_iconst 21 (dk_2 (bt bc_Hall_judged_0 20 rfl)) rfl (v := (-1)) kI_m1 ?_
      exact EJ_iret rfl (dk_172 (bt bc_Hall_judged_0 21 rfl))
abbrev Y_Hall_count : Ym := (⟨"RiceHall", "count", "(I)I"⟩, prog_1_method_40_code, 2, (some FieldType.int))
theorem bc_Hall_count_0 : bts prog_1_method_40_code 0 [27, 170, 0, 0, 0, 0, 0, 164, 0, 0, 0, 0, 0, 0, 0, 13, 0, 0, 0, 71, 0, 0, 0, 76, 0, 0, 0, 84, 0, 0, 0, 89] := bts_of (by decide +kernel)
theorem bc_Hall_count_1 : bts prog_1_method_40_code 32 [0, 0, 0, 94, 0, 0, 0, 99, 0, 0, 0, 107, 0, 0, 0, 115, 0, 0, 0, 120, 0, 0, 0, 128, 0, 0, 0, 136, 0, 0, 0, 141] := bts_of (by decide +kernel)
theorem bc_Hall_count_2 : bts prog_1_method_40_code 64 [0, 0, 0, 146, 0, 0, 0, 151, 42, 180, 0, 120, 172, 42, 180, 0, 10, 180, 1, 136, 172, 42, 180, 0, 91, 172, 42, 180, 0, 104, 172, 42] := bts_of (by decide +kernel)
theorem bc_Hall_count_3 : bts prog_1_method_40_code 96 [180, 1, 0, 172, 42, 180, 0, 42, 180, 1, 126, 172, 42, 180, 0, 42, 182, 1, 105, 172, 42, 180, 0, 249, 172, 42, 180, 0, 42, 180, 1, 139] := bts_of (by decide +kernel)
theorem bc_Hall_count_4 : bts prog_1_method_40_code 128 [172, 42, 180, 0, 35, 180, 1, 140, 172, 42, 180, 0, 114, 172, 42, 180, 0, 132, 172, 42, 180, 0, 223, 172, 42, 180, 0, 252, 198, 0, 7, 4] := bts_of (by decide +kernel)
theorem bc_Hall_count_5 : bts prog_1_method_40_code 160 [167, 0, 4, 3, 172, 18, 177, 172] := bts_of (by decide +kernel)
theorem hd_Hall_count : Y_Hall_count.1.cls = RX11 ∧ Y_Hall_count.1.cls ≠ "java/lang/invoke/MethodHandle" ∧ Y_Hall_count.1.cls ≠ "java/lang/invoke/VarHandle" ∧ (parseMethodDescriptor Y_Hall_count.1.desc).map (fun d => d.parameters.length) = some 1 := by decide +kernel
set_option maxRecDepth 100000 in
theorem ds_Hall_count_1 : decode prog_1_method_40_code 1 = .ok (.tableswitch (164) (0) (13) #[71, 76, 84, 89, 94, 99, 107, 115, 120, 128, 136, 141, 146, 151], 71) := by decide +kernel
def Hall_count (M : Mm) (a0 : Nat) (a1 : Int32) : Option (Int32 × Mm) :=
  if a1 = 0 then (
    ck (kO M a0 11 18) (
    some (mI M a0 16, M)))
  else (
  if a1 = 1 then (
    ck (kO M a0 11 18) (
    nn (mR M a0 0) (fun b3 =>
    ck (kO M b3 4 7) (
    some (mI M b3 6, M)))))
  else (
  if a1 = 2 then (
    ck (kO M a0 11 18) (
    some (mI M a0 2, M)))
  else (
  if a1 = 3 then (
    ck (kO M a0 11 18) (
    some (mI M a0 4, M)))
  else (
  if a1 = 4 then (
    ck (kO M a0 11 18) (
    some (mI M a0 13, M)))
  else (
  if a1 = 5 then (
    ck (kO M a0 11 18) (
    nn (mR M a0 10) (fun b9 =>
    ck (kO M b9 3 7) (
    some (mI M b9 2, M)))))
  else (
  if a1 = 6 then (
    ck (kO M a0 11 18) (
    nn (mR M a0 10) (fun b12 =>
    ck (kO M b12 3 7) (
    bd (House_latestClose M b12) (fun r14 M15 =>
    some (r14, M15))))))
  else (
  if a1 = 7 then (
    ck (kO M a0 11 18) (
    some (mI M a0 17, M)))
  else (
  if a1 = 8 then (
    ck (kO M a0 11 18) (
    nn (mR M a0 10) (fun b18 =>
    ck (kO M b18 3 7) (
    some (mI M b18 3, M)))))
  else (
  if a1 = 9 then (
    ck (kO M a0 11 18) (
    nn (mR M a0 9) (fun b21 =>
    ck (kO M b21 5 5) (
    some (mI M b21 3, M)))))
  else (
  if a1 = 10 then (
    ck (kO M a0 11 18) (
    some (mI M a0 5, M)))
  else (
  if a1 = 11 then (
    ck (kO M a0 11 18) (
    some (mI M a0 6, M)))
  else (
  if a1 = 12 then (
    ck (kO M a0 11 18) (
    some (mI M a0 8, M)))
  else (
  if a1 = 13 then (
    ck (kO M a0 11 18) (
    nl (mR M a0 14) (
      some (0, M))
    (fun b27 =>
      some (1, M))))
  else (
  some ((-100000000), M)))))))))))))))
set_option maxRecDepth 100000 in
set_option maxHeartbeats 4000000 in
theorem s_Hall_count (G : Gx) (M : Mm) (a0 : Nat) (a1 : Int32) : FnS G Y_Hall_count cvI 2 [.ref a0, .int a1] M (Hall_count M a0 a1) := by
  refine FnS.ofE (by decide) (Nat.le_of_ble_eq_true rfl) ?_
  show EJ G Y_Hall_count cvI 2 0 [(0, .ref a0), (1, .int a1)] [] M _
  unfold Hall_count
  refine EJ_iload_n 1 1 (dk_27 (bt bc_Hall_count_0 0 rfl)) rfl rfl ?_
  refine EJ_case 0 72 ds_Hall_count_1 (by decide) rfl (by decide) (fun _ => ?_) (fun hc1_0 => ?_)
  · refine EJ_aload_n 73 0 (dk_42 (bt bc_Hall_count_2 8 rfl)) rfl rfl ?_
    refine EJ_ck (fun h1 => ?_)
    refine EJ_getI cf11 16 (by decide) 76 tw_216 (fun _ _ _ => rfl) (dk_180 (bt bc_Hall_count_2 9 rfl) (bt bc_Hall_count_2 10 rfl) (bt bc_Hall_count_2 11 rfl) (n := 120) rfl) rfl (of_decide_eq_true h1) ?_
    exact EJ_iret rfl (dk_172 (bt bc_Hall_count_2 12 rfl))
  refine EJ_case 1 77 ds_Hall_count_1 (by decide) rfl (by decide) (fun _ => ?_) (fun hc1_1 => ?_)
  · refine EJ_aload_n 78 0 (dk_42 (bt bc_Hall_count_2 13 rfl)) rfl rfl ?_
    refine EJ_ck (fun h2 => ?_)
    refine EJ_getR cf11 0 (by decide) 81 tw_200 (fun _ _ _ => rfl) (dk_180 (bt bc_Hall_count_2 14 rfl) (bt bc_Hall_count_2 15 rfl) (bt bc_Hall_count_2 16 rfl) (n := 10) rfl) rfl (of_decide_eq_true h2) (fun b3 => ?_)
    refine EJ_ck (fun h4 => ?_)
    refine EJ_getI cf4 6 (by decide) 84 tw_45 (fun _ _ _ => rfl) (dk_180 (bt bc_Hall_count_2 17 rfl) (bt bc_Hall_count_2 18 rfl) (bt bc_Hall_count_2 19 rfl) (n := 392) rfl) rfl (of_decide_eq_true h4) ?_
    exact EJ_iret rfl (dk_172 (bt bc_Hall_count_2 20 rfl))
  refine EJ_case 2 85 ds_Hall_count_1 (by decide) rfl (by decide) (fun _ => ?_) (fun hc1_2 => ?_)
  · refine EJ_aload_n 86 0 (dk_42 (bt bc_Hall_count_2 21 rfl)) rfl rfl ?_
    refine EJ_ck (fun h5 => ?_)
    refine EJ_getI cf11 2 (by decide) 89 tw_202 (fun _ _ _ => rfl) (dk_180 (bt bc_Hall_count_2 22 rfl) (bt bc_Hall_count_2 23 rfl) (bt bc_Hall_count_2 24 rfl) (n := 91) rfl) rfl (of_decide_eq_true h5) ?_
    exact EJ_iret rfl (dk_172 (bt bc_Hall_count_2 25 rfl))
  refine EJ_case 3 90 ds_Hall_count_1 (by decide) rfl (by decide) (fun _ => ?_) (fun hc1_3 => ?_)
  · refine EJ_aload_n 91 0 (dk_42 (bt bc_Hall_count_2 26 rfl)) rfl rfl ?_
    refine EJ_ck (fun h6 => ?_)
    refine EJ_getI cf11 4 (by decide) 94 tw_204 (fun _ _ _ => rfl) (dk_180 (bt bc_Hall_count_2 27 rfl) (bt bc_Hall_count_2 28 rfl) (bt bc_Hall_count_2 29 rfl) (n := 104) rfl) rfl (of_decide_eq_true h6) ?_
    exact EJ_iret rfl (dk_172 (bt bc_Hall_count_2 30 rfl))
  refine EJ_case 4 95 ds_Hall_count_1 (by decide) rfl (by decide) (fun _ => ?_) (fun hc1_4 => ?_)
  · refine EJ_aload_n 96 0 (dk_42 (bt bc_Hall_count_2 31 rfl)) rfl rfl ?_
    refine EJ_ck (fun h7 => ?_)
    refine EJ_getI cf11 13 (by decide) 99 tw_213 (fun _ _ _ => rfl) (dk_180 (bt bc_Hall_count_3 0 rfl) (bt bc_Hall_count_3 1 rfl) (bt bc_Hall_count_3 2 rfl) (n := 256) rfl) rfl (of_decide_eq_true h7) ?_
    exact EJ_iret rfl (dk_172 (bt bc_Hall_count_3 3 rfl))
  refine EJ_case 5 100 ds_Hall_count_1 (by decide) rfl (by decide) (fun _ => ?_) (fun hc1_5 => ?_)
  · refine EJ_aload_n 101 0 (dk_42 (bt bc_Hall_count_3 4 rfl)) rfl rfl ?_
    refine EJ_ck (fun h8 => ?_)
    refine EJ_getR cf11 10 (by decide) 104 tw_210 (fun _ _ _ => rfl) (dk_180 (bt bc_Hall_count_3 5 rfl) (bt bc_Hall_count_3 6 rfl) (bt bc_Hall_count_3 7 rfl) (n := 42) rfl) rfl (of_decide_eq_true h8) (fun b9 => ?_)
    refine EJ_ck (fun h10 => ?_)
    refine EJ_getI cf3 2 (by decide) 107 tw_149 (fun _ _ _ => rfl) (dk_180 (bt bc_Hall_count_3 8 rfl) (bt bc_Hall_count_3 9 rfl) (bt bc_Hall_count_3 10 rfl) (n := 382) rfl) rfl (of_decide_eq_true h10) ?_
    exact EJ_iret rfl (dk_172 (bt bc_Hall_count_3 11 rfl))
  refine EJ_case 6 108 ds_Hall_count_1 (by decide) rfl (by decide) (fun _ => ?_) (fun hc1_6 => ?_)
  · refine EJ_aload_n 109 0 (dk_42 (bt bc_Hall_count_3 12 rfl)) rfl rfl ?_
    refine EJ_ck (fun h11 => ?_)
    refine EJ_getR cf11 10 (by decide) 112 tw_210 (fun _ _ _ => rfl) (dk_180 (bt bc_Hall_count_3 13 rfl) (bt bc_Hall_count_3 14 rfl) (bt bc_Hall_count_3 15 rfl) (n := 42) rfl) rfl (of_decide_eq_true h11) (fun b12 => ?_)
    refine EJ_ck (fun h13 => ?_)
    refine EJ_callVi (Y2 := Y_House_latestClose) 115 cf3 (s_House_latestClose G _ _) (of_decide_eq_true h13) rfl (dk_182 (bt bc_Hall_count_3 16 rfl) (bt bc_Hall_count_3 17 rfl) (bt bc_Hall_count_3 18 rfl) (n := 361) rfl) rfl tw_511 tw_512 tw_513 tw_514 hd_House_latestClose rfl (by decide) (Nat.le_of_ble_eq_true rfl) (fun r14 M15 => ?_)
    exact EJ_iret rfl (dk_172 (bt bc_Hall_count_3 19 rfl))
  refine EJ_case 7 116 ds_Hall_count_1 (by decide) rfl (by decide) (fun _ => ?_) (fun hc1_7 => ?_)
  · refine EJ_aload_n 117 0 (dk_42 (bt bc_Hall_count_3 20 rfl)) rfl rfl ?_
    refine EJ_ck (fun h16 => ?_)
    refine EJ_getI cf11 17 (by decide) 120 tw_217 (fun _ _ _ => rfl) (dk_180 (bt bc_Hall_count_3 21 rfl) (bt bc_Hall_count_3 22 rfl) (bt bc_Hall_count_3 23 rfl) (n := 249) rfl) rfl (of_decide_eq_true h16) ?_
    exact EJ_iret rfl (dk_172 (bt bc_Hall_count_3 24 rfl))
  refine EJ_case 8 121 ds_Hall_count_1 (by decide) rfl (by decide) (fun _ => ?_) (fun hc1_8 => ?_)
  · refine EJ_aload_n 122 0 (dk_42 (bt bc_Hall_count_3 25 rfl)) rfl rfl ?_
    refine EJ_ck (fun h17 => ?_)
    refine EJ_getR cf11 10 (by decide) 125 tw_210 (fun _ _ _ => rfl) (dk_180 (bt bc_Hall_count_3 26 rfl) (bt bc_Hall_count_3 27 rfl) (bt bc_Hall_count_3 28 rfl) (n := 42) rfl) rfl (of_decide_eq_true h17) (fun b18 => ?_)
    refine EJ_ck (fun h19 => ?_)
    refine EJ_getI cf3 3 (by decide) 128 tw_151 (fun _ _ _ => rfl) (dk_180 (bt bc_Hall_count_3 29 rfl) (bt bc_Hall_count_3 30 rfl) (bt bc_Hall_count_3 31 rfl) (n := 395) rfl) rfl (of_decide_eq_true h19) ?_
    exact EJ_iret rfl (dk_172 (bt bc_Hall_count_4 0 rfl))
  refine EJ_case 9 129 ds_Hall_count_1 (by decide) rfl (by decide) (fun _ => ?_) (fun hc1_9 => ?_)
  · refine EJ_aload_n 130 0 (dk_42 (bt bc_Hall_count_4 1 rfl)) rfl rfl ?_
    refine EJ_ck (fun h20 => ?_)
    refine EJ_getR cf11 9 (by decide) 133 tw_209 (fun _ _ _ => rfl) (dk_180 (bt bc_Hall_count_4 2 rfl) (bt bc_Hall_count_4 3 rfl) (bt bc_Hall_count_4 4 rfl) (n := 35) rfl) rfl (of_decide_eq_true h20) (fun b21 => ?_)
    refine EJ_ck (fun h22 => ?_)
    refine EJ_getI cf5 3 (by decide) 136 tw_126 (fun _ _ _ => rfl) (dk_180 (bt bc_Hall_count_4 5 rfl) (bt bc_Hall_count_4 6 rfl) (bt bc_Hall_count_4 7 rfl) (n := 396) rfl) rfl (of_decide_eq_true h22) ?_
    exact EJ_iret rfl (dk_172 (bt bc_Hall_count_4 8 rfl))
  refine EJ_case 10 137 ds_Hall_count_1 (by decide) rfl (by decide) (fun _ => ?_) (fun hc1_10 => ?_)
  · refine EJ_aload_n 138 0 (dk_42 (bt bc_Hall_count_4 9 rfl)) rfl rfl ?_
    refine EJ_ck (fun h23 => ?_)
    refine EJ_getI cf11 5 (by decide) 141 tw_205 (fun _ _ _ => rfl) (dk_180 (bt bc_Hall_count_4 10 rfl) (bt bc_Hall_count_4 11 rfl) (bt bc_Hall_count_4 12 rfl) (n := 114) rfl) rfl (of_decide_eq_true h23) ?_
    exact EJ_iret rfl (dk_172 (bt bc_Hall_count_4 13 rfl))
  refine EJ_case 11 142 ds_Hall_count_1 (by decide) rfl (by decide) (fun _ => ?_) (fun hc1_11 => ?_)
  · refine EJ_aload_n 143 0 (dk_42 (bt bc_Hall_count_4 14 rfl)) rfl rfl ?_
    refine EJ_ck (fun h24 => ?_)
    refine EJ_getI cf11 6 (by decide) 146 tw_206 (fun _ _ _ => rfl) (dk_180 (bt bc_Hall_count_4 15 rfl) (bt bc_Hall_count_4 16 rfl) (bt bc_Hall_count_4 17 rfl) (n := 132) rfl) rfl (of_decide_eq_true h24) ?_
    exact EJ_iret rfl (dk_172 (bt bc_Hall_count_4 18 rfl))
  refine EJ_case 12 147 ds_Hall_count_1 (by decide) rfl (by decide) (fun _ => ?_) (fun hc1_12 => ?_)
  · refine EJ_aload_n 148 0 (dk_42 (bt bc_Hall_count_4 19 rfl)) rfl rfl ?_
    refine EJ_ck (fun h25 => ?_)
    refine EJ_getI cf11 8 (by decide) 151 tw_208 (fun _ _ _ => rfl) (dk_180 (bt bc_Hall_count_4 20 rfl) (bt bc_Hall_count_4 21 rfl) (bt bc_Hall_count_4 22 rfl) (n := 223) rfl) rfl (of_decide_eq_true h25) ?_
    exact EJ_iret rfl (dk_172 (bt bc_Hall_count_4 23 rfl))
  refine EJ_case 13 152 ds_Hall_count_1 (by decide) rfl (by decide) (fun _ => ?_) (fun hc1_13 => ?_)
  · refine EJ_aload_n 153 0 (dk_42 (bt bc_Hall_count_4 24 rfl)) rfl rfl ?_
    refine EJ_ck (fun h26 => ?_)
    refine EJ_getN cf11 14 (by decide) 156 tw_214 (fun _ _ _ => rfl) (dk_180 (bt bc_Hall_count_4 25 rfl) (bt bc_Hall_count_4 26 rfl) (bt bc_Hall_count_4 27 rfl) (n := 252) rfl) rfl (of_decide_eq_true h26) ?_ (fun b27 => ?_)
    · refine EJ_ifnull_N 163 (dk_198 (bt bc_Hall_count_4 28 rfl) (bt bc_Hall_count_4 29 rfl) (bt bc_Hall_count_4 30 rfl) (n := 7) rfl) (by decide) ?_
      refine EJ_iconst 164 (dk_3 (bt bc_Hall_count_5 3 rfl)) rfl (v := 0) kI_0 ?_
      exact EJ_iret rfl (dk_172 (bt bc_Hall_count_5 4 rfl))
    · refine EJ_ifnull_R 159 (dk_198 (bt bc_Hall_count_4 28 rfl) (bt bc_Hall_count_4 29 rfl) (bt bc_Hall_count_4 30 rfl) (n := 7) rfl) rfl ?_
      refine EJ_iconst 160 (dk_4 (bt bc_Hall_count_4 31 rfl)) rfl (v := 1) kI_1 ?_
      refine EJ_goto 164 (dk_167 (bt bc_Hall_count_5 0 rfl) (bt bc_Hall_count_5 1 rfl) (bt bc_Hall_count_5 2 rfl) (n := 4) rfl) (by decide) ?_
      exact EJ_iret rfl (dk_172 (bt bc_Hall_count_5 4 rfl))
  refine EJ_tabOut 165 ds_Hall_count_1 (tabOut (fun k k1 k2 => by
      rcases (show k = 0 ∨ k = 1 ∨ k = 2 ∨ k = 3 ∨ k = 4 ∨ k = 5 ∨ k = 6 ∨ k = 7 ∨ k = 8 ∨ k = 9 ∨ k = 10 ∨ k = 11 ∨ k = 12 ∨ k = 13 by omega) with rfl | rfl | rfl | rfl | rfl | rfl | rfl | rfl | rfl | rfl | rfl | rfl | rfl | rfl
      · exact hc1_0
      · exact hc1_1
      · exact hc1_2
      · exact hc1_3
      · exact hc1_4
      · exact hc1_5
      · exact hc1_6
      · exact hc1_7
      · exact hc1_8
      · exact hc1_9
      · exact hc1_10
      · exact hc1_11
      · exact hc1_12
      · exact hc1_13)) (by decide) ?_
  refine EJ_ldc 167 (dk_18 (bt bc_Hall_count_5 5 rfl) (bt bc_Hall_count_5 6 rfl)) rfl tw_582 ?_
  exact EJ_iret rfl (dk_172 (bt bc_Hall_count_5 7 rfl))
abbrev Y_Hall_sum : Ym := (⟨"RiceHall", "sum", "(I)J"⟩, prog_1_method_41_code, 2, (some FieldType.long))
theorem bc_Hall_sum_0 : bts prog_1_method_41_code 0 [27, 170, 0, 0, 0, 0, 0, 59, 0, 0, 0, 0, 0, 0, 0, 2, 0, 0, 0, 27, 0, 0, 0, 35, 0, 0, 0, 43, 42, 180, 0, 42] := bts_of (by decide +kernel)
theorem bc_Hall_sum_1 : bts prog_1_method_41_code 32 [180, 0, 217, 173, 42, 180, 0, 42, 180, 0, 220, 173, 42, 180, 0, 42, 42, 180, 0, 18, 42, 180, 0, 91, 182, 1, 143, 173, 20, 1, 147, 173] := bts_of (by decide +kernel)
theorem hd_Hall_sum : Y_Hall_sum.1.cls = RX11 ∧ Y_Hall_sum.1.cls ≠ "java/lang/invoke/MethodHandle" ∧ Y_Hall_sum.1.cls ≠ "java/lang/invoke/VarHandle" ∧ (parseMethodDescriptor Y_Hall_sum.1.desc).map (fun d => d.parameters.length) = some 1 := by decide +kernel
set_option maxRecDepth 100000 in
theorem ds_Hall_sum_1 : decode prog_1_method_41_code 1 = .ok (.tableswitch (59) (0) (2) #[27, 35, 43], 27) := by decide +kernel
def Hall_sum (M : Mm) (a0 : Nat) (a1 : Int32) : Option (Int64 × Mm) :=
  if a1 = 0 then (
    ck (kO M a0 11 18) (
    nn (mR M a0 10) (fun b2 =>
    ck (kO M b2 3 7) (
    some (mL M b2 5, M)))))
  else (
  if a1 = 1 then (
    ck (kO M a0 11 18) (
    nn (mR M a0 10) (fun b5 =>
    ck (kO M b5 3 7) (
    some (mL M b5 6, M)))))
  else (
  if a1 = 2 then (
    ck (kO M a0 11 18) (
    nn (mR M a0 10) (fun b8 =>
    nn (mR M a0 1) (fun b9 =>
    ck (kO M b8 3 7) (
    bd (House_allCoins M b8 b9 (mI M a0 2)) (fun r11 M12 =>
    some (r11, M12)))))))
  else (
  some ((-1), M))))
set_option maxRecDepth 100000 in
set_option maxHeartbeats 4000000 in
theorem s_Hall_sum (G : Gx) (M : Mm) (a0 : Nat) (a1 : Int32) : FnS G Y_Hall_sum cvL 2 [.ref a0, .int a1] M (Hall_sum M a0 a1) := by
  refine FnS.ofE (by decide) (Nat.le_of_ble_eq_true rfl) ?_
  show EJ G Y_Hall_sum cvL 2 0 [(0, .ref a0), (1, .int a1)] [] M _
  unfold Hall_sum
  refine EJ_iload_n 1 1 (dk_27 (bt bc_Hall_sum_0 0 rfl)) rfl rfl ?_
  refine EJ_case 0 28 ds_Hall_sum_1 (by decide) rfl (by decide) (fun _ => ?_) (fun hc1_0 => ?_)
  · refine EJ_aload_n 29 0 (dk_42 (bt bc_Hall_sum_0 28 rfl)) rfl rfl ?_
    refine EJ_ck (fun h1 => ?_)
    refine EJ_getR cf11 10 (by decide) 32 tw_210 (fun _ _ _ => rfl) (dk_180 (bt bc_Hall_sum_0 29 rfl) (bt bc_Hall_sum_0 30 rfl) (bt bc_Hall_sum_0 31 rfl) (n := 42) rfl) rfl (of_decide_eq_true h1) (fun b2 => ?_)
    refine EJ_ck (fun h3 => ?_)
    refine EJ_getL cf3 5 (by decide) 35 tw_154 (fun _ _ _ => rfl) (dk_180 (bt bc_Hall_sum_1 0 rfl) (bt bc_Hall_sum_1 1 rfl) (bt bc_Hall_sum_1 2 rfl) (n := 217) rfl) rfl (of_decide_eq_true h3) ?_
    exact EJ_lret rfl (dk_173 (bt bc_Hall_sum_1 3 rfl))
  refine EJ_case 1 36 ds_Hall_sum_1 (by decide) rfl (by decide) (fun _ => ?_) (fun hc1_1 => ?_)
  · refine EJ_aload_n 37 0 (dk_42 (bt bc_Hall_sum_1 4 rfl)) rfl rfl ?_
    refine EJ_ck (fun h4 => ?_)
    refine EJ_getR cf11 10 (by decide) 40 tw_210 (fun _ _ _ => rfl) (dk_180 (bt bc_Hall_sum_1 5 rfl) (bt bc_Hall_sum_1 6 rfl) (bt bc_Hall_sum_1 7 rfl) (n := 42) rfl) rfl (of_decide_eq_true h4) (fun b5 => ?_)
    refine EJ_ck (fun h6 => ?_)
    refine EJ_getL cf3 6 (by decide) 43 tw_155 (fun _ _ _ => rfl) (dk_180 (bt bc_Hall_sum_1 8 rfl) (bt bc_Hall_sum_1 9 rfl) (bt bc_Hall_sum_1 10 rfl) (n := 220) rfl) rfl (of_decide_eq_true h6) ?_
    exact EJ_lret rfl (dk_173 (bt bc_Hall_sum_1 11 rfl))
  refine EJ_case 2 44 ds_Hall_sum_1 (by decide) rfl (by decide) (fun _ => ?_) (fun hc1_2 => ?_)
  · refine EJ_aload_n 45 0 (dk_42 (bt bc_Hall_sum_1 12 rfl)) rfl rfl ?_
    refine EJ_ck (fun h7 => ?_)
    refine EJ_getR cf11 10 (by decide) 48 tw_210 (fun _ _ _ => rfl) (dk_180 (bt bc_Hall_sum_1 13 rfl) (bt bc_Hall_sum_1 14 rfl) (bt bc_Hall_sum_1 15 rfl) (n := 42) rfl) rfl (of_decide_eq_true h7) (fun b8 => ?_)
    refine EJ_aload_n 49 0 (dk_42 (bt bc_Hall_sum_1 16 rfl)) rfl rfl ?_
    refine EJ_getR cf11 1 (by decide) 52 tw_201 (fun _ _ _ => rfl) (dk_180 (bt bc_Hall_sum_1 17 rfl) (bt bc_Hall_sum_1 18 rfl) (bt bc_Hall_sum_1 19 rfl) (n := 18) rfl) rfl (of_decide_eq_true h7) (fun b9 => ?_)
    refine EJ_aload_n 53 0 (dk_42 (bt bc_Hall_sum_1 20 rfl)) rfl rfl ?_
    refine EJ_getI cf11 2 (by decide) 56 tw_202 (fun _ _ _ => rfl) (dk_180 (bt bc_Hall_sum_1 21 rfl) (bt bc_Hall_sum_1 22 rfl) (bt bc_Hall_sum_1 23 rfl) (n := 91) rfl) rfl (of_decide_eq_true h7) ?_
    refine EJ_ck (fun h10 => ?_)
    refine EJ_callVl (Y2 := Y_House_allCoins) 59 cf3 (s_House_allCoins G _ _ _ _) (of_decide_eq_true h10) rfl (dk_182 (bt bc_Hall_sum_1 24 rfl) (bt bc_Hall_sum_1 25 rfl) (bt bc_Hall_sum_1 26 rfl) (n := 399) rfl) rfl tw_1187 tw_1188 tw_1189 tw_1190 hd_House_allCoins rfl (by decide) (Nat.le_of_ble_eq_true rfl) (fun r11 M12 => ?_)
    exact EJ_lret rfl (dk_173 (bt bc_Hall_sum_1 27 rfl))
  refine EJ_tabOut 60 ds_Hall_sum_1 (tabOut (fun k k1 k2 => by
      rcases (show k = 0 ∨ k = 1 ∨ k = 2 by omega) with rfl | rfl | rfl
      · exact hc1_0
      · exact hc1_1
      · exact hc1_2)) (by decide) ?_
  refine EJ_ldc2 63 (dk_20 (bt bc_Hall_sum_1 28 rfl) (bt bc_Hall_sum_1 29 rfl) (bt bc_Hall_sum_1 30 rfl) (n := 403) rfl) rfl tw_1191 ?_
  exact EJ_lret rfl (dk_173 (bt bc_Hall_sum_1 31 rfl))
