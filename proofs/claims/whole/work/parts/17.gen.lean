abbrev Y_Hall_person : Ym := (⟨"RiceHall", "person", "(I)I"⟩, prog_1_method_6_code, 2, (some FieldType.int))
theorem bc_Hall_person_0 : bts prog_1_method_6_code 0 [42, 180, 0, 10, 27, 182, 0, 75, 153, 0, 12, 42, 180, 0, 91, 16, 16, 161, 0, 5, 2, 172, 42, 180, 0, 18, 42, 180, 0, 91, 187, 0] := bts_of (by decide +kernel)
theorem bc_Hall_person_1 : bts prog_1_method_6_code 32 [16, 89, 27, 183, 0, 95, 83, 42, 89, 180, 0, 91, 4, 96, 181, 0, 91, 42, 180, 0, 91, 4, 100, 172] := bts_of (by decide +kernel)
theorem hd_Hall_person : Y_Hall_person.1.cls = RX11 ∧ Y_Hall_person.1.cls ≠ "java/lang/invoke/MethodHandle" ∧ Y_Hall_person.1.cls ≠ "java/lang/invoke/VarHandle" ∧ (parseMethodDescriptor Y_Hall_person.1.desc).map (fun d => d.parameters.length) = some 1 := by decide +kernel
def Hall_person (M : Mm) (a0 : Nat) (a1 : Int32) : Option (Int32 × Mm) :=
  ck (kO M a0 11 18) (
  nn (mR M a0 0) (fun b2 =>
  ck (kO M b2 4 7) (
  bd (Land_has M b2 a1) (fun r4 M5 =>
  if r4 = 0 then (
    some ((-1), M5))
  else (
    ck (kO M5 a0 11 18) (
    if (mI M5 a0 2) < 16 then (
      nn (mR M5 a0 1) (fun b7 =>
      let M8 := nw M5 6 9
      bd (Person_new M8 (mZ M5) a1) (fun _ M10 =>
      ck (kA M10 b7 24 (mI M5 a0 2)) (
      ck (kO M10 (mZ M5) 6 9) (
      let M13 := sR M10 b7 (ix (mI M5 a0 2)) (some (mZ M5))
      ck (kO M13 a0 11 18) (
      let M15 := sI M13 a0 2 ((mI M13 a0 2) + 1)
      some ((mI M15 a0 2) - 1, M15)))))))
    else (
      some ((-1), M5))))))))
set_option maxRecDepth 100000 in
set_option maxHeartbeats 4000000 in
theorem s_Hall_person (G : Gx) (M : Mm) (a0 : Nat) (a1 : Int32) : FnS G Y_Hall_person cvI 2 [.ref a0, .int a1] M (Hall_person M a0 a1) := by
  refine FnS.ofE (by decide) (Nat.le_of_ble_eq_true rfl) ?_
  show EJ G Y_Hall_person cvI 2 0 [(0, .ref a0), (1, .int a1)] [] M _
  unfold Hall_person
  refine EJ_aload_n 1 0 (dk_42 (bt bc_Hall_person_0 0 rfl)) rfl rfl ?_
  refine EJ_ck (fun h1 => ?_)
  refine EJ_getR cf11 0 (by decide) 4 tw_200 (fun _ _ _ => rfl) (dk_180 (bt bc_Hall_person_0 1 rfl) (bt bc_Hall_person_0 2 rfl) (bt bc_Hall_person_0 3 rfl) (n := 10) rfl) rfl (of_decide_eq_true h1) (fun b2 => ?_)
  refine EJ_iload_n 5 1 (dk_27 (bt bc_Hall_person_0 4 rfl)) rfl rfl ?_
  refine EJ_ck (fun h3 => ?_)
  refine EJ_callVi (Y2 := Y_Land_has) 8 cf4 (s_Land_has G _ _ _) (of_decide_eq_true h3) rfl (dk_182 (bt bc_Hall_person_0 5 rfl) (bt bc_Hall_person_0 6 rfl) (bt bc_Hall_person_0 7 rfl) (n := 75) rfl) rfl tw_290 tw_272 tw_273 tw_274 hd_Land_has rfl (by decide) (Nat.le_of_ble_eq_true rfl) (fun r4 M5 => ?_)
  refine EJ_if_eq 20 11 (dk_153 (bt bc_Hall_person_0 8 rfl) (bt bc_Hall_person_0 9 rfl) (bt bc_Hall_person_0 10 rfl) (n := 12) rfl) (by decide) rfl (fun _ => ?_) (fun _ => ?_)
  · refine EJ_iconst 21 (dk_2 (bt bc_Hall_person_0 20 rfl)) rfl (v := (-1)) kI_m1 ?_
    exact EJ_iret rfl (dk_172 (bt bc_Hall_person_0 21 rfl))
  · refine EJ_aload_n 12 0 (dk_42 (bt bc_Hall_person_0 11 rfl)) rfl rfl ?_
    refine EJ_ck (fun h6 => ?_)
    refine EJ_getI cf11 2 (by decide) 15 tw_202 (fun _ _ _ => rfl) (dk_180 (bt bc_Hall_person_0 12 rfl) (bt bc_Hall_person_0 13 rfl) (bt bc_Hall_person_0 14 rfl) (n := 91) rfl) rfl (of_decide_eq_true h6) ?_
    refine EJ_bipush 17 (dk_16 (bt bc_Hall_person_0 15 rfl) (bt bc_Hall_person_0 16 rfl) (n := 16) rfl) rfl (v := 16) kB_16 ?_
    refine EJ_icmp_lt 22 20 (dk_161 (bt bc_Hall_person_0 17 rfl) (bt bc_Hall_person_0 18 rfl) (bt bc_Hall_person_0 19 rfl) (n := 5) rfl) (by decide) rfl (fun _ => ?_) (fun _ => ?_)
    · refine EJ_aload_n 23 0 (dk_42 (bt bc_Hall_person_0 22 rfl)) rfl rfl ?_
      refine EJ_getR cf11 1 (by decide) 26 tw_201 (fun _ _ _ => rfl) (dk_180 (bt bc_Hall_person_0 23 rfl) (bt bc_Hall_person_0 24 rfl) (bt bc_Hall_person_0 25 rfl) (n := 18) rfl) rfl (of_decide_eq_true h6) (fun b7 => ?_)
      refine EJ_aload_n 27 0 (dk_42 (bt bc_Hall_person_0 26 rfl)) rfl rfl ?_
      refine EJ_getI cf11 2 (by decide) 30 tw_202 (fun _ _ _ => rfl) (dk_180 (bt bc_Hall_person_0 27 rfl) (bt bc_Hall_person_0 28 rfl) (bt bc_Hall_person_0 29 rfl) (n := 91) rfl) rfl (of_decide_eq_true h6) ?_
      refine EJ_new cf6 33 tw_63 (dk_187 (bt bc_Hall_person_0 30 rfl) (bt bc_Hall_person_0 31 rfl) (bt bc_Hall_person_1 0 rfl) (n := 16) rfl) rfl ?_
      refine EJ_dup 34 (dk_89 (bt bc_Hall_person_1 1 rfl)) rfl rfl ?_
      refine EJ_iload_n 35 1 (dk_27 (bt bc_Hall_person_1 2 rfl)) rfl rfl ?_
      refine EJ_callIv (Y2 := Y_Person_new) 38 (s_Person_new G _ _ _) rfl (dk_183 (bt bc_Hall_person_1 3 rfl) (bt bc_Hall_person_1 4 rfl) (bt bc_Hall_person_1 5 rfl) (n := 95) rfl) rfl rfl tw_333 tw_334 tw_10 tw_335 rfl hd_Person_new rfl (by decide) (Nat.le_of_ble_eq_true rfl) (fun _ M10 => ?_)
      refine EJ_ck (fun h11 => ?_)
      refine EJ_ck (fun h12 => ?_)
      refine EJ_aast 4 39 cf6 (by decide) (by decide) rfl h11 (of_decide_eq_true h12) (dk_83 (bt bc_Hall_person_1 6 rfl)) rfl ?_
      refine EJ_aload_n 40 0 (dk_42 (bt bc_Hall_person_1 7 rfl)) rfl rfl ?_
      refine EJ_dup 41 (dk_89 (bt bc_Hall_person_1 8 rfl)) rfl rfl ?_
      refine EJ_ck (fun h14 => ?_)
      refine EJ_getI cf11 2 (by decide) 44 tw_202 (fun _ _ _ => rfl) (dk_180 (bt bc_Hall_person_1 9 rfl) (bt bc_Hall_person_1 10 rfl) (bt bc_Hall_person_1 11 rfl) (n := 91) rfl) rfl (of_decide_eq_true h14) ?_
      refine EJ_iconst 45 (dk_4 (bt bc_Hall_person_1 12 rfl)) rfl (v := 1) kI_1 ?_
      refine EJ_iadd 46 (dk_96 (bt bc_Hall_person_1 13 rfl)) rfl ?_
      refine EJ_putI cf11 2 (by decide) 49 tw_202 rfl (Or.inl rfl) (dk_181 (bt bc_Hall_person_1 14 rfl) (bt bc_Hall_person_1 15 rfl) (bt bc_Hall_person_1 16 rfl) (n := 91) rfl) rfl (of_decide_eq_true h14) ?_
      refine EJ_aload_n 50 0 (dk_42 (bt bc_Hall_person_1 17 rfl)) rfl rfl ?_
      refine EJ_getI cf11 2 (by decide) 53 tw_202 (fun _ _ _ => rfl) (dk_180 (bt bc_Hall_person_1 18 rfl) (bt bc_Hall_person_1 19 rfl) (bt bc_Hall_person_1 20 rfl) (n := 91) rfl) rfl (kp_I (of_decide_eq_true h14)) ?_
      refine EJ_iconst 54 (dk_4 (bt bc_Hall_person_1 21 rfl)) rfl (v := 1) kI_1 ?_
      refine EJ_isub 55 (dk_100 (bt bc_Hall_person_1 22 rfl)) rfl ?_
      exact EJ_iret rfl (dk_172 (bt bc_Hall_person_1 23 rfl))
    · refine EJ_iconst 21 (dk_2 (bt bc_Hall_person_0 20 rfl)) rfl (v := (-1)) kI_m1 ?_
      exact EJ_iret rfl (dk_172 (bt bc_Hall_person_0 21 rfl))
abbrev Y_Hall_minuteHeard : Ym := (⟨"RiceHall", "minuteHeard", "(I)I"⟩, prog_1_method_47_code, 2, (some FieldType.int))
theorem bc_Hall_minuteHeard_0 : bts prog_1_method_47_code 0 [42, 180, 0, 10, 42, 180, 0, 18, 27, 50, 180, 0, 178, 182, 0, 87, 172] := bts_of (by decide +kernel)
theorem hd_Hall_minuteHeard : Y_Hall_minuteHeard.1.cls = RX11 ∧ Y_Hall_minuteHeard.1.cls ≠ "java/lang/invoke/MethodHandle" ∧ Y_Hall_minuteHeard.1.cls ≠ "java/lang/invoke/VarHandle" ∧ (parseMethodDescriptor Y_Hall_minuteHeard.1.desc).map (fun d => d.parameters.length) = some 1 := by decide +kernel
def Hall_minuteHeard (M : Mm) (a0 : Nat) (a1 : Int32) : Option (Int32 × Mm) :=
  ck (kO M a0 11 18) (
  nn (mR M a0 0) (fun b2 =>
  nn (mR M a0 1) (fun b3 =>
  ck (kA M b3 24 a1) (
  nn (mR M b3 (ix a1)) (fun b5 =>
  ck (kO M b5 6 9) (
  ck (kO M b2 4 7) (
  bd (Land_minuteIn M b2 (mI M b5 0)) (fun r8 M9 =>
  some (r8, M9)))))))))
set_option maxRecDepth 100000 in
set_option maxHeartbeats 4000000 in
theorem s_Hall_minuteHeard (G : Gx) (M : Mm) (a0 : Nat) (a1 : Int32) : FnS G Y_Hall_minuteHeard cvI 3 [.ref a0, .int a1] M (Hall_minuteHeard M a0 a1) := by
  refine FnS.ofE (by decide) (Nat.le_of_ble_eq_true rfl) ?_
  show EJ G Y_Hall_minuteHeard cvI 3 0 [(0, .ref a0), (1, .int a1)] [] M _
  unfold Hall_minuteHeard
  refine EJ_aload_n 1 0 (dk_42 (bt bc_Hall_minuteHeard_0 0 rfl)) rfl rfl ?_
  refine EJ_ck (fun h1 => ?_)
  refine EJ_getR cf11 0 (by decide) 4 tw_200 (fun _ _ _ => rfl) (dk_180 (bt bc_Hall_minuteHeard_0 1 rfl) (bt bc_Hall_minuteHeard_0 2 rfl) (bt bc_Hall_minuteHeard_0 3 rfl) (n := 10) rfl) rfl (of_decide_eq_true h1) (fun b2 => ?_)
  refine EJ_aload_n 5 0 (dk_42 (bt bc_Hall_minuteHeard_0 4 rfl)) rfl rfl ?_
  refine EJ_getR cf11 1 (by decide) 8 tw_201 (fun _ _ _ => rfl) (dk_180 (bt bc_Hall_minuteHeard_0 5 rfl) (bt bc_Hall_minuteHeard_0 6 rfl) (bt bc_Hall_minuteHeard_0 7 rfl) (n := 18) rfl) rfl (of_decide_eq_true h1) (fun b3 => ?_)
  refine EJ_iload_n 9 1 (dk_27 (bt bc_Hall_minuteHeard_0 8 rfl)) rfl rfl ?_
  refine EJ_ck (fun h4 => ?_)
  refine EJ_aald 4 10 (by decide) (by decide) rfl h4 (dk_50 (bt bc_Hall_minuteHeard_0 9 rfl)) rfl (fun b5 => ?_)
  refine EJ_ck (fun h6 => ?_)
  refine EJ_getI cf6 0 (by decide) 13 tw_338 (fun _ _ _ => rfl) (dk_180 (bt bc_Hall_minuteHeard_0 10 rfl) (bt bc_Hall_minuteHeard_0 11 rfl) (bt bc_Hall_minuteHeard_0 12 rfl) (n := 178) rfl) rfl (of_decide_eq_true h6) ?_
  refine EJ_ck (fun h7 => ?_)
  refine EJ_callVi (Y2 := Y_Land_minuteIn) 16 cf4 (s_Land_minuteIn G _ _ _) (of_decide_eq_true h7) rfl (dk_182 (bt bc_Hall_minuteHeard_0 13 rfl) (bt bc_Hall_minuteHeard_0 14 rfl) (bt bc_Hall_minuteHeard_0 15 rfl) (n := 87) rfl) rfl tw_324 tw_325 tw_326 tw_327 hd_Land_minuteIn rfl (by decide) (Nat.le_of_ble_eq_true rfl) (fun r8 M9 => ?_)
  exact EJ_iret rfl (dk_172 (bt bc_Hall_minuteHeard_0 16 rfl))
abbrev Y_Hall_heardAhead : Ym := (⟨"RiceHall", "heardAhead", "(I)I"⟩, prog_1_method_48_code, 6, (some FieldType.int))
theorem bc_Hall_heardAhead_0 : bts prog_1_method_48_code 0 [42, 27, 182, 0, 98, 61, 3, 62, 3, 54, 4, 21, 4, 42, 180, 0, 91, 162, 0, 44, 42, 21, 4, 182, 0, 98, 54, 5, 21, 5, 2, 159] := bts_of (by decide +kernel)
theorem bc_Hall_heardAhead_1 : bts prog_1_method_48_code 32 [0, 24, 21, 5, 28, 161, 0, 15, 21, 5, 28, 160, 0, 12, 21, 4, 27, 162, 0, 6, 132, 3, 1, 132, 4, 1, 167, 255, 209, 29, 172] := bts_of (by decide +kernel)
theorem hd_Hall_heardAhead : Y_Hall_heardAhead.1.cls = RX11 ∧ Y_Hall_heardAhead.1.cls ≠ "java/lang/invoke/MethodHandle" ∧ Y_Hall_heardAhead.1.cls ≠ "java/lang/invoke/VarHandle" ∧ (parseMethodDescriptor Y_Hall_heardAhead.1.desc).map (fun d => d.parameters.length) = some 1 := by decide +kernel
def Hall_heardAhead_J55 (k11 : Nat → Int32 → Int32 → Int32 → Int32 → Mm → Option (Int32 × Mm)) (x0 : Nat) (x1 : Int32) (x2 : Int32) (x3 : Int32) (x4 : Int32) (M : Mm) : Option (Int32 × Mm) :=
  let v7 : Int32 := x4 + 1
  k11 x0 x1 x2 x3 v7 M
set_option maxRecDepth 100000 in
set_option maxHeartbeats 4000000 in
theorem e_Hall_heardAhead_J55 {G : Gx} (k11 : Nat → Int32 → Int32 → Int32 → Int32 → Mm → Option (Int32 × Mm)) (hk11 : ∀ (x0 : Nat) (x1 : Int32) (x2 : Int32) (x3 : Int32) (x4 : Int32) (M : Mm), EJ G Y_Hall_heardAhead cvI 4 11 [(0, .ref x0), (1, .int x1), (2, .int x2), (3, .int x3), (4, .int x4)] [] M (k11 x0 x1 x2 x3 x4 M)) (x0 : Nat) (x1 : Int32) (x2 : Int32) (x3 : Int32) (x4 : Int32) (M : Mm) : EJ G Y_Hall_heardAhead cvI 4 55 [(0, .ref x0), (1, .int x1), (2, .int x2), (3, .int x3), (4, .int x4)] [] M (Hall_heardAhead_J55 k11 x0 x1 x2 x3 x4 M) := by
  unfold Hall_heardAhead_J55
  refine EJ_iinc 58 4 (lv2 := [(4, .int _), (0, .ref _), (1, .int _), (2, .int _), (3, .int _)]) (dk_132 (bt bc_Hall_heardAhead_1 23 rfl) (bt bc_Hall_heardAhead_1 24 rfl) (bt bc_Hall_heardAhead_1 25 rfl) (n := 1) rfl) rfl (by decide) rfl (v := 1) kI_1 rfl ?_
  refine EJ_goto 11 (dk_167 (bt bc_Hall_heardAhead_1 26 rfl) (bt bc_Hall_heardAhead_1 27 rfl) (bt bc_Hall_heardAhead_1 28 rfl) (n := -47) rfl) (by decide) ?_
  exact EJ_pick (lv2 := [(0, .ref _), (1, .int _), (2, .int _), (3, .int _), (4, .int _)]) [1, 2, 3, 4, 0] rfl (hk11 _ _ _ _ _ _)
def Hall_heardAhead_J52 (k11 : Nat → Int32 → Int32 → Int32 → Int32 → Mm → Option (Int32 × Mm)) (x0 : Nat) (x1 : Int32) (x2 : Int32) (x3 : Int32) (x4 : Int32) (M : Mm) : Option (Int32 × Mm) :=
  let v8 : Int32 := x3 + 1
  Hall_heardAhead_J55 k11 x0 x1 x2 v8 x4 M
set_option maxRecDepth 100000 in
set_option maxHeartbeats 4000000 in
theorem e_Hall_heardAhead_J52 {G : Gx} (k11 : Nat → Int32 → Int32 → Int32 → Int32 → Mm → Option (Int32 × Mm)) (hk11 : ∀ (x0 : Nat) (x1 : Int32) (x2 : Int32) (x3 : Int32) (x4 : Int32) (M : Mm), EJ G Y_Hall_heardAhead cvI 4 11 [(0, .ref x0), (1, .int x1), (2, .int x2), (3, .int x3), (4, .int x4)] [] M (k11 x0 x1 x2 x3 x4 M)) (x0 : Nat) (x1 : Int32) (x2 : Int32) (x3 : Int32) (x4 : Int32) (M : Mm) : EJ G Y_Hall_heardAhead cvI 4 52 [(0, .ref x0), (1, .int x1), (2, .int x2), (3, .int x3), (4, .int x4)] [] M (Hall_heardAhead_J52 k11 x0 x1 x2 x3 x4 M) := by
  unfold Hall_heardAhead_J52
  refine EJ_iinc 55 3 (lv2 := [(3, .int _), (0, .ref _), (1, .int _), (2, .int _), (4, .int _)]) (dk_132 (bt bc_Hall_heardAhead_1 20 rfl) (bt bc_Hall_heardAhead_1 21 rfl) (bt bc_Hall_heardAhead_1 22 rfl) (n := 1) rfl) rfl (by decide) rfl (v := 1) kI_1 rfl ?_
  exact EJ_pick (lv2 := [(0, .ref _), (1, .int _), (2, .int _), (3, .int _), (4, .int _)]) [1, 2, 3, 0, 4] rfl (e_Hall_heardAhead_J55 k11 hk11 _ _ _ _ _ _)
def Hall_heardAhead_B11 (k11 : Nat → Int32 → Int32 → Int32 → Int32 → Mm → Option (Int32 × Mm)) (x0 : Nat) (x1 : Int32) (x2 : Int32) (x3 : Int32) (x4 : Int32) (M : Mm) : Option (Int32 × Mm) :=
  ck (kO M x0 11 18) (
  if (mI M x0 2) ≤ x4 then (
    some (x3, M))
  else (
    bd (Hall_minuteHeard M x0 x4) (fun r5 M6 =>
    if r5 = (-1) then (
      Hall_heardAhead_J55 k11 x0 x1 x2 x3 x4 M6)
    else (
      if r5 < x2 then (
        Hall_heardAhead_J52 k11 x0 x1 x2 x3 x4 M6)
      else (
        if r5 = x2 then (
          if x1 ≤ x4 then (
            Hall_heardAhead_J55 k11 x0 x1 x2 x3 x4 M6)
          else (
            Hall_heardAhead_J52 k11 x0 x1 x2 x3 x4 M6))
        else (
          Hall_heardAhead_J55 k11 x0 x1 x2 x3 x4 M6))))))
set_option maxRecDepth 100000 in
set_option maxHeartbeats 4000000 in
theorem e_Hall_heardAhead_B11 {G : Gx} (k11 : Nat → Int32 → Int32 → Int32 → Int32 → Mm → Option (Int32 × Mm)) (hk11 : ∀ (x0 : Nat) (x1 : Int32) (x2 : Int32) (x3 : Int32) (x4 : Int32) (M : Mm), EJ G Y_Hall_heardAhead cvI 4 11 [(0, .ref x0), (1, .int x1), (2, .int x2), (3, .int x3), (4, .int x4)] [] M (k11 x0 x1 x2 x3 x4 M)) (x0 : Nat) (x1 : Int32) (x2 : Int32) (x3 : Int32) (x4 : Int32) (M : Mm) : EJ G Y_Hall_heardAhead cvI 4 11 [(0, .ref x0), (1, .int x1), (2, .int x2), (3, .int x3), (4, .int x4)] [] M (Hall_heardAhead_B11 k11 x0 x1 x2 x3 x4 M) := by
  unfold Hall_heardAhead_B11
  refine EJ_iload 13 4 (dk_21 (bt bc_Hall_heardAhead_0 11 rfl) (bt bc_Hall_heardAhead_0 12 rfl)) rfl rfl ?_
  refine EJ_aload_n 14 0 (dk_42 (bt bc_Hall_heardAhead_0 13 rfl)) rfl rfl ?_
  refine EJ_ck (fun h4 => ?_)
  refine EJ_getI cf11 2 (by decide) 17 tw_202 (fun _ _ _ => rfl) (dk_180 (bt bc_Hall_heardAhead_0 14 rfl) (bt bc_Hall_heardAhead_0 15 rfl) (bt bc_Hall_heardAhead_0 16 rfl) (n := 91) rfl) rfl (of_decide_eq_true h4) ?_
  refine EJ_icmp_ge 61 20 (dk_162 (bt bc_Hall_heardAhead_0 17 rfl) (bt bc_Hall_heardAhead_0 18 rfl) (bt bc_Hall_heardAhead_0 19 rfl) (n := 44) rfl) (by decide) rfl (fun _ => ?_) (fun _ => ?_)
  · refine EJ_iload_n 62 3 (dk_29 (bt bc_Hall_heardAhead_1 29 rfl)) rfl rfl ?_
    exact EJ_iret rfl (dk_172 (bt bc_Hall_heardAhead_1 30 rfl))
  · refine EJ_aload_n 21 0 (dk_42 (bt bc_Hall_heardAhead_0 20 rfl)) rfl rfl ?_
    refine EJ_iload 23 4 (dk_21 (bt bc_Hall_heardAhead_0 21 rfl) (bt bc_Hall_heardAhead_0 22 rfl)) rfl rfl ?_
    refine EJ_callVi (Y2 := Y_Hall_minuteHeard) 26 cf11 (s_Hall_minuteHeard G _ _ _) (of_decide_eq_true h4) rfl (dk_182 (bt bc_Hall_heardAhead_0 23 rfl) (bt bc_Hall_heardAhead_0 24 rfl) (bt bc_Hall_heardAhead_0 25 rfl) (n := 98) rfl) rfl tw_383 tw_385 ts_5 tw_386 hd_Hall_minuteHeard rfl (by decide) (Nat.le_of_ble_eq_true rfl) (fun r5 M6 => ?_)
    refine EJ_istore 28 (lv2 := [(5, .int _), (0, .ref _), (1, .int _), (2, .int _), (3, .int _), (4, .int _)]) (dk_54 (bt bc_Hall_heardAhead_0 26 rfl) (bt bc_Hall_heardAhead_0 27 rfl)) rfl (by decide) rfl ?_
    refine EJ_iload 30 0 (dk_21 (bt bc_Hall_heardAhead_0 28 rfl) (bt bc_Hall_heardAhead_0 29 rfl)) rfl rfl ?_
    refine EJ_iconst 31 (dk_2 (bt bc_Hall_heardAhead_0 30 rfl)) rfl (v := (-1)) kI_m1 ?_
    refine EJ_icmp_eq 55 34 (dk_159 (bt bc_Hall_heardAhead_0 31 rfl) (bt bc_Hall_heardAhead_1 0 rfl) (bt bc_Hall_heardAhead_1 1 rfl) (n := 24) rfl) (by decide) rfl (fun _ => ?_) (fun _ => ?_)
    · exact EJ_pick (lv2 := [(0, .ref _), (1, .int _), (2, .int _), (3, .int _), (4, .int _)]) [1, 2, 3, 4, 5] rfl (e_Hall_heardAhead_J55 k11 hk11 _ _ _ _ _ _)
    · refine EJ_iload 36 0 (dk_21 (bt bc_Hall_heardAhead_1 2 rfl) (bt bc_Hall_heardAhead_1 3 rfl)) rfl rfl ?_
      refine EJ_iload_n 37 3 (dk_28 (bt bc_Hall_heardAhead_1 4 rfl)) rfl rfl ?_
      refine EJ_icmp_lt 52 40 (dk_161 (bt bc_Hall_heardAhead_1 5 rfl) (bt bc_Hall_heardAhead_1 6 rfl) (bt bc_Hall_heardAhead_1 7 rfl) (n := 15) rfl) (by decide) rfl (fun _ => ?_) (fun _ => ?_)
      · exact EJ_pick (lv2 := [(0, .ref _), (1, .int _), (2, .int _), (3, .int _), (4, .int _)]) [1, 2, 3, 4, 5] rfl (e_Hall_heardAhead_J52 k11 hk11 _ _ _ _ _ _)
      · refine EJ_iload 42 0 (dk_21 (bt bc_Hall_heardAhead_1 8 rfl) (bt bc_Hall_heardAhead_1 9 rfl)) rfl rfl ?_
        refine EJ_iload_n 43 3 (dk_28 (bt bc_Hall_heardAhead_1 10 rfl)) rfl rfl ?_
        refine EJ_icmp_ne 55 46 (dk_160 (bt bc_Hall_heardAhead_1 11 rfl) (bt bc_Hall_heardAhead_1 12 rfl) (bt bc_Hall_heardAhead_1 13 rfl) (n := 12) rfl) (by decide) rfl (fun _ => ?_) (fun _ => ?_)
        · exact EJ_pick (lv2 := [(0, .ref _), (1, .int _), (2, .int _), (3, .int _), (4, .int _)]) [1, 2, 3, 4, 5] rfl (e_Hall_heardAhead_J55 k11 hk11 _ _ _ _ _ _)
        · refine EJ_iload 48 5 (dk_21 (bt bc_Hall_heardAhead_1 14 rfl) (bt bc_Hall_heardAhead_1 15 rfl)) rfl rfl ?_
          refine EJ_iload_n 49 2 (dk_27 (bt bc_Hall_heardAhead_1 16 rfl)) rfl rfl ?_
          refine EJ_icmp_ge 55 52 (dk_162 (bt bc_Hall_heardAhead_1 17 rfl) (bt bc_Hall_heardAhead_1 18 rfl) (bt bc_Hall_heardAhead_1 19 rfl) (n := 6) rfl) (by decide) rfl (fun _ => ?_) (fun _ => ?_)
          · exact EJ_pick (lv2 := [(0, .ref _), (1, .int _), (2, .int _), (3, .int _), (4, .int _)]) [1, 2, 3, 4, 5] rfl (e_Hall_heardAhead_J55 k11 hk11 _ _ _ _ _ _)
          · exact EJ_pick (lv2 := [(0, .ref _), (1, .int _), (2, .int _), (3, .int _), (4, .int _)]) [1, 2, 3, 4, 5] rfl (e_Hall_heardAhead_J52 k11 hk11 _ _ _ _ _ _)
def Hall_heardAhead_L11 (n : Nat) : Nat → Int32 → Int32 → Int32 → Int32 → Mm → Option (Int32 × Mm) :=
  match n with
  | 0 => fun _ _ _ _ _ _ => none
  | n + 1 => Hall_heardAhead_B11 (Hall_heardAhead_L11 n)
theorem e_Hall_heardAhead_L11 {G : Gx} : ∀ (n : Nat) (x0 : Nat) (x1 : Int32) (x2 : Int32) (x3 : Int32) (x4 : Int32) (M : Mm), EJ G Y_Hall_heardAhead cvI 4 11 [(0, .ref x0), (1, .int x1), (2, .int x2), (3, .int x3), (4, .int x4)] [] M (Hall_heardAhead_L11 n x0 x1 x2 x3 x4 M) := by
  intro n
  induction n with
  | zero => intros; exact EJ_none
  | succ n ih => intro x0 x1 x2 x3 x4 M; exact e_Hall_heardAhead_B11 _ ih x0 x1 x2 x3 x4 M
def Hall_heardAhead (M : Mm) (a0 : Nat) (a1 : Int32) : Option (Int32 × Mm) :=
  ck (kO M a0 11 18) (
  bd (Hall_minuteHeard M a0 a1) (fun r2 M3 =>
  Hall_heardAhead_L11 fu a0 a1 r2 0 0 M3))
set_option maxRecDepth 100000 in
set_option maxHeartbeats 4000000 in
theorem s_Hall_heardAhead (G : Gx) (M : Mm) (a0 : Nat) (a1 : Int32) : FnS G Y_Hall_heardAhead cvI 4 [.ref a0, .int a1] M (Hall_heardAhead M a0 a1) := by
  refine FnS.ofE (by decide) (Nat.le_of_ble_eq_true rfl) ?_
  show EJ G Y_Hall_heardAhead cvI 4 0 [(0, .ref a0), (1, .int a1)] [] M _
  unfold Hall_heardAhead
  refine EJ_aload_n 1 0 (dk_42 (bt bc_Hall_heardAhead_0 0 rfl)) rfl rfl ?_
  refine EJ_iload_n 2 1 (dk_27 (bt bc_Hall_heardAhead_0 1 rfl)) rfl rfl ?_
  refine EJ_ck (fun h1 => ?_)
  refine EJ_callVi (Y2 := Y_Hall_minuteHeard) 5 cf11 (s_Hall_minuteHeard G _ _ _) (of_decide_eq_true h1) rfl (dk_182 (bt bc_Hall_heardAhead_0 2 rfl) (bt bc_Hall_heardAhead_0 3 rfl) (bt bc_Hall_heardAhead_0 4 rfl) (n := 98) rfl) rfl tw_383 tw_385 ts_5 tw_386 hd_Hall_minuteHeard rfl (by decide) (Nat.le_of_ble_eq_true rfl) (fun r2 M3 => ?_)
  refine EJ_istore_n 6 (lv2 := [(2, .int _), (0, .ref _), (1, .int _)]) (dk_61 (bt bc_Hall_heardAhead_0 5 rfl)) rfl (by decide) rfl ?_
  refine EJ_iconst 7 (dk_3 (bt bc_Hall_heardAhead_0 6 rfl)) rfl (v := 0) kI_0 ?_
  refine EJ_istore_n 8 (lv2 := [(3, .int _), (2, .int _), (0, .ref _), (1, .int _)]) (dk_62 (bt bc_Hall_heardAhead_0 7 rfl)) rfl (by decide) rfl ?_
  refine EJ_iconst 9 (dk_3 (bt bc_Hall_heardAhead_0 8 rfl)) rfl (v := 0) kI_0 ?_
  refine EJ_istore 11 (lv2 := [(4, .int _), (3, .int _), (2, .int _), (0, .ref _), (1, .int _)]) (dk_54 (bt bc_Hall_heardAhead_0 9 rfl) (bt bc_Hall_heardAhead_0 10 rfl)) rfl (by decide) rfl ?_
  exact EJ_pick (lv2 := [(0, .ref _), (1, .int _), (2, .int _), (3, .int _), (4, .int _)]) [3, 4, 2, 1, 0] rfl (e_Hall_heardAhead_L11 fu _ _ _ _ _ _)
abbrev Y_Hall_hears : Ym := (⟨"RiceHall", "hears", "(III)I"⟩, prog_1_method_7_code, 5, (some FieldType.int))
theorem bc_Hall_hears_0 : bts prog_1_method_7_code 0 [42, 180, 0, 10, 27, 182, 0, 75, 153, 0, 27, 28, 3, 18, 79, 184, 0, 80, 153, 0, 17, 29, 3, 42, 180, 0, 91, 4, 100, 184, 0, 80] := bts_of (by decide +kernel)
theorem bc_Hall_hears_1 : bts prog_1_method_7_code 32 [154, 0, 5, 2, 172, 42, 180, 0, 10, 27, 28, 182, 0, 83, 3, 54, 4, 21, 4, 42, 180, 0, 91, 162, 0, 32, 42, 21, 4, 182, 0, 98] := bts_of (by decide +kernel)
theorem bc_Hall_hears_2 : bts prog_1_method_7_code 64 [2, 159, 0, 16, 42, 21, 4, 182, 0, 101, 29, 160, 0, 6, 21, 4, 172, 132, 4, 1, 167, 255, 221, 2, 172] := bts_of (by decide +kernel)
theorem hd_Hall_hears : Y_Hall_hears.1.cls = RX11 ∧ Y_Hall_hears.1.cls ≠ "java/lang/invoke/MethodHandle" ∧ Y_Hall_hears.1.cls ≠ "java/lang/invoke/VarHandle" ∧ (parseMethodDescriptor Y_Hall_hears.1.desc).map (fun d => d.parameters.length) = some 3 := by decide +kernel
def Hall_hears_J81 (k49 : Nat → Int32 → Int32 → Mm → Option (Int32 × Mm)) (x0 : Nat) (x3 : Int32) (x4 : Int32) (M : Mm) : Option (Int32 × Mm) :=
  let v19 : Int32 := x4 + 1
  k49 x0 x3 v19 M
set_option maxRecDepth 100000 in
set_option maxHeartbeats 4000000 in
theorem e_Hall_hears_J81 {G : Gx} (k49 : Nat → Int32 → Int32 → Mm → Option (Int32 × Mm)) (hk49 : ∀ (x0 : Nat) (x3 : Int32) (x4 : Int32) (M : Mm), EJ G Y_Hall_hears cvI 6 49 [(0, .ref x0), (3, .int x3), (4, .int x4)] [] M (k49 x0 x3 x4 M)) (x0 : Nat) (x3 : Int32) (x4 : Int32) (M : Mm) : EJ G Y_Hall_hears cvI 6 81 [(0, .ref x0), (3, .int x3), (4, .int x4)] [] M (Hall_hears_J81 k49 x0 x3 x4 M) := by
  unfold Hall_hears_J81
  refine EJ_iinc 84 2 (lv2 := [(4, .int _), (0, .ref _), (3, .int _)]) (dk_132 (bt bc_Hall_hears_2 17 rfl) (bt bc_Hall_hears_2 18 rfl) (bt bc_Hall_hears_2 19 rfl) (n := 1) rfl) rfl (by decide) rfl (v := 1) kI_1 rfl ?_
  refine EJ_goto 49 (dk_167 (bt bc_Hall_hears_2 20 rfl) (bt bc_Hall_hears_2 21 rfl) (bt bc_Hall_hears_2 22 rfl) (n := -35) rfl) (by decide) ?_
  exact EJ_pick (lv2 := [(0, .ref _), (3, .int _), (4, .int _)]) [1, 2, 0] rfl (hk49 _ _ _ _)
def Hall_hears_B49 (k49 : Nat → Int32 → Int32 → Mm → Option (Int32 × Mm)) (x0 : Nat) (x3 : Int32) (x4 : Int32) (M : Mm) : Option (Int32 × Mm) :=
  ck (kO M x0 11 18) (
  if (mI M x0 2) ≤ x4 then (
    some ((-1), M))
  else (
    bd (Hall_minuteHeard M x0 x4) (fun r17 M18 =>
    if r17 = (-1) then (
      Hall_hears_J81 k49 x0 x3 x4 M18)
    else (
      ck (kO M18 x0 11 18) (
      bd (Hall_heardAhead M18 x0 x4) (fun r21 M22 =>
      if r21 = x3 then (
        some (x4, M22))
      else (
        Hall_hears_J81 k49 x0 x3 x4 M22)))))))
set_option maxRecDepth 100000 in
set_option maxHeartbeats 4000000 in
theorem e_Hall_hears_B49 {G : Gx} (k49 : Nat → Int32 → Int32 → Mm → Option (Int32 × Mm)) (hk49 : ∀ (x0 : Nat) (x3 : Int32) (x4 : Int32) (M : Mm), EJ G Y_Hall_hears cvI 6 49 [(0, .ref x0), (3, .int x3), (4, .int x4)] [] M (k49 x0 x3 x4 M)) (x0 : Nat) (x3 : Int32) (x4 : Int32) (M : Mm) : EJ G Y_Hall_hears cvI 6 49 [(0, .ref x0), (3, .int x3), (4, .int x4)] [] M (Hall_hears_B49 k49 x0 x3 x4 M) := by
  unfold Hall_hears_B49
  refine EJ_iload 51 2 (dk_21 (bt bc_Hall_hears_1 17 rfl) (bt bc_Hall_hears_1 18 rfl)) rfl rfl ?_
  refine EJ_aload_n 52 0 (dk_42 (bt bc_Hall_hears_1 19 rfl)) rfl rfl ?_
  refine EJ_ck (fun h16 => ?_)
  refine EJ_getI cf11 2 (by decide) 55 tw_202 (fun _ _ _ => rfl) (dk_180 (bt bc_Hall_hears_1 20 rfl) (bt bc_Hall_hears_1 21 rfl) (bt bc_Hall_hears_1 22 rfl) (n := 91) rfl) rfl (of_decide_eq_true h16) ?_
  refine EJ_icmp_ge 87 58 (dk_162 (bt bc_Hall_hears_1 23 rfl) (bt bc_Hall_hears_1 24 rfl) (bt bc_Hall_hears_1 25 rfl) (n := 32) rfl) (by decide) rfl (fun _ => ?_) (fun _ => ?_)
  · refine EJ_iconst 88 (dk_2 (bt bc_Hall_hears_2 23 rfl)) rfl (v := (-1)) kI_m1 ?_
    exact EJ_iret rfl (dk_172 (bt bc_Hall_hears_2 24 rfl))
  · refine EJ_aload_n 59 0 (dk_42 (bt bc_Hall_hears_1 26 rfl)) rfl rfl ?_
    refine EJ_iload 61 2 (dk_21 (bt bc_Hall_hears_1 27 rfl) (bt bc_Hall_hears_1 28 rfl)) rfl rfl ?_
    refine EJ_callVi (Y2 := Y_Hall_minuteHeard) 64 cf11 (s_Hall_minuteHeard G _ _ _) (of_decide_eq_true h16) rfl (dk_182 (bt bc_Hall_hears_1 29 rfl) (bt bc_Hall_hears_1 30 rfl) (bt bc_Hall_hears_1 31 rfl) (n := 98) rfl) rfl tw_383 tw_385 ts_5 tw_386 hd_Hall_minuteHeard rfl (by decide) (Nat.le_of_ble_eq_true rfl) (fun r17 M18 => ?_)
    refine EJ_iconst 65 (dk_2 (bt bc_Hall_hears_2 0 rfl)) rfl (v := (-1)) kI_m1 ?_
    refine EJ_icmp_eq 81 68 (dk_159 (bt bc_Hall_hears_2 1 rfl) (bt bc_Hall_hears_2 2 rfl) (bt bc_Hall_hears_2 3 rfl) (n := 16) rfl) (by decide) rfl (fun _ => ?_) (fun _ => ?_)
    · exact EJ_pick (lv2 := [(0, .ref _), (3, .int _), (4, .int _)]) [0, 1, 2] rfl (e_Hall_hears_J81 k49 hk49 _ _ _ _)
    · refine EJ_aload_n 69 0 (dk_42 (bt bc_Hall_hears_2 4 rfl)) rfl rfl ?_
      refine EJ_iload 71 2 (dk_21 (bt bc_Hall_hears_2 5 rfl) (bt bc_Hall_hears_2 6 rfl)) rfl rfl ?_
      refine EJ_ck (fun h20 => ?_)
      refine EJ_callVi (Y2 := Y_Hall_heardAhead) 74 cf11 (s_Hall_heardAhead G _ _ _) (of_decide_eq_true h20) rfl (dk_182 (bt bc_Hall_hears_2 7 rfl) (bt bc_Hall_hears_2 8 rfl) (bt bc_Hall_hears_2 9 rfl) (n := 101) rfl) rfl tw_387 tw_389 ts_6 tw_390 hd_Hall_heardAhead rfl (by decide) (Nat.le_of_ble_eq_true rfl) (fun r21 M22 => ?_)
      refine EJ_iload_n 75 1 (dk_29 (bt bc_Hall_hears_2 10 rfl)) rfl rfl ?_
      refine EJ_icmp_ne 81 78 (dk_160 (bt bc_Hall_hears_2 11 rfl) (bt bc_Hall_hears_2 12 rfl) (bt bc_Hall_hears_2 13 rfl) (n := 6) rfl) (by decide) rfl (fun _ => ?_) (fun _ => ?_)
      · exact EJ_pick (lv2 := [(0, .ref _), (3, .int _), (4, .int _)]) [0, 1, 2] rfl (e_Hall_hears_J81 k49 hk49 _ _ _ _)
      · refine EJ_iload 80 2 (dk_21 (bt bc_Hall_hears_2 14 rfl) (bt bc_Hall_hears_2 15 rfl)) rfl rfl ?_
        exact EJ_iret rfl (dk_172 (bt bc_Hall_hears_2 16 rfl))
def Hall_hears_L49 (n : Nat) : Nat → Int32 → Int32 → Mm → Option (Int32 × Mm) :=
  match n with
  | 0 => fun _ _ _ _ => none
  | n + 1 => Hall_hears_B49 (Hall_hears_L49 n)
theorem e_Hall_hears_L49 {G : Gx} : ∀ (n : Nat) (x0 : Nat) (x3 : Int32) (x4 : Int32) (M : Mm), EJ G Y_Hall_hears cvI 6 49 [(0, .ref x0), (3, .int x3), (4, .int x4)] [] M (Hall_hears_L49 n x0 x3 x4 M) := by
  intro n
  induction n with
  | zero => intros; exact EJ_none
  | succ n ih => intro x0 x3 x4 M; exact e_Hall_hears_B49 _ ih x0 x3 x4 M
def Hall_hears (M : Mm) (a0 : Nat) (a1 : Int32) (a2 : Int32) (a3 : Int32) : Option (Int32 × Mm) :=
  ck (kO M a0 11 18) (
  nn (mR M a0 0) (fun b2 =>
  ck (kO M b2 4 7) (
  bd (Land_has M b2 a1) (fun r4 M5 =>
  if r4 = 0 then (
    some ((-1), M5))
  else (
    bd (Hall_isWithin M5 a2 0 57600) (fun r6 M7 =>
    if r6 = 0 then (
      some ((-1), M7))
    else (
      ck (kO M7 a0 11 18) (
      bd (Hall_isWithin M7 a3 0 ((mI M7 a0 2) - 1)) (fun r9 M10 =>
      if r9 = 0 then (
        some ((-1), M10))
      else (
        ck (kO M10 a0 11 18) (
        nn (mR M10 a0 0) (fun b12 =>
        ck (kO M10 b12 4 7) (
        bd (Land_spread M10 b12 a1 a2) (fun _ M15 =>
        Hall_hears_L49 fu a0 a3 0 M15))))))))))))))
set_option maxRecDepth 100000 in
set_option maxHeartbeats 4000000 in
theorem s_Hall_hears (G : Gx) (M : Mm) (a0 : Nat) (a1 : Int32) (a2 : Int32) (a3 : Int32) : FnS G Y_Hall_hears cvI 6 [.ref a0, .int a1, .int a2, .int a3] M (Hall_hears M a0 a1 a2 a3) := by
  refine FnS.ofE (by decide) (Nat.le_of_ble_eq_true rfl) ?_
  show EJ G Y_Hall_hears cvI 6 0 [(0, .ref a0), (1, .int a1), (2, .int a2), (3, .int a3)] [] M _
  unfold Hall_hears
  refine EJ_aload_n 1 0 (dk_42 (bt bc_Hall_hears_0 0 rfl)) rfl rfl ?_
  refine EJ_ck (fun h1 => ?_)
  refine EJ_getR cf11 0 (by decide) 4 tw_200 (fun _ _ _ => rfl) (dk_180 (bt bc_Hall_hears_0 1 rfl) (bt bc_Hall_hears_0 2 rfl) (bt bc_Hall_hears_0 3 rfl) (n := 10) rfl) rfl (of_decide_eq_true h1) (fun b2 => ?_)
  refine EJ_iload_n 5 1 (dk_27 (bt bc_Hall_hears_0 4 rfl)) rfl rfl ?_
  refine EJ_ck (fun h3 => ?_)
  refine EJ_callVi (Y2 := Y_Land_has) 8 cf4 (s_Land_has G _ _ _) (of_decide_eq_true h3) rfl (dk_182 (bt bc_Hall_hears_0 5 rfl) (bt bc_Hall_hears_0 6 rfl) (bt bc_Hall_hears_0 7 rfl) (n := 75) rfl) rfl tw_290 tw_272 tw_273 tw_274 hd_Land_has rfl (by decide) (Nat.le_of_ble_eq_true rfl) (fun r4 M5 => ?_)
  refine EJ_if_eq 35 11 (dk_153 (bt bc_Hall_hears_0 8 rfl) (bt bc_Hall_hears_0 9 rfl) (bt bc_Hall_hears_0 10 rfl) (n := 27) rfl) (by decide) rfl (fun _ => ?_) (fun _ => ?_)
  · refine EJ_iconst 36 (dk_2 (bt bc_Hall_hears_1 3 rfl)) rfl (v := (-1)) kI_m1 ?_
    exact EJ_iret rfl (dk_172 (bt bc_Hall_hears_1 4 rfl))
  · refine EJ_iload_n 12 2 (dk_28 (bt bc_Hall_hears_0 11 rfl)) rfl rfl ?_
    refine EJ_iconst 13 (dk_3 (bt bc_Hall_hears_0 12 rfl)) rfl (v := 0) kI_0 ?_
    refine EJ_ldc 15 (dk_18 (bt bc_Hall_hears_0 13 rfl) (bt bc_Hall_hears_0 14 rfl)) rfl tw_291 ?_
    refine EJ_callSi (Y2 := Y_Hall_isWithin) 18 (s_Hall_isWithin G _ _ _ _) rfl (dk_184 (bt bc_Hall_hears_0 15 rfl) (bt bc_Hall_hears_0 16 rfl) (bt bc_Hall_hears_0 17 rfl) (n := 80) rfl) rfl tw_292 tw_276 tw_1 tw_277 hd_Hall_isWithin rfl (by decide) (Nat.le_of_ble_eq_true rfl) (fun r6 M7 => ?_)
    refine EJ_if_eq 35 21 (dk_153 (bt bc_Hall_hears_0 18 rfl) (bt bc_Hall_hears_0 19 rfl) (bt bc_Hall_hears_0 20 rfl) (n := 17) rfl) (by decide) rfl (fun _ => ?_) (fun _ => ?_)
    · refine EJ_iconst 36 (dk_2 (bt bc_Hall_hears_1 3 rfl)) rfl (v := (-1)) kI_m1 ?_
      exact EJ_iret rfl (dk_172 (bt bc_Hall_hears_1 4 rfl))
    · refine EJ_iload_n 22 3 (dk_29 (bt bc_Hall_hears_0 21 rfl)) rfl rfl ?_
      refine EJ_iconst 23 (dk_3 (bt bc_Hall_hears_0 22 rfl)) rfl (v := 0) kI_0 ?_
      refine EJ_aload_n 24 0 (dk_42 (bt bc_Hall_hears_0 23 rfl)) rfl rfl ?_
      refine EJ_ck (fun h8 => ?_)
      refine EJ_getI cf11 2 (by decide) 27 tw_202 (fun _ _ _ => rfl) (dk_180 (bt bc_Hall_hears_0 24 rfl) (bt bc_Hall_hears_0 25 rfl) (bt bc_Hall_hears_0 26 rfl) (n := 91) rfl) rfl (of_decide_eq_true h8) ?_
      refine EJ_iconst 28 (dk_4 (bt bc_Hall_hears_0 27 rfl)) rfl (v := 1) kI_1 ?_
      refine EJ_isub 29 (dk_100 (bt bc_Hall_hears_0 28 rfl)) rfl ?_
      refine EJ_callSi (Y2 := Y_Hall_isWithin) 32 (s_Hall_isWithin G _ _ _ _) rfl (dk_184 (bt bc_Hall_hears_0 29 rfl) (bt bc_Hall_hears_0 30 rfl) (bt bc_Hall_hears_0 31 rfl) (n := 80) rfl) rfl tw_292 tw_276 tw_1 tw_277 hd_Hall_isWithin rfl (by decide) (Nat.le_of_ble_eq_true rfl) (fun r9 M10 => ?_)
      refine EJ_if_ne 37 35 (dk_154 (bt bc_Hall_hears_1 0 rfl) (bt bc_Hall_hears_1 1 rfl) (bt bc_Hall_hears_1 2 rfl) (n := 5) rfl) (by decide) rfl (fun _ => ?_) (fun _ => ?_)
      · refine EJ_aload_n 38 0 (dk_42 (bt bc_Hall_hears_1 5 rfl)) rfl rfl ?_
        refine EJ_ck (fun h11 => ?_)
        refine EJ_getR cf11 0 (by decide) 41 tw_200 (fun _ _ _ => rfl) (dk_180 (bt bc_Hall_hears_1 6 rfl) (bt bc_Hall_hears_1 7 rfl) (bt bc_Hall_hears_1 8 rfl) (n := 10) rfl) rfl (of_decide_eq_true h11) (fun b12 => ?_)
        refine EJ_iload_n 42 1 (dk_27 (bt bc_Hall_hears_1 9 rfl)) rfl rfl ?_
        refine EJ_iload_n 43 2 (dk_28 (bt bc_Hall_hears_1 10 rfl)) rfl rfl ?_
        refine EJ_ck (fun h13 => ?_)
        refine EJ_callVv (Y2 := Y_Land_spread) 46 cf4 (s_Land_spread G _ _ _ _) (of_decide_eq_true h13) rfl (dk_182 (bt bc_Hall_hears_1 11 rfl) (bt bc_Hall_hears_1 12 rfl) (bt bc_Hall_hears_1 13 rfl) (n := 83) rfl) rfl tw_293 tw_294 tw_295 tw_296 hd_Land_spread rfl (by decide) (Nat.le_of_ble_eq_true rfl) (fun _ M15 => ?_)
        refine EJ_iconst 47 (dk_3 (bt bc_Hall_hears_1 14 rfl)) rfl (v := 0) kI_0 ?_
        refine EJ_istore 49 (lv2 := [(4, .int _), (0, .ref _), (1, .int _), (2, .int _), (3, .int _)]) (dk_54 (bt bc_Hall_hears_1 15 rfl) (bt bc_Hall_hears_1 16 rfl)) rfl (by decide) rfl ?_
        exact EJ_pick (lv2 := [(0, .ref _), (3, .int _), (4, .int _)]) [1, 4, 0] rfl (e_Hall_hears_L49 fu _ _ _ _)
      · refine EJ_iconst 36 (dk_2 (bt bc_Hall_hears_1 3 rfl)) rfl (v := (-1)) kI_m1 ?_
        exact EJ_iret rfl (dk_172 (bt bc_Hall_hears_1 4 rfl))
abbrev Y_Hall_store : Ym := (⟨"RiceHall", "store", "()I"⟩, prog_1_method_8_code, 1, (some FieldType.int))
theorem bc_Hall_store_0 : bts prog_1_method_8_code 0 [42, 180, 0, 104, 7, 161, 0, 5, 2, 172, 42, 180, 0, 24, 42, 180, 0, 104, 187, 0, 22, 89, 183, 0, 107, 83, 42, 89, 180, 0, 104, 4] := bts_of (by decide +kernel)
theorem bc_Hall_store_1 : bts prog_1_method_8_code 32 [96, 181, 0, 104, 42, 180, 0, 104, 4, 100, 172] := bts_of (by decide +kernel)
theorem hd_Hall_store : Y_Hall_store.1.cls = RX11 ∧ Y_Hall_store.1.cls ≠ "java/lang/invoke/MethodHandle" ∧ Y_Hall_store.1.cls ≠ "java/lang/invoke/VarHandle" ∧ (parseMethodDescriptor Y_Hall_store.1.desc).map (fun d => d.parameters.length) = some 0 := by decide +kernel
def Hall_store (M : Mm) (a0 : Nat) : Option (Int32 × Mm) :=
  ck (kO M a0 11 18) (
  if (mI M a0 4) < 4 then (
    nn (mR M a0 3) (fun b2 =>
    let M3 := nw M 10 14
    bd (Store_new M3 (mZ M)) (fun _ M5 =>
    ck (kA M5 b2 25 (mI M a0 4)) (
    ck (kO M5 (mZ M) 10 14) (
    let M8 := sR M5 b2 (ix (mI M a0 4)) (some (mZ M))
    ck (kO M8 a0 11 18) (
    let M10 := sI M8 a0 4 ((mI M8 a0 4) + 1)
    some ((mI M10 a0 4) - 1, M10)))))))
  else (
    some ((-1), M)))
set_option maxRecDepth 100000 in
set_option maxHeartbeats 4000000 in
theorem s_Hall_store (G : Gx) (M : Mm) (a0 : Nat) : FnS G Y_Hall_store cvI 2 [.ref a0] M (Hall_store M a0) := by
  refine FnS.ofE (by decide) (Nat.le_of_ble_eq_true rfl) ?_
  show EJ G Y_Hall_store cvI 2 0 [(0, .ref a0)] [] M _
  unfold Hall_store
  refine EJ_aload_n 1 0 (dk_42 (bt bc_Hall_store_0 0 rfl)) rfl rfl ?_
  refine EJ_ck (fun h1 => ?_)
  refine EJ_getI cf11 4 (by decide) 4 tw_204 (fun _ _ _ => rfl) (dk_180 (bt bc_Hall_store_0 1 rfl) (bt bc_Hall_store_0 2 rfl) (bt bc_Hall_store_0 3 rfl) (n := 104) rfl) rfl (of_decide_eq_true h1) ?_
  refine EJ_iconst 5 (dk_7 (bt bc_Hall_store_0 4 rfl)) rfl (v := 4) kI_4 ?_
  refine EJ_icmp_lt 10 8 (dk_161 (bt bc_Hall_store_0 5 rfl) (bt bc_Hall_store_0 6 rfl) (bt bc_Hall_store_0 7 rfl) (n := 5) rfl) (by decide) rfl (fun _ => ?_) (fun _ => ?_)
  · refine EJ_aload_n 11 0 (dk_42 (bt bc_Hall_store_0 10 rfl)) rfl rfl ?_
    refine EJ_getR cf11 3 (by decide) 14 tw_203 (fun _ _ _ => rfl) (dk_180 (bt bc_Hall_store_0 11 rfl) (bt bc_Hall_store_0 12 rfl) (bt bc_Hall_store_0 13 rfl) (n := 24) rfl) rfl (of_decide_eq_true h1) (fun b2 => ?_)
    refine EJ_aload_n 15 0 (dk_42 (bt bc_Hall_store_0 14 rfl)) rfl rfl ?_
    refine EJ_getI cf11 4 (by decide) 18 tw_204 (fun _ _ _ => rfl) (dk_180 (bt bc_Hall_store_0 15 rfl) (bt bc_Hall_store_0 16 rfl) (bt bc_Hall_store_0 17 rfl) (n := 104) rfl) rfl (of_decide_eq_true h1) ?_
    refine EJ_new cf10 21 tw_65 (dk_187 (bt bc_Hall_store_0 18 rfl) (bt bc_Hall_store_0 19 rfl) (bt bc_Hall_store_0 20 rfl) (n := 22) rfl) rfl ?_
    refine EJ_dup 22 (dk_89 (bt bc_Hall_store_0 21 rfl)) rfl rfl ?_
    refine EJ_callIv (Y2 := Y_Store_new) 25 (s_Store_new G _ _) rfl (dk_183 (bt bc_Hall_store_0 22 rfl) (bt bc_Hall_store_0 23 rfl) (bt bc_Hall_store_0 24 rfl) (n := 107) rfl) rfl rfl tw_396 tw_397 tw_11 tw_398 rfl hd_Store_new rfl (by decide) (Nat.le_of_ble_eq_true rfl) (fun _ M5 => ?_)
    refine EJ_ck (fun h6 => ?_)
    refine EJ_ck (fun h7 => ?_)
    refine EJ_aast 5 26 cf10 (by decide) (by decide) rfl h6 (of_decide_eq_true h7) (dk_83 (bt bc_Hall_store_0 25 rfl)) rfl ?_
    refine EJ_aload_n 27 0 (dk_42 (bt bc_Hall_store_0 26 rfl)) rfl rfl ?_
    refine EJ_dup 28 (dk_89 (bt bc_Hall_store_0 27 rfl)) rfl rfl ?_
    refine EJ_ck (fun h9 => ?_)
    refine EJ_getI cf11 4 (by decide) 31 tw_204 (fun _ _ _ => rfl) (dk_180 (bt bc_Hall_store_0 28 rfl) (bt bc_Hall_store_0 29 rfl) (bt bc_Hall_store_0 30 rfl) (n := 104) rfl) rfl (of_decide_eq_true h9) ?_
    refine EJ_iconst 32 (dk_4 (bt bc_Hall_store_0 31 rfl)) rfl (v := 1) kI_1 ?_
    refine EJ_iadd 33 (dk_96 (bt bc_Hall_store_1 0 rfl)) rfl ?_
    refine EJ_putI cf11 4 (by decide) 36 tw_204 rfl (Or.inl rfl) (dk_181 (bt bc_Hall_store_1 1 rfl) (bt bc_Hall_store_1 2 rfl) (bt bc_Hall_store_1 3 rfl) (n := 104) rfl) rfl (of_decide_eq_true h9) ?_
    refine EJ_aload_n 37 0 (dk_42 (bt bc_Hall_store_1 4 rfl)) rfl rfl ?_
    refine EJ_getI cf11 4 (by decide) 40 tw_204 (fun _ _ _ => rfl) (dk_180 (bt bc_Hall_store_1 5 rfl) (bt bc_Hall_store_1 6 rfl) (bt bc_Hall_store_1 7 rfl) (n := 104) rfl) rfl (kp_I (of_decide_eq_true h9)) ?_
    refine EJ_iconst 41 (dk_4 (bt bc_Hall_store_1 8 rfl)) rfl (v := 1) kI_1 ?_
    refine EJ_isub 42 (dk_100 (bt bc_Hall_store_1 9 rfl)) rfl ?_
    exact EJ_iret rfl (dk_172 (bt bc_Hall_store_1 10 rfl))
  · refine EJ_iconst 9 (dk_2 (bt bc_Hall_store_0 8 rfl)) rfl (v := (-1)) kI_m1 ?_
    exact EJ_iret rfl (dk_172 (bt bc_Hall_store_0 9 rfl))
abbrev Y_Hall_isStore : Ym := (⟨"RiceHall", "isStore", "(I)Z"⟩, prog_1_method_44_code, 2, (some FieldType.boolean))
theorem bc_Hall_isStore_0 : bts prog_1_method_44_code 0 [27, 155, 0, 15, 27, 42, 180, 0, 104, 162, 0, 7, 4, 167, 0, 4, 3, 172] := bts_of (by decide +kernel)
theorem hd_Hall_isStore : Y_Hall_isStore.1.cls = RX11 ∧ Y_Hall_isStore.1.cls ≠ "java/lang/invoke/MethodHandle" ∧ Y_Hall_isStore.1.cls ≠ "java/lang/invoke/VarHandle" ∧ (parseMethodDescriptor Y_Hall_isStore.1.desc).map (fun d => d.parameters.length) = some 1 := by decide +kernel
def Hall_isStore (M : Mm) (a0 : Nat) (a1 : Int32) : Option (Int32 × Mm) :=
  if a1 < 0 then (
    some (0, M))
  else (
    ck (kO M a0 11 18) (
    if (mI M a0 4) ≤ a1 then (
      some (0, M))
    else (
      some (1, M))))
set_option maxRecDepth 100000 in
set_option maxHeartbeats 4000000 in
theorem s_Hall_isStore (G : Gx) (M : Mm) (a0 : Nat) (a1 : Int32) : FnS G Y_Hall_isStore cvI 1 [.ref a0, .int a1] M (Hall_isStore M a0 a1) := by
  refine FnS.ofE (by decide) (Nat.le_of_ble_eq_true rfl) ?_
  show EJ G Y_Hall_isStore cvI 1 0 [(0, .ref a0), (1, .int a1)] [] M _
  unfold Hall_isStore
  refine EJ_iload_n 1 1 (dk_27 (bt bc_Hall_isStore_0 0 rfl)) rfl rfl ?_
  refine EJ_if_lt 16 4 (dk_155 (bt bc_Hall_isStore_0 1 rfl) (bt bc_Hall_isStore_0 2 rfl) (bt bc_Hall_isStore_0 3 rfl) (n := 15) rfl) (by decide) rfl (fun _ => ?_) (fun _ => ?_)
  · refine EJ_iconst 17 (dk_3 (bt bc_Hall_isStore_0 16 rfl)) rfl (v := 0) kI_0 ?_
    exact EJ_zret rfl (by decide) (dk_172 (bt bc_Hall_isStore_0 17 rfl))
  · refine EJ_iload_n 5 1 (dk_27 (bt bc_Hall_isStore_0 4 rfl)) rfl rfl ?_
    refine EJ_aload_n 6 0 (dk_42 (bt bc_Hall_isStore_0 5 rfl)) rfl rfl ?_
    refine EJ_ck (fun h1 => ?_)
    refine EJ_getI cf11 4 (by decide) 9 tw_204 (fun _ _ _ => rfl) (dk_180 (bt bc_Hall_isStore_0 6 rfl) (bt bc_Hall_isStore_0 7 rfl) (bt bc_Hall_isStore_0 8 rfl) (n := 104) rfl) rfl (of_decide_eq_true h1) ?_
    refine EJ_icmp_ge 16 12 (dk_162 (bt bc_Hall_isStore_0 9 rfl) (bt bc_Hall_isStore_0 10 rfl) (bt bc_Hall_isStore_0 11 rfl) (n := 7) rfl) (by decide) rfl (fun _ => ?_) (fun _ => ?_)
    · refine EJ_iconst 17 (dk_3 (bt bc_Hall_isStore_0 16 rfl)) rfl (v := 0) kI_0 ?_
      exact EJ_zret rfl (by decide) (dk_172 (bt bc_Hall_isStore_0 17 rfl))
    · refine EJ_iconst 13 (dk_4 (bt bc_Hall_isStore_0 12 rfl)) rfl (v := 1) kI_1 ?_
      refine EJ_goto 17 (dk_167 (bt bc_Hall_isStore_0 13 rfl) (bt bc_Hall_isStore_0 14 rfl) (bt bc_Hall_isStore_0 15 rfl) (n := 4) rfl) (by decide) ?_
      exact EJ_zret rfl (by decide) (dk_172 (bt bc_Hall_isStore_0 17 rfl))
abbrev Y_Hall_isPerson : Ym := (⟨"RiceHall", "isPerson", "(I)Z"⟩, prog_1_method_43_code, 2, (some FieldType.boolean))
theorem bc_Hall_isPerson_0 : bts prog_1_method_43_code 0 [27, 155, 0, 15, 27, 42, 180, 0, 91, 162, 0, 7, 4, 167, 0, 4, 3, 172] := bts_of (by decide +kernel)
theorem hd_Hall_isPerson : Y_Hall_isPerson.1.cls = RX11 ∧ Y_Hall_isPerson.1.cls ≠ "java/lang/invoke/MethodHandle" ∧ Y_Hall_isPerson.1.cls ≠ "java/lang/invoke/VarHandle" ∧ (parseMethodDescriptor Y_Hall_isPerson.1.desc).map (fun d => d.parameters.length) = some 1 := by decide +kernel
def Hall_isPerson (M : Mm) (a0 : Nat) (a1 : Int32) : Option (Int32 × Mm) :=
  if a1 < 0 then (
    some (0, M))
  else (
    ck (kO M a0 11 18) (
    if (mI M a0 2) ≤ a1 then (
      some (0, M))
    else (
      some (1, M))))
set_option maxRecDepth 100000 in
set_option maxHeartbeats 4000000 in
theorem s_Hall_isPerson (G : Gx) (M : Mm) (a0 : Nat) (a1 : Int32) : FnS G Y_Hall_isPerson cvI 1 [.ref a0, .int a1] M (Hall_isPerson M a0 a1) := by
  refine FnS.ofE (by decide) (Nat.le_of_ble_eq_true rfl) ?_
  show EJ G Y_Hall_isPerson cvI 1 0 [(0, .ref a0), (1, .int a1)] [] M _
  unfold Hall_isPerson
  refine EJ_iload_n 1 1 (dk_27 (bt bc_Hall_isPerson_0 0 rfl)) rfl rfl ?_
  refine EJ_if_lt 16 4 (dk_155 (bt bc_Hall_isPerson_0 1 rfl) (bt bc_Hall_isPerson_0 2 rfl) (bt bc_Hall_isPerson_0 3 rfl) (n := 15) rfl) (by decide) rfl (fun _ => ?_) (fun _ => ?_)
  · refine EJ_iconst 17 (dk_3 (bt bc_Hall_isPerson_0 16 rfl)) rfl (v := 0) kI_0 ?_
    exact EJ_zret rfl (by decide) (dk_172 (bt bc_Hall_isPerson_0 17 rfl))
  · refine EJ_iload_n 5 1 (dk_27 (bt bc_Hall_isPerson_0 4 rfl)) rfl rfl ?_
    refine EJ_aload_n 6 0 (dk_42 (bt bc_Hall_isPerson_0 5 rfl)) rfl rfl ?_
    refine EJ_ck (fun h1 => ?_)
    refine EJ_getI cf11 2 (by decide) 9 tw_202 (fun _ _ _ => rfl) (dk_180 (bt bc_Hall_isPerson_0 6 rfl) (bt bc_Hall_isPerson_0 7 rfl) (bt bc_Hall_isPerson_0 8 rfl) (n := 91) rfl) rfl (of_decide_eq_true h1) ?_
    refine EJ_icmp_ge 16 12 (dk_162 (bt bc_Hall_isPerson_0 9 rfl) (bt bc_Hall_isPerson_0 10 rfl) (bt bc_Hall_isPerson_0 11 rfl) (n := 7) rfl) (by decide) rfl (fun _ => ?_) (fun _ => ?_)
    · refine EJ_iconst 17 (dk_3 (bt bc_Hall_isPerson_0 16 rfl)) rfl (v := 0) kI_0 ?_
      exact EJ_zret rfl (by decide) (dk_172 (bt bc_Hall_isPerson_0 17 rfl))
    · refine EJ_iconst 13 (dk_4 (bt bc_Hall_isPerson_0 12 rfl)) rfl (v := 1) kI_1 ?_
      refine EJ_goto 17 (dk_167 (bt bc_Hall_isPerson_0 13 rfl) (bt bc_Hall_isPerson_0 14 rfl) (bt bc_Hall_isPerson_0 15 rfl) (n := 4) rfl) (by decide) ?_
      exact EJ_zret rfl (by decide) (dk_172 (bt bc_Hall_isPerson_0 17 rfl))
abbrev Y_Hall_issue : Ym := (⟨"RiceHall", "issue", "(IIII)I"⟩, prog_1_method_9_code, 5, (some FieldType.int))
theorem bc_Hall_issue_0 : bts prog_1_method_9_code 0 [42, 27, 182, 0, 108, 153, 0, 43, 42, 28, 182, 0, 111, 153, 0, 35, 29, 4, 17, 1, 244, 184, 0, 80, 153, 0, 24, 21, 4, 3, 17, 7] := bts_of (by decide +kernel)
theorem bc_Hall_issue_1 : bts prog_1_method_9_code 32 [208, 184, 0, 80, 153, 0, 12, 42, 180, 0, 114, 16, 60, 161, 0, 5, 2, 172, 42, 89, 180, 0, 114, 4, 96, 181, 0, 114, 42, 180, 0, 18] := bts_of (by decide +kernel)
theorem bc_Hall_issue_2 : bts prog_1_method_9_code 64 [28, 50, 180, 0, 117, 27, 92, 46, 29, 96, 79, 42, 180, 0, 24, 27, 50, 29, 42, 180, 0, 120, 21, 4, 96, 182, 0, 123, 42, 180, 0, 24] := bts_of (by decide +kernel)
theorem bc_Hall_issue_3 : bts prog_1_method_9_code 96 [27, 50, 182, 0, 126, 172] := bts_of (by decide +kernel)
theorem hd_Hall_issue : Y_Hall_issue.1.cls = RX11 ∧ Y_Hall_issue.1.cls ≠ "java/lang/invoke/MethodHandle" ∧ Y_Hall_issue.1.cls ≠ "java/lang/invoke/VarHandle" ∧ (parseMethodDescriptor Y_Hall_issue.1.desc).map (fun d => d.parameters.length) = some 4 := by decide +kernel
def Hall_issue (M : Mm) (a0 : Nat) (a1 : Int32) (a2 : Int32) (a3 : Int32) (a4 : Int32) : Option (Int32 × Mm) :=
  ck (kO M a0 11 18) (
  bd (Hall_isStore M a0 a1) (fun r2 M3 =>
  if r2 = 0 then (
    some ((-1), M3))
  else (
    ck (kO M3 a0 11 18) (
    bd (Hall_isPerson M3 a0 a2) (fun r5 M6 =>
    if r5 = 0 then (
      some ((-1), M6))
    else (
      bd (Hall_isWithin M6 a3 1 500) (fun r7 M8 =>
      if r7 = 0 then (
        some ((-1), M8))
      else (
        bd (Hall_isWithin M8 a4 0 2000) (fun r9 M10 =>
        if r9 = 0 then (
          some ((-1), M10))
        else (
          ck (kO M10 a0 11 18) (
          if (mI M10 a0 5) < 60 then (
            let M12 := sI M10 a0 5 ((mI M10 a0 5) + 1)
            nn (mR M12 a0 1) (fun b13 =>
            ck (kA M12 b13 24 a2) (
            nn (mR M12 b13 (ix a2)) (fun b15 =>
            ck (kO M12 b15 6 9) (
            nn (mR M12 b15 1) (fun b17 =>
            ck (kA M12 b17 20 a1) (
            let M19 := sI M12 b17 (ix a1) ((mI M12 b17 (ix a1)) + a3)
            nn (mR M19 a0 3) (fun b20 =>
            ck (kA M19 b20 25 a1) (
            nn (mR M19 b20 (ix a1)) (fun b22 =>
            ck (kO M19 b22 10 14) (
            bd (Store_addIssue M19 b22 a3 ((mI M19 a0 16) + a4)) (fun _ M25 =>
            ck (kO M25 a0 11 18) (
            nn (mR M25 a0 3) (fun b27 =>
            ck (kA M25 b27 25 a1) (
            nn (mR M25 b27 (ix a1)) (fun b29 =>
            ck (kO M25 b29 10 14) (
            bd (Store_out M25 b29) (fun r31 M32 =>
            some (r31, M32)))))))))))))))))))
          else (
            some ((-1), M10)))))))))))))
set_option maxRecDepth 100000 in
set_option maxHeartbeats 4000000 in
theorem s_Hall_issue (G : Gx) (M : Mm) (a0 : Nat) (a1 : Int32) (a2 : Int32) (a3 : Int32) (a4 : Int32) : FnS G Y_Hall_issue cvI 2 [.ref a0, .int a1, .int a2, .int a3, .int a4] M (Hall_issue M a0 a1 a2 a3 a4) := by
  refine FnS.ofE (by decide) (Nat.le_of_ble_eq_true rfl) ?_
  show EJ G Y_Hall_issue cvI 2 0 [(0, .ref a0), (1, .int a1), (2, .int a2), (3, .int a3), (4, .int a4)] [] M _
  unfold Hall_issue
  refine EJ_aload_n 1 0 (dk_42 (bt bc_Hall_issue_0 0 rfl)) rfl rfl ?_
  refine EJ_iload_n 2 1 (dk_27 (bt bc_Hall_issue_0 1 rfl)) rfl rfl ?_
  refine EJ_ck (fun h1 => ?_)
  refine EJ_callVi (Y2 := Y_Hall_isStore) 5 cf11 (s_Hall_isStore G _ _ _) (of_decide_eq_true h1) rfl (dk_182 (bt bc_Hall_issue_0 2 rfl) (bt bc_Hall_issue_0 3 rfl) (bt bc_Hall_issue_0 4 rfl) (n := 108) rfl) rfl tw_453 tw_455 ts_7 tw_456 hd_Hall_isStore rfl (by decide) (Nat.le_of_ble_eq_true rfl) (fun r2 M3 => ?_)
  refine EJ_if_eq 48 8 (dk_153 (bt bc_Hall_issue_0 5 rfl) (bt bc_Hall_issue_0 6 rfl) (bt bc_Hall_issue_0 7 rfl) (n := 43) rfl) (by decide) rfl (fun _ => ?_) (fun _ => ?_)
  · refine EJ_iconst 49 (dk_2 (bt bc_Hall_issue_1 16 rfl)) rfl (v := (-1)) kI_m1 ?_
    exact EJ_iret rfl (dk_172 (bt bc_Hall_issue_1 17 rfl))
  · refine EJ_aload_n 9 0 (dk_42 (bt bc_Hall_issue_0 8 rfl)) rfl rfl ?_
    refine EJ_iload_n 10 2 (dk_28 (bt bc_Hall_issue_0 9 rfl)) rfl rfl ?_
    refine EJ_ck (fun h4 => ?_)
    refine EJ_callVi (Y2 := Y_Hall_isPerson) 13 cf11 (s_Hall_isPerson G _ _ _) (of_decide_eq_true h4) rfl (dk_182 (bt bc_Hall_issue_0 10 rfl) (bt bc_Hall_issue_0 11 rfl) (bt bc_Hall_issue_0 12 rfl) (n := 111) rfl) rfl tw_457 tw_459 ts_8 tw_460 hd_Hall_isPerson rfl (by decide) (Nat.le_of_ble_eq_true rfl) (fun r5 M6 => ?_)
    refine EJ_if_eq 48 16 (dk_153 (bt bc_Hall_issue_0 13 rfl) (bt bc_Hall_issue_0 14 rfl) (bt bc_Hall_issue_0 15 rfl) (n := 35) rfl) (by decide) rfl (fun _ => ?_) (fun _ => ?_)
    · refine EJ_iconst 49 (dk_2 (bt bc_Hall_issue_1 16 rfl)) rfl (v := (-1)) kI_m1 ?_
      exact EJ_iret rfl (dk_172 (bt bc_Hall_issue_1 17 rfl))
    · refine EJ_iload_n 17 3 (dk_29 (bt bc_Hall_issue_0 16 rfl)) rfl rfl ?_
      refine EJ_iconst 18 (dk_4 (bt bc_Hall_issue_0 17 rfl)) rfl (v := 1) kI_1 ?_
      refine EJ_sipush 21 (dk_17 (bt bc_Hall_issue_0 18 rfl) (bt bc_Hall_issue_0 19 rfl) (bt bc_Hall_issue_0 20 rfl) (n := 500) rfl) rfl (v := 500) kS_500 ?_
      refine EJ_callSi (Y2 := Y_Hall_isWithin) 24 (s_Hall_isWithin G _ _ _ _) rfl (dk_184 (bt bc_Hall_issue_0 21 rfl) (bt bc_Hall_issue_0 22 rfl) (bt bc_Hall_issue_0 23 rfl) (n := 80) rfl) rfl tw_292 tw_276 tw_1 tw_277 hd_Hall_isWithin rfl (by decide) (Nat.le_of_ble_eq_true rfl) (fun r7 M8 => ?_)
      refine EJ_if_eq 48 27 (dk_153 (bt bc_Hall_issue_0 24 rfl) (bt bc_Hall_issue_0 25 rfl) (bt bc_Hall_issue_0 26 rfl) (n := 24) rfl) (by decide) rfl (fun _ => ?_) (fun _ => ?_)
      · refine EJ_iconst 49 (dk_2 (bt bc_Hall_issue_1 16 rfl)) rfl (v := (-1)) kI_m1 ?_
        exact EJ_iret rfl (dk_172 (bt bc_Hall_issue_1 17 rfl))
      · refine EJ_iload 29 4 (dk_21 (bt bc_Hall_issue_0 27 rfl) (bt bc_Hall_issue_0 28 rfl)) rfl rfl ?_
        refine EJ_iconst 30 (dk_3 (bt bc_Hall_issue_0 29 rfl)) rfl (v := 0) kI_0 ?_
        refine EJ_sipush 33 (dk_17 (bt bc_Hall_issue_0 30 rfl) (bt bc_Hall_issue_0 31 rfl) (bt bc_Hall_issue_1 0 rfl) (n := 2000) rfl) rfl (v := 2000) kS_2000 ?_
        refine EJ_callSi (Y2 := Y_Hall_isWithin) 36 (s_Hall_isWithin G _ _ _ _) rfl (dk_184 (bt bc_Hall_issue_1 1 rfl) (bt bc_Hall_issue_1 2 rfl) (bt bc_Hall_issue_1 3 rfl) (n := 80) rfl) rfl tw_292 tw_276 tw_1 tw_277 hd_Hall_isWithin rfl (by decide) (Nat.le_of_ble_eq_true rfl) (fun r9 M10 => ?_)
        refine EJ_if_eq 48 39 (dk_153 (bt bc_Hall_issue_1 4 rfl) (bt bc_Hall_issue_1 5 rfl) (bt bc_Hall_issue_1 6 rfl) (n := 12) rfl) (by decide) rfl (fun _ => ?_) (fun _ => ?_)
        · refine EJ_iconst 49 (dk_2 (bt bc_Hall_issue_1 16 rfl)) rfl (v := (-1)) kI_m1 ?_
          exact EJ_iret rfl (dk_172 (bt bc_Hall_issue_1 17 rfl))
        · refine EJ_aload_n 40 0 (dk_42 (bt bc_Hall_issue_1 7 rfl)) rfl rfl ?_
          refine EJ_ck (fun h11 => ?_)
          refine EJ_getI cf11 5 (by decide) 43 tw_205 (fun _ _ _ => rfl) (dk_180 (bt bc_Hall_issue_1 8 rfl) (bt bc_Hall_issue_1 9 rfl) (bt bc_Hall_issue_1 10 rfl) (n := 114) rfl) rfl (of_decide_eq_true h11) ?_
          refine EJ_bipush 45 (dk_16 (bt bc_Hall_issue_1 11 rfl) (bt bc_Hall_issue_1 12 rfl) (n := 60) rfl) rfl (v := 60) kB_60 ?_
          refine EJ_icmp_lt 50 48 (dk_161 (bt bc_Hall_issue_1 13 rfl) (bt bc_Hall_issue_1 14 rfl) (bt bc_Hall_issue_1 15 rfl) (n := 5) rfl) (by decide) rfl (fun _ => ?_) (fun _ => ?_)
          · refine EJ_aload_n 51 0 (dk_42 (bt bc_Hall_issue_1 18 rfl)) rfl rfl ?_
            refine EJ_dup 52 (dk_89 (bt bc_Hall_issue_1 19 rfl)) rfl rfl ?_
            refine EJ_getI cf11 5 (by decide) 55 tw_205 (fun _ _ _ => rfl) (dk_180 (bt bc_Hall_issue_1 20 rfl) (bt bc_Hall_issue_1 21 rfl) (bt bc_Hall_issue_1 22 rfl) (n := 114) rfl) rfl (of_decide_eq_true h11) ?_
            refine EJ_iconst 56 (dk_4 (bt bc_Hall_issue_1 23 rfl)) rfl (v := 1) kI_1 ?_
            refine EJ_iadd 57 (dk_96 (bt bc_Hall_issue_1 24 rfl)) rfl ?_
            refine EJ_putI cf11 5 (by decide) 60 tw_205 rfl (Or.inl rfl) (dk_181 (bt bc_Hall_issue_1 25 rfl) (bt bc_Hall_issue_1 26 rfl) (bt bc_Hall_issue_1 27 rfl) (n := 114) rfl) rfl (of_decide_eq_true h11) ?_
            refine EJ_aload_n 61 0 (dk_42 (bt bc_Hall_issue_1 28 rfl)) rfl rfl ?_
            refine EJ_getR cf11 1 (by decide) 64 tw_201 (fun _ _ _ => rfl) (dk_180 (bt bc_Hall_issue_1 29 rfl) (bt bc_Hall_issue_1 30 rfl) (bt bc_Hall_issue_1 31 rfl) (n := 18) rfl) rfl (kp_I (of_decide_eq_true h11)) (fun b13 => ?_)
            refine EJ_iload_n 65 2 (dk_28 (bt bc_Hall_issue_2 0 rfl)) rfl rfl ?_
            refine EJ_ck (fun h14 => ?_)
            refine EJ_aald 4 66 (by decide) (by decide) rfl h14 (dk_50 (bt bc_Hall_issue_2 1 rfl)) rfl (fun b15 => ?_)
            refine EJ_ck (fun h16 => ?_)
            refine EJ_getR cf6 1 (by decide) 69 tw_341 (fun _ _ _ => rfl) (dk_180 (bt bc_Hall_issue_2 2 rfl) (bt bc_Hall_issue_2 3 rfl) (bt bc_Hall_issue_2 4 rfl) (n := 117) rfl) rfl (of_decide_eq_true h16) (fun b17 => ?_)
            refine EJ_iload_n 70 1 (dk_27 (bt bc_Hall_issue_2 5 rfl)) rfl rfl ?_
            refine EJ_dup2 71 (dk_92 (bt bc_Hall_issue_2 6 rfl)) rfl rfl rfl ?_
            refine EJ_ck (fun h18 => ?_)
            refine EJ_iald 72 h18 (dk_46 (bt bc_Hall_issue_2 7 rfl)) rfl ?_
            refine EJ_iload_n 73 3 (dk_29 (bt bc_Hall_issue_2 8 rfl)) rfl rfl ?_
            refine EJ_iadd 74 (dk_96 (bt bc_Hall_issue_2 9 rfl)) rfl ?_
            refine EJ_iast 75 h18 (dk_79 (bt bc_Hall_issue_2 10 rfl)) rfl ?_
            refine EJ_aload_n 76 0 (dk_42 (bt bc_Hall_issue_2 11 rfl)) rfl rfl ?_
            refine EJ_getR cf11 3 (by decide) 79 tw_203 (fun _ _ _ => rfl) (dk_180 (bt bc_Hall_issue_2 12 rfl) (bt bc_Hall_issue_2 13 rfl) (bt bc_Hall_issue_2 14 rfl) (n := 24) rfl) rfl (kp_I (kp_I (of_decide_eq_true h11))) (fun b20 => ?_)
            refine EJ_iload_n 80 1 (dk_27 (bt bc_Hall_issue_2 15 rfl)) rfl rfl ?_
            refine EJ_ck (fun h21 => ?_)
            refine EJ_aald 5 81 (by decide) (by decide) rfl h21 (dk_50 (bt bc_Hall_issue_2 16 rfl)) rfl (fun b22 => ?_)
            refine EJ_iload_n 82 3 (dk_29 (bt bc_Hall_issue_2 17 rfl)) rfl rfl ?_
            refine EJ_aload_n 83 0 (dk_42 (bt bc_Hall_issue_2 18 rfl)) rfl rfl ?_
            refine EJ_getI cf11 16 (by decide) 86 tw_216 (fun _ _ _ => rfl) (dk_180 (bt bc_Hall_issue_2 19 rfl) (bt bc_Hall_issue_2 20 rfl) (bt bc_Hall_issue_2 21 rfl) (n := 120) rfl) rfl (kp_I (kp_I (of_decide_eq_true h11))) ?_
            refine EJ_iload 88 4 (dk_21 (bt bc_Hall_issue_2 22 rfl) (bt bc_Hall_issue_2 23 rfl)) rfl rfl ?_
            refine EJ_iadd 89 (dk_96 (bt bc_Hall_issue_2 24 rfl)) rfl ?_
            refine EJ_ck (fun h23 => ?_)
            refine EJ_callVv (Y2 := Y_Store_addIssue) 92 cf10 (s_Store_addIssue G _ _ _ _) (of_decide_eq_true h23) rfl (dk_182 (bt bc_Hall_issue_2 25 rfl) (bt bc_Hall_issue_2 26 rfl) (bt bc_Hall_issue_2 27 rfl) (n := 123) rfl) rfl tw_461 tw_462 tw_463 tw_464 hd_Store_addIssue rfl (by decide) (Nat.le_of_ble_eq_true rfl) (fun _ M25 => ?_)
            refine EJ_aload_n 93 0 (dk_42 (bt bc_Hall_issue_2 28 rfl)) rfl rfl ?_
            refine EJ_ck (fun h26 => ?_)
            refine EJ_getR cf11 3 (by decide) 96 tw_203 (fun _ _ _ => rfl) (dk_180 (bt bc_Hall_issue_2 29 rfl) (bt bc_Hall_issue_2 30 rfl) (bt bc_Hall_issue_2 31 rfl) (n := 24) rfl) rfl (of_decide_eq_true h26) (fun b27 => ?_)
            refine EJ_iload_n 97 1 (dk_27 (bt bc_Hall_issue_3 0 rfl)) rfl rfl ?_
            refine EJ_ck (fun h28 => ?_)
            refine EJ_aald 5 98 (by decide) (by decide) rfl h28 (dk_50 (bt bc_Hall_issue_3 1 rfl)) rfl (fun b29 => ?_)
            refine EJ_ck (fun h30 => ?_)
            refine EJ_callVi (Y2 := Y_Store_out) 101 cf10 (s_Store_out G _ _) (of_decide_eq_true h30) rfl (dk_182 (bt bc_Hall_issue_3 2 rfl) (bt bc_Hall_issue_3 3 rfl) (bt bc_Hall_issue_3 4 rfl) (n := 126) rfl) rfl tw_465 tw_466 tw_467 tw_468 hd_Store_out rfl (by decide) (Nat.le_of_ble_eq_true rfl) (fun r31 M32 => ?_)
            exact EJ_iret rfl (dk_172 (bt bc_Hall_issue_3 5 rfl))
          · refine EJ_iconst 49 (dk_2 (bt bc_Hall_issue_1 16 rfl)) rfl (v := (-1)) kI_m1 ?_
            exact EJ_iret rfl (dk_172 (bt bc_Hall_issue_1 17 rfl))
abbrev Y_Hall_holdsPaper : Ym := (⟨"RiceHall", "holdsPaper", "(III)Z"⟩, prog_1_method_46_code, 4, (some FieldType.boolean))
theorem bc_Hall_holdsPaper_0 : bts prog_1_method_46_code 0 [42, 27, 182, 0, 111, 153, 0, 35, 42, 28, 182, 0, 108, 153, 0, 27, 29, 4, 161, 0, 22, 29, 42, 180, 0, 18, 27, 50, 180, 0, 117, 28] := bts_of (by decide +kernel)
theorem bc_Hall_holdsPaper_1 : bts prog_1_method_46_code 32 [46, 163, 0, 7, 4, 167, 0, 4, 3, 172] := bts_of (by decide +kernel)
theorem hd_Hall_holdsPaper : Y_Hall_holdsPaper.1.cls = RX11 ∧ Y_Hall_holdsPaper.1.cls ≠ "java/lang/invoke/MethodHandle" ∧ Y_Hall_holdsPaper.1.cls ≠ "java/lang/invoke/VarHandle" ∧ (parseMethodDescriptor Y_Hall_holdsPaper.1.desc).map (fun d => d.parameters.length) = some 3 := by decide +kernel
def Hall_holdsPaper (M : Mm) (a0 : Nat) (a1 : Int32) (a2 : Int32) (a3 : Int32) : Option (Int32 × Mm) :=
  ck (kO M a0 11 18) (
  bd (Hall_isPerson M a0 a1) (fun r2 M3 =>
  if r2 = 0 then (
    some (0, M3))
  else (
    ck (kO M3 a0 11 18) (
    bd (Hall_isStore M3 a0 a2) (fun r5 M6 =>
    if r5 = 0 then (
      some (0, M6))
    else (
      if a3 < 1 then (
        some (0, M6))
      else (
        ck (kO M6 a0 11 18) (
        nn (mR M6 a0 1) (fun b8 =>
        ck (kA M6 b8 24 a1) (
        nn (mR M6 b8 (ix a1)) (fun b10 =>
        ck (kO M6 b10 6 9) (
        nn (mR M6 b10 1) (fun b12 =>
        ck (kA M6 b12 20 a2) (
        if (mI M6 b12 (ix a2)) < a3 then (
          some (0, M6))
        else (
          some (1, M6))))))))))))))))
set_option maxRecDepth 100000 in
set_option maxHeartbeats 4000000 in
theorem s_Hall_holdsPaper (G : Gx) (M : Mm) (a0 : Nat) (a1 : Int32) (a2 : Int32) (a3 : Int32) : FnS G Y_Hall_holdsPaper cvI 2 [.ref a0, .int a1, .int a2, .int a3] M (Hall_holdsPaper M a0 a1 a2 a3) := by
  refine FnS.ofE (by decide) (Nat.le_of_ble_eq_true rfl) ?_
  show EJ G Y_Hall_holdsPaper cvI 2 0 [(0, .ref a0), (1, .int a1), (2, .int a2), (3, .int a3)] [] M _
  unfold Hall_holdsPaper
  refine EJ_aload_n 1 0 (dk_42 (bt bc_Hall_holdsPaper_0 0 rfl)) rfl rfl ?_
  refine EJ_iload_n 2 1 (dk_27 (bt bc_Hall_holdsPaper_0 1 rfl)) rfl rfl ?_
  refine EJ_ck (fun h1 => ?_)
  refine EJ_callVi (Y2 := Y_Hall_isPerson) 5 cf11 (s_Hall_isPerson G _ _ _) (of_decide_eq_true h1) rfl (dk_182 (bt bc_Hall_holdsPaper_0 2 rfl) (bt bc_Hall_holdsPaper_0 3 rfl) (bt bc_Hall_holdsPaper_0 4 rfl) (n := 111) rfl) rfl tw_457 tw_459 ts_8 tw_460 hd_Hall_isPerson rfl (by decide) (Nat.le_of_ble_eq_true rfl) (fun r2 M3 => ?_)
  refine EJ_if_eq 40 8 (dk_153 (bt bc_Hall_holdsPaper_0 5 rfl) (bt bc_Hall_holdsPaper_0 6 rfl) (bt bc_Hall_holdsPaper_0 7 rfl) (n := 35) rfl) (by decide) rfl (fun _ => ?_) (fun _ => ?_)
  · refine EJ_iconst 41 (dk_3 (bt bc_Hall_holdsPaper_1 8 rfl)) rfl (v := 0) kI_0 ?_
    exact EJ_zret rfl (by decide) (dk_172 (bt bc_Hall_holdsPaper_1 9 rfl))
  · refine EJ_aload_n 9 0 (dk_42 (bt bc_Hall_holdsPaper_0 8 rfl)) rfl rfl ?_
    refine EJ_iload_n 10 2 (dk_28 (bt bc_Hall_holdsPaper_0 9 rfl)) rfl rfl ?_
    refine EJ_ck (fun h4 => ?_)
    refine EJ_callVi (Y2 := Y_Hall_isStore) 13 cf11 (s_Hall_isStore G _ _ _) (of_decide_eq_true h4) rfl (dk_182 (bt bc_Hall_holdsPaper_0 10 rfl) (bt bc_Hall_holdsPaper_0 11 rfl) (bt bc_Hall_holdsPaper_0 12 rfl) (n := 108) rfl) rfl tw_453 tw_455 ts_7 tw_456 hd_Hall_isStore rfl (by decide) (Nat.le_of_ble_eq_true rfl) (fun r5 M6 => ?_)
    refine EJ_if_eq 40 16 (dk_153 (bt bc_Hall_holdsPaper_0 13 rfl) (bt bc_Hall_holdsPaper_0 14 rfl) (bt bc_Hall_holdsPaper_0 15 rfl) (n := 27) rfl) (by decide) rfl (fun _ => ?_) (fun _ => ?_)
    · refine EJ_iconst 41 (dk_3 (bt bc_Hall_holdsPaper_1 8 rfl)) rfl (v := 0) kI_0 ?_
      exact EJ_zret rfl (by decide) (dk_172 (bt bc_Hall_holdsPaper_1 9 rfl))
    · refine EJ_iload_n 17 3 (dk_29 (bt bc_Hall_holdsPaper_0 16 rfl)) rfl rfl ?_
      refine EJ_iconst 18 (dk_4 (bt bc_Hall_holdsPaper_0 17 rfl)) rfl (v := 1) kI_1 ?_
      refine EJ_icmp_lt 40 21 (dk_161 (bt bc_Hall_holdsPaper_0 18 rfl) (bt bc_Hall_holdsPaper_0 19 rfl) (bt bc_Hall_holdsPaper_0 20 rfl) (n := 22) rfl) (by decide) rfl (fun _ => ?_) (fun _ => ?_)
      · refine EJ_iconst 41 (dk_3 (bt bc_Hall_holdsPaper_1 8 rfl)) rfl (v := 0) kI_0 ?_
        exact EJ_zret rfl (by decide) (dk_172 (bt bc_Hall_holdsPaper_1 9 rfl))
      · refine EJ_iload_n 22 3 (dk_29 (bt bc_Hall_holdsPaper_0 21 rfl)) rfl rfl ?_
        refine EJ_aload_n 23 0 (dk_42 (bt bc_Hall_holdsPaper_0 22 rfl)) rfl rfl ?_
        refine EJ_ck (fun h7 => ?_)
        refine EJ_getR cf11 1 (by decide) 26 tw_201 (fun _ _ _ => rfl) (dk_180 (bt bc_Hall_holdsPaper_0 23 rfl) (bt bc_Hall_holdsPaper_0 24 rfl) (bt bc_Hall_holdsPaper_0 25 rfl) (n := 18) rfl) rfl (of_decide_eq_true h7) (fun b8 => ?_)
        refine EJ_iload_n 27 1 (dk_27 (bt bc_Hall_holdsPaper_0 26 rfl)) rfl rfl ?_
        refine EJ_ck (fun h9 => ?_)
        refine EJ_aald 4 28 (by decide) (by decide) rfl h9 (dk_50 (bt bc_Hall_holdsPaper_0 27 rfl)) rfl (fun b10 => ?_)
        refine EJ_ck (fun h11 => ?_)
        refine EJ_getR cf6 1 (by decide) 31 tw_341 (fun _ _ _ => rfl) (dk_180 (bt bc_Hall_holdsPaper_0 28 rfl) (bt bc_Hall_holdsPaper_0 29 rfl) (bt bc_Hall_holdsPaper_0 30 rfl) (n := 117) rfl) rfl (of_decide_eq_true h11) (fun b12 => ?_)
        refine EJ_iload_n 32 2 (dk_28 (bt bc_Hall_holdsPaper_0 31 rfl)) rfl rfl ?_
        refine EJ_ck (fun h13 => ?_)
        refine EJ_iald 33 h13 (dk_46 (bt bc_Hall_holdsPaper_1 0 rfl)) rfl ?_
        refine EJ_icmp_gt 40 36 (dk_163 (bt bc_Hall_holdsPaper_1 1 rfl) (bt bc_Hall_holdsPaper_1 2 rfl) (bt bc_Hall_holdsPaper_1 3 rfl) (n := 7) rfl) (by decide) rfl (fun _ => ?_) (fun _ => ?_)
        · refine EJ_iconst 41 (dk_3 (bt bc_Hall_holdsPaper_1 8 rfl)) rfl (v := 0) kI_0 ?_
          exact EJ_zret rfl (by decide) (dk_172 (bt bc_Hall_holdsPaper_1 9 rfl))
        · refine EJ_iconst 37 (dk_4 (bt bc_Hall_holdsPaper_1 4 rfl)) rfl (v := 1) kI_1 ?_
          refine EJ_goto 41 (dk_167 (bt bc_Hall_holdsPaper_1 5 rfl) (bt bc_Hall_holdsPaper_1 6 rfl) (bt bc_Hall_holdsPaper_1 7 rfl) (n := 4) rfl) (by decide) ?_
          exact EJ_zret rfl (by decide) (dk_172 (bt bc_Hall_holdsPaper_1 9 rfl))
abbrev Y_Hall_give : Ym := (⟨"RiceHall", "give", "(IIII)Z"⟩, prog_1_method_10_code, 5, (some FieldType.boolean))
theorem bc_Hall_give_0 : bts prog_1_method_10_code 0 [42, 28, 182, 0, 111, 153, 0, 14, 42, 27, 29, 21, 4, 182, 0, 129, 154, 0, 5, 3, 172, 42, 180, 0, 18, 27, 50, 180, 0, 117, 29, 92] := bts_of (by decide +kernel)
theorem bc_Hall_give_1 : bts prog_1_method_10_code 32 [46, 21, 4, 100, 79, 42, 180, 0, 18, 28, 50, 180, 0, 117, 29, 92, 46, 21, 4, 96, 79, 4, 172] := bts_of (by decide +kernel)
theorem hd_Hall_give : Y_Hall_give.1.cls = RX11 ∧ Y_Hall_give.1.cls ≠ "java/lang/invoke/MethodHandle" ∧ Y_Hall_give.1.cls ≠ "java/lang/invoke/VarHandle" ∧ (parseMethodDescriptor Y_Hall_give.1.desc).map (fun d => d.parameters.length) = some 4 := by decide +kernel
def Hall_give (M : Mm) (a0 : Nat) (a1 : Int32) (a2 : Int32) (a3 : Int32) (a4 : Int32) : Option (Int32 × Mm) :=
  ck (kO M a0 11 18) (
  bd (Hall_isPerson M a0 a2) (fun r2 M3 =>
  if r2 = 0 then (
    some (0, M3))
  else (
    ck (kO M3 a0 11 18) (
    bd (Hall_holdsPaper M3 a0 a1 a3 a4) (fun r5 M6 =>
    if r5 = 0 then (
      some (0, M6))
    else (
      ck (kO M6 a0 11 18) (
      nn (mR M6 a0 1) (fun b8 =>
      ck (kA M6 b8 24 a1) (
      nn (mR M6 b8 (ix a1)) (fun b10 =>
      ck (kO M6 b10 6 9) (
      nn (mR M6 b10 1) (fun b12 =>
      ck (kA M6 b12 20 a3) (
      let M14 := sI M6 b12 (ix a3) ((mI M6 b12 (ix a3)) - a4)
      nn (mR M14 a0 1) (fun b15 =>
      ck (kA M14 b15 24 a2) (
      nn (mR M14 b15 (ix a2)) (fun b17 =>
      ck (kO M14 b17 6 9) (
      nn (mR M14 b17 1) (fun b19 =>
      ck (kA M14 b19 20 a3) (
      let M21 := sI M14 b19 (ix a3) ((mI M14 b19 (ix a3)) + a4)
      some (1, M21))))))))))))))))))))
set_option maxRecDepth 100000 in
set_option maxHeartbeats 4000000 in
theorem s_Hall_give (G : Gx) (M : Mm) (a0 : Nat) (a1 : Int32) (a2 : Int32) (a3 : Int32) (a4 : Int32) : FnS G Y_Hall_give cvI 3 [.ref a0, .int a1, .int a2, .int a3, .int a4] M (Hall_give M a0 a1 a2 a3 a4) := by
  refine FnS.ofE (by decide) (Nat.le_of_ble_eq_true rfl) ?_
  show EJ G Y_Hall_give cvI 3 0 [(0, .ref a0), (1, .int a1), (2, .int a2), (3, .int a3), (4, .int a4)] [] M _
  unfold Hall_give
  refine EJ_aload_n 1 0 (dk_42 (bt bc_Hall_give_0 0 rfl)) rfl rfl ?_
  refine EJ_iload_n 2 2 (dk_28 (bt bc_Hall_give_0 1 rfl)) rfl rfl ?_
  refine EJ_ck (fun h1 => ?_)
  refine EJ_callVi (Y2 := Y_Hall_isPerson) 5 cf11 (s_Hall_isPerson G _ _ _) (of_decide_eq_true h1) rfl (dk_182 (bt bc_Hall_give_0 2 rfl) (bt bc_Hall_give_0 3 rfl) (bt bc_Hall_give_0 4 rfl) (n := 111) rfl) rfl tw_457 tw_459 ts_8 tw_460 hd_Hall_isPerson rfl (by decide) (Nat.le_of_ble_eq_true rfl) (fun r2 M3 => ?_)
  refine EJ_if_eq 19 8 (dk_153 (bt bc_Hall_give_0 5 rfl) (bt bc_Hall_give_0 6 rfl) (bt bc_Hall_give_0 7 rfl) (n := 14) rfl) (by decide) rfl (fun _ => ?_) (fun _ => ?_)
  · refine EJ_iconst 20 (dk_3 (bt bc_Hall_give_0 19 rfl)) rfl (v := 0) kI_0 ?_
    exact EJ_zret rfl (by decide) (dk_172 (bt bc_Hall_give_0 20 rfl))
  · refine EJ_aload_n 9 0 (dk_42 (bt bc_Hall_give_0 8 rfl)) rfl rfl ?_
    refine EJ_iload_n 10 1 (dk_27 (bt bc_Hall_give_0 9 rfl)) rfl rfl ?_
    refine EJ_iload_n 11 3 (dk_29 (bt bc_Hall_give_0 10 rfl)) rfl rfl ?_
    refine EJ_iload 13 4 (dk_21 (bt bc_Hall_give_0 11 rfl) (bt bc_Hall_give_0 12 rfl)) rfl rfl ?_
    refine EJ_ck (fun h4 => ?_)
    refine EJ_callVi (Y2 := Y_Hall_holdsPaper) 16 cf11 (s_Hall_holdsPaper G _ _ _ _ _) (of_decide_eq_true h4) rfl (dk_182 (bt bc_Hall_give_0 13 rfl) (bt bc_Hall_give_0 14 rfl) (bt bc_Hall_give_0 15 rfl) (n := 129) rfl) rfl tw_473 tw_475 ts_9 tw_476 hd_Hall_holdsPaper rfl (by decide) (Nat.le_of_ble_eq_true rfl) (fun r5 M6 => ?_)
    refine EJ_if_ne 21 19 (dk_154 (bt bc_Hall_give_0 16 rfl) (bt bc_Hall_give_0 17 rfl) (bt bc_Hall_give_0 18 rfl) (n := 5) rfl) (by decide) rfl (fun _ => ?_) (fun _ => ?_)
    · refine EJ_aload_n 22 0 (dk_42 (bt bc_Hall_give_0 21 rfl)) rfl rfl ?_
      refine EJ_ck (fun h7 => ?_)
      refine EJ_getR cf11 1 (by decide) 25 tw_201 (fun _ _ _ => rfl) (dk_180 (bt bc_Hall_give_0 22 rfl) (bt bc_Hall_give_0 23 rfl) (bt bc_Hall_give_0 24 rfl) (n := 18) rfl) rfl (of_decide_eq_true h7) (fun b8 => ?_)
      refine EJ_iload_n 26 1 (dk_27 (bt bc_Hall_give_0 25 rfl)) rfl rfl ?_
      refine EJ_ck (fun h9 => ?_)
      refine EJ_aald 4 27 (by decide) (by decide) rfl h9 (dk_50 (bt bc_Hall_give_0 26 rfl)) rfl (fun b10 => ?_)
      refine EJ_ck (fun h11 => ?_)
      refine EJ_getR cf6 1 (by decide) 30 tw_341 (fun _ _ _ => rfl) (dk_180 (bt bc_Hall_give_0 27 rfl) (bt bc_Hall_give_0 28 rfl) (bt bc_Hall_give_0 29 rfl) (n := 117) rfl) rfl (of_decide_eq_true h11) (fun b12 => ?_)
      refine EJ_iload_n 31 3 (dk_29 (bt bc_Hall_give_0 30 rfl)) rfl rfl ?_
      refine EJ_dup2 32 (dk_92 (bt bc_Hall_give_0 31 rfl)) rfl rfl rfl ?_
      refine EJ_ck (fun h13 => ?_)
      refine EJ_iald 33 h13 (dk_46 (bt bc_Hall_give_1 0 rfl)) rfl ?_
      refine EJ_iload 35 4 (dk_21 (bt bc_Hall_give_1 1 rfl) (bt bc_Hall_give_1 2 rfl)) rfl rfl ?_
      refine EJ_isub 36 (dk_100 (bt bc_Hall_give_1 3 rfl)) rfl ?_
      refine EJ_iast 37 h13 (dk_79 (bt bc_Hall_give_1 4 rfl)) rfl ?_
      refine EJ_aload_n 38 0 (dk_42 (bt bc_Hall_give_1 5 rfl)) rfl rfl ?_
      refine EJ_getR cf11 1 (by decide) 41 tw_201 (fun _ _ _ => rfl) (dk_180 (bt bc_Hall_give_1 6 rfl) (bt bc_Hall_give_1 7 rfl) (bt bc_Hall_give_1 8 rfl) (n := 18) rfl) rfl (kp_I (of_decide_eq_true h7)) (fun b15 => ?_)
      refine EJ_iload_n 42 2 (dk_28 (bt bc_Hall_give_1 9 rfl)) rfl rfl ?_
      refine EJ_ck (fun h16 => ?_)
      refine EJ_aald 4 43 (by decide) (by decide) rfl h16 (dk_50 (bt bc_Hall_give_1 10 rfl)) rfl (fun b17 => ?_)
      refine EJ_ck (fun h18 => ?_)
      refine EJ_getR cf6 1 (by decide) 46 tw_341 (fun _ _ _ => rfl) (dk_180 (bt bc_Hall_give_1 11 rfl) (bt bc_Hall_give_1 12 rfl) (bt bc_Hall_give_1 13 rfl) (n := 117) rfl) rfl (of_decide_eq_true h18) (fun b19 => ?_)
      refine EJ_iload_n 47 3 (dk_29 (bt bc_Hall_give_1 14 rfl)) rfl rfl ?_
      refine EJ_dup2 48 (dk_92 (bt bc_Hall_give_1 15 rfl)) rfl rfl rfl ?_
      refine EJ_ck (fun h20 => ?_)
      refine EJ_iald 49 h20 (dk_46 (bt bc_Hall_give_1 16 rfl)) rfl ?_
      refine EJ_iload 51 4 (dk_21 (bt bc_Hall_give_1 17 rfl) (bt bc_Hall_give_1 18 rfl)) rfl rfl ?_
      refine EJ_iadd 52 (dk_96 (bt bc_Hall_give_1 19 rfl)) rfl ?_
      refine EJ_iast 53 h20 (dk_79 (bt bc_Hall_give_1 20 rfl)) rfl ?_
      refine EJ_iconst 54 (dk_4 (bt bc_Hall_give_1 21 rfl)) rfl (v := 1) kI_1 ?_
      exact EJ_zret rfl (by decide) (dk_172 (bt bc_Hall_give_1 22 rfl))
    · refine EJ_iconst 20 (dk_3 (bt bc_Hall_give_0 19 rfl)) rfl (v := 0) kI_0 ?_
      exact EJ_zret rfl (by decide) (dk_172 (bt bc_Hall_give_0 20 rfl))
abbrev Y_Hall_call : Ym := (⟨"RiceHall", "call", "(III)I"⟩, prog_1_method_11_code, 4, (some FieldType.int))
theorem bc_Hall_call_0 : bts prog_1_method_11_code 0 [42, 27, 28, 29, 182, 0, 129, 153, 0, 12, 42, 180, 0, 132, 16, 60, 161, 0, 5, 2, 172, 42, 89, 180, 0, 132, 4, 96, 181, 0, 132, 42] := bts_of (by decide +kernel)
theorem bc_Hall_call_1 : bts prog_1_method_11_code 32 [180, 0, 18, 27, 50, 180, 0, 117, 28, 92, 46, 29, 100, 79, 42, 180, 0, 24, 28, 50, 27, 29, 42, 180, 0, 120, 182, 0, 135, 42, 180, 0] := bts_of (by decide +kernel)
theorem bc_Hall_call_2 : bts prog_1_method_11_code 64 [24, 28, 50, 42, 180, 0, 18, 182, 0, 139, 172] := bts_of (by decide +kernel)
theorem hd_Hall_call : Y_Hall_call.1.cls = RX11 ∧ Y_Hall_call.1.cls ≠ "java/lang/invoke/MethodHandle" ∧ Y_Hall_call.1.cls ≠ "java/lang/invoke/VarHandle" ∧ (parseMethodDescriptor Y_Hall_call.1.desc).map (fun d => d.parameters.length) = some 3 := by decide +kernel
def Hall_call (M : Mm) (a0 : Nat) (a1 : Int32) (a2 : Int32) (a3 : Int32) : Option (Int32 × Mm) :=
  ck (kO M a0 11 18) (
  bd (Hall_holdsPaper M a0 a1 a2 a3) (fun r2 M3 =>
  if r2 = 0 then (
    some ((-1), M3))
  else (
    ck (kO M3 a0 11 18) (
    if (mI M3 a0 6) < 60 then (
      let M5 := sI M3 a0 6 ((mI M3 a0 6) + 1)
      nn (mR M5 a0 1) (fun b6 =>
      ck (kA M5 b6 24 a1) (
      nn (mR M5 b6 (ix a1)) (fun b8 =>
      ck (kO M5 b8 6 9) (
      nn (mR M5 b8 1) (fun b10 =>
      ck (kA M5 b10 20 a2) (
      let M12 := sI M5 b10 (ix a2) ((mI M5 b10 (ix a2)) - a3)
      nn (mR M12 a0 3) (fun b13 =>
      ck (kA M12 b13 25 a2) (
      nn (mR M12 b13 (ix a2)) (fun b15 =>
      ck (kO M12 b15 10 14) (
      bd (Store_addWait M12 b15 a1 a3 (mI M12 a0 16)) (fun _ M18 =>
      ck (kO M18 a0 11 18) (
      nn (mR M18 a0 3) (fun b20 =>
      ck (kA M18 b20 25 a2) (
      nn (mR M18 b20 (ix a2)) (fun b22 =>
      nn (mR M18 a0 1) (fun b23 =>
      ck (kO M18 b22 10 14) (
      bd (Store_serve M18 b22 b23) (fun r25 M26 =>
      some (r25, M26))))))))))))))))))))
    else (
      some ((-1), M3))))))
set_option maxRecDepth 100000 in
set_option maxHeartbeats 4000000 in
theorem s_Hall_call (G : Gx) (M : Mm) (a0 : Nat) (a1 : Int32) (a2 : Int32) (a3 : Int32) : FnS G Y_Hall_call cvI 3 [.ref a0, .int a1, .int a2, .int a3] M (Hall_call M a0 a1 a2 a3) := by
  refine FnS.ofE (by decide) (Nat.le_of_ble_eq_true rfl) ?_
  show EJ G Y_Hall_call cvI 3 0 [(0, .ref a0), (1, .int a1), (2, .int a2), (3, .int a3)] [] M _
  unfold Hall_call
  refine EJ_aload_n 1 0 (dk_42 (bt bc_Hall_call_0 0 rfl)) rfl rfl ?_
  refine EJ_iload_n 2 1 (dk_27 (bt bc_Hall_call_0 1 rfl)) rfl rfl ?_
  refine EJ_iload_n 3 2 (dk_28 (bt bc_Hall_call_0 2 rfl)) rfl rfl ?_
  refine EJ_iload_n 4 3 (dk_29 (bt bc_Hall_call_0 3 rfl)) rfl rfl ?_
  refine EJ_ck (fun h1 => ?_)
  refine EJ_callVi (Y2 := Y_Hall_holdsPaper) 7 cf11 (s_Hall_holdsPaper G _ _ _ _ _) (of_decide_eq_true h1) rfl (dk_182 (bt bc_Hall_call_0 4 rfl) (bt bc_Hall_call_0 5 rfl) (bt bc_Hall_call_0 6 rfl) (n := 129) rfl) rfl tw_473 tw_475 ts_9 tw_476 hd_Hall_holdsPaper rfl (by decide) (Nat.le_of_ble_eq_true rfl) (fun r2 M3 => ?_)
  refine EJ_if_eq 19 10 (dk_153 (bt bc_Hall_call_0 7 rfl) (bt bc_Hall_call_0 8 rfl) (bt bc_Hall_call_0 9 rfl) (n := 12) rfl) (by decide) rfl (fun _ => ?_) (fun _ => ?_)
  · refine EJ_iconst 20 (dk_2 (bt bc_Hall_call_0 19 rfl)) rfl (v := (-1)) kI_m1 ?_
    exact EJ_iret rfl (dk_172 (bt bc_Hall_call_0 20 rfl))
  · refine EJ_aload_n 11 0 (dk_42 (bt bc_Hall_call_0 10 rfl)) rfl rfl ?_
    refine EJ_ck (fun h4 => ?_)
    refine EJ_getI cf11 6 (by decide) 14 tw_206 (fun _ _ _ => rfl) (dk_180 (bt bc_Hall_call_0 11 rfl) (bt bc_Hall_call_0 12 rfl) (bt bc_Hall_call_0 13 rfl) (n := 132) rfl) rfl (of_decide_eq_true h4) ?_
    refine EJ_bipush 16 (dk_16 (bt bc_Hall_call_0 14 rfl) (bt bc_Hall_call_0 15 rfl) (n := 60) rfl) rfl (v := 60) kB_60 ?_
    refine EJ_icmp_lt 21 19 (dk_161 (bt bc_Hall_call_0 16 rfl) (bt bc_Hall_call_0 17 rfl) (bt bc_Hall_call_0 18 rfl) (n := 5) rfl) (by decide) rfl (fun _ => ?_) (fun _ => ?_)
    · refine EJ_aload_n 22 0 (dk_42 (bt bc_Hall_call_0 21 rfl)) rfl rfl ?_
      refine EJ_dup 23 (dk_89 (bt bc_Hall_call_0 22 rfl)) rfl rfl ?_
      refine EJ_getI cf11 6 (by decide) 26 tw_206 (fun _ _ _ => rfl) (dk_180 (bt bc_Hall_call_0 23 rfl) (bt bc_Hall_call_0 24 rfl) (bt bc_Hall_call_0 25 rfl) (n := 132) rfl) rfl (of_decide_eq_true h4) ?_
      refine EJ_iconst 27 (dk_4 (bt bc_Hall_call_0 26 rfl)) rfl (v := 1) kI_1 ?_
      refine EJ_iadd 28 (dk_96 (bt bc_Hall_call_0 27 rfl)) rfl ?_
      refine EJ_putI cf11 6 (by decide) 31 tw_206 rfl (Or.inl rfl) (dk_181 (bt bc_Hall_call_0 28 rfl) (bt bc_Hall_call_0 29 rfl) (bt bc_Hall_call_0 30 rfl) (n := 132) rfl) rfl (of_decide_eq_true h4) ?_
      refine EJ_aload_n 32 0 (dk_42 (bt bc_Hall_call_0 31 rfl)) rfl rfl ?_
      refine EJ_getR cf11 1 (by decide) 35 tw_201 (fun _ _ _ => rfl) (dk_180 (bt bc_Hall_call_1 0 rfl) (bt bc_Hall_call_1 1 rfl) (bt bc_Hall_call_1 2 rfl) (n := 18) rfl) rfl (kp_I (of_decide_eq_true h4)) (fun b6 => ?_)
      refine EJ_iload_n 36 1 (dk_27 (bt bc_Hall_call_1 3 rfl)) rfl rfl ?_
      refine EJ_ck (fun h7 => ?_)
      refine EJ_aald 4 37 (by decide) (by decide) rfl h7 (dk_50 (bt bc_Hall_call_1 4 rfl)) rfl (fun b8 => ?_)
      refine EJ_ck (fun h9 => ?_)
      refine EJ_getR cf6 1 (by decide) 40 tw_341 (fun _ _ _ => rfl) (dk_180 (bt bc_Hall_call_1 5 rfl) (bt bc_Hall_call_1 6 rfl) (bt bc_Hall_call_1 7 rfl) (n := 117) rfl) rfl (of_decide_eq_true h9) (fun b10 => ?_)
      refine EJ_iload_n 41 2 (dk_28 (bt bc_Hall_call_1 8 rfl)) rfl rfl ?_
      refine EJ_dup2 42 (dk_92 (bt bc_Hall_call_1 9 rfl)) rfl rfl rfl ?_
      refine EJ_ck (fun h11 => ?_)
      refine EJ_iald 43 h11 (dk_46 (bt bc_Hall_call_1 10 rfl)) rfl ?_
      refine EJ_iload_n 44 3 (dk_29 (bt bc_Hall_call_1 11 rfl)) rfl rfl ?_
      refine EJ_isub 45 (dk_100 (bt bc_Hall_call_1 12 rfl)) rfl ?_
      refine EJ_iast 46 h11 (dk_79 (bt bc_Hall_call_1 13 rfl)) rfl ?_
      refine EJ_aload_n 47 0 (dk_42 (bt bc_Hall_call_1 14 rfl)) rfl rfl ?_
      refine EJ_getR cf11 3 (by decide) 50 tw_203 (fun _ _ _ => rfl) (dk_180 (bt bc_Hall_call_1 15 rfl) (bt bc_Hall_call_1 16 rfl) (bt bc_Hall_call_1 17 rfl) (n := 24) rfl) rfl (kp_I (kp_I (of_decide_eq_true h4))) (fun b13 => ?_)
      refine EJ_iload_n 51 2 (dk_28 (bt bc_Hall_call_1 18 rfl)) rfl rfl ?_
      refine EJ_ck (fun h14 => ?_)
      refine EJ_aald 5 52 (by decide) (by decide) rfl h14 (dk_50 (bt bc_Hall_call_1 19 rfl)) rfl (fun b15 => ?_)
      refine EJ_iload_n 53 1 (dk_27 (bt bc_Hall_call_1 20 rfl)) rfl rfl ?_
      refine EJ_iload_n 54 3 (dk_29 (bt bc_Hall_call_1 21 rfl)) rfl rfl ?_
      refine EJ_aload_n 55 0 (dk_42 (bt bc_Hall_call_1 22 rfl)) rfl rfl ?_
      refine EJ_getI cf11 16 (by decide) 58 tw_216 (fun _ _ _ => rfl) (dk_180 (bt bc_Hall_call_1 23 rfl) (bt bc_Hall_call_1 24 rfl) (bt bc_Hall_call_1 25 rfl) (n := 120) rfl) rfl (kp_I (kp_I (of_decide_eq_true h4))) ?_
      refine EJ_ck (fun h16 => ?_)
      refine EJ_callVv (Y2 := Y_Store_addWait) 61 cf10 (s_Store_addWait G _ _ _ _ _) (of_decide_eq_true h16) rfl (dk_182 (bt bc_Hall_call_1 26 rfl) (bt bc_Hall_call_1 27 rfl) (bt bc_Hall_call_1 28 rfl) (n := 135) rfl) rfl tw_481 tw_482 tw_483 tw_484 hd_Store_addWait rfl (by decide) (Nat.le_of_ble_eq_true rfl) (fun _ M18 => ?_)
      refine EJ_aload_n 62 0 (dk_42 (bt bc_Hall_call_1 29 rfl)) rfl rfl ?_
      refine EJ_ck (fun h19 => ?_)
      refine EJ_getR cf11 3 (by decide) 65 tw_203 (fun _ _ _ => rfl) (dk_180 (bt bc_Hall_call_1 30 rfl) (bt bc_Hall_call_1 31 rfl) (bt bc_Hall_call_2 0 rfl) (n := 24) rfl) rfl (of_decide_eq_true h19) (fun b20 => ?_)
      refine EJ_iload_n 66 2 (dk_28 (bt bc_Hall_call_2 1 rfl)) rfl rfl ?_
      refine EJ_ck (fun h21 => ?_)
      refine EJ_aald 5 67 (by decide) (by decide) rfl h21 (dk_50 (bt bc_Hall_call_2 2 rfl)) rfl (fun b22 => ?_)
      refine EJ_aload_n 68 0 (dk_42 (bt bc_Hall_call_2 3 rfl)) rfl rfl ?_
      refine EJ_getR cf11 1 (by decide) 71 tw_201 (fun _ _ _ => rfl) (dk_180 (bt bc_Hall_call_2 4 rfl) (bt bc_Hall_call_2 5 rfl) (bt bc_Hall_call_2 6 rfl) (n := 18) rfl) rfl (of_decide_eq_true h19) (fun b23 => ?_)
      refine EJ_ck (fun h24 => ?_)
      refine EJ_callVi (Y2 := Y_Store_serve) 74 cf10 (s_Store_serve G _ _ _) (of_decide_eq_true h24) rfl (dk_182 (bt bc_Hall_call_2 7 rfl) (bt bc_Hall_call_2 8 rfl) (bt bc_Hall_call_2 9 rfl) (n := 139) rfl) rfl tw_485 tw_486 tw_487 tw_488 hd_Store_serve rfl (by decide) (Nat.le_of_ble_eq_true rfl) (fun r25 M26 => ?_)
      exact EJ_iret rfl (dk_172 (bt bc_Hall_call_2 10 rfl))
    · refine EJ_iconst 20 (dk_2 (bt bc_Hall_call_0 19 rfl)) rfl (v := (-1)) kI_m1 ?_
      exact EJ_iret rfl (dk_172 (bt bc_Hall_call_0 20 rfl))
abbrev Y_Hall_come : Ym := (⟨"RiceHall", "come", "(II)I"⟩, prog_1_method_12_code, 3, (some FieldType.int))
theorem bc_Hall_come_0 : bts prog_1_method_12_code 0 [42, 27, 182, 0, 108, 153, 0, 30, 28, 4, 17, 39, 15, 184, 0, 80, 153, 0, 19, 42, 180, 0, 24, 27, 50, 180, 0, 143, 28, 96, 18, 146] := bts_of (by decide +kernel)
theorem bc_Hall_come_1 : bts prog_1_method_12_code 32 [164, 0, 5, 2, 172, 42, 180, 0, 24, 27, 50, 89, 180, 0, 143, 28, 96, 181, 0, 143, 42, 180, 0, 24, 27, 50, 42, 180, 0, 18, 182, 0] := bts_of (by decide +kernel)
theorem bc_Hall_come_2 : bts prog_1_method_12_code 64 [139, 172] := bts_of (by decide +kernel)
theorem hd_Hall_come : Y_Hall_come.1.cls = RX11 ∧ Y_Hall_come.1.cls ≠ "java/lang/invoke/MethodHandle" ∧ Y_Hall_come.1.cls ≠ "java/lang/invoke/VarHandle" ∧ (parseMethodDescriptor Y_Hall_come.1.desc).map (fun d => d.parameters.length) = some 2 := by decide +kernel
def Hall_come (M : Mm) (a0 : Nat) (a1 : Int32) (a2 : Int32) : Option (Int32 × Mm) :=
  ck (kO M a0 11 18) (
  bd (Hall_isStore M a0 a1) (fun r2 M3 =>
  if r2 = 0 then (
    some ((-1), M3))
  else (
    bd (Hall_isWithin M3 a2 1 9999) (fun r4 M5 =>
    if r4 = 0 then (
      some ((-1), M5))
    else (
      ck (kO M5 a0 11 18) (
      nn (mR M5 a0 3) (fun b7 =>
      ck (kA M5 b7 25 a1) (
      nn (mR M5 b7 (ix a1)) (fun b9 =>
      ck (kO M5 b9 10 14) (
      if ((mI M5 b9 8) + a2) ≤ 99999 then (
        nn (mR M5 a0 3) (fun b11 =>
        ck (kA M5 b11 25 a1) (
        nn (mR M5 b11 (ix a1)) (fun b13 =>
        ck (kO M5 b13 10 14) (
        let M15 := sI M5 b13 8 ((mI M5 b13 8) + a2)
        nn (mR M15 a0 3) (fun b16 =>
        ck (kA M15 b16 25 a1) (
        nn (mR M15 b16 (ix a1)) (fun b18 =>
        nn (mR M15 a0 1) (fun b19 =>
        ck (kO M15 b18 10 14) (
        bd (Store_serve M15 b18 b19) (fun r21 M22 =>
        some (r21, M22))))))))))))
      else (
        some ((-1), M5))))))))))))
set_option maxRecDepth 100000 in
set_option maxHeartbeats 4000000 in
theorem s_Hall_come (G : Gx) (M : Mm) (a0 : Nat) (a1 : Int32) (a2 : Int32) : FnS G Y_Hall_come cvI 3 [.ref a0, .int a1, .int a2] M (Hall_come M a0 a1 a2) := by
  refine FnS.ofE (by decide) (Nat.le_of_ble_eq_true rfl) ?_
  show EJ G Y_Hall_come cvI 3 0 [(0, .ref a0), (1, .int a1), (2, .int a2)] [] M _
  unfold Hall_come
  refine EJ_aload_n 1 0 (dk_42 (bt bc_Hall_come_0 0 rfl)) rfl rfl ?_
  refine EJ_iload_n 2 1 (dk_27 (bt bc_Hall_come_0 1 rfl)) rfl rfl ?_
  refine EJ_ck (fun h1 => ?_)
  refine EJ_callVi (Y2 := Y_Hall_isStore) 5 cf11 (s_Hall_isStore G _ _ _) (of_decide_eq_true h1) rfl (dk_182 (bt bc_Hall_come_0 2 rfl) (bt bc_Hall_come_0 3 rfl) (bt bc_Hall_come_0 4 rfl) (n := 108) rfl) rfl tw_453 tw_455 ts_7 tw_456 hd_Hall_isStore rfl (by decide) (Nat.le_of_ble_eq_true rfl) (fun r2 M3 => ?_)
  refine EJ_if_eq 35 8 (dk_153 (bt bc_Hall_come_0 5 rfl) (bt bc_Hall_come_0 6 rfl) (bt bc_Hall_come_0 7 rfl) (n := 30) rfl) (by decide) rfl (fun _ => ?_) (fun _ => ?_)
  · refine EJ_iconst 36 (dk_2 (bt bc_Hall_come_1 3 rfl)) rfl (v := (-1)) kI_m1 ?_
    exact EJ_iret rfl (dk_172 (bt bc_Hall_come_1 4 rfl))
  · refine EJ_iload_n 9 2 (dk_28 (bt bc_Hall_come_0 8 rfl)) rfl rfl ?_
    refine EJ_iconst 10 (dk_4 (bt bc_Hall_come_0 9 rfl)) rfl (v := 1) kI_1 ?_
    refine EJ_sipush 13 (dk_17 (bt bc_Hall_come_0 10 rfl) (bt bc_Hall_come_0 11 rfl) (bt bc_Hall_come_0 12 rfl) (n := 9999) rfl) rfl (v := 9999) kS_9999 ?_
    refine EJ_callSi (Y2 := Y_Hall_isWithin) 16 (s_Hall_isWithin G _ _ _ _) rfl (dk_184 (bt bc_Hall_come_0 13 rfl) (bt bc_Hall_come_0 14 rfl) (bt bc_Hall_come_0 15 rfl) (n := 80) rfl) rfl tw_292 tw_276 tw_1 tw_277 hd_Hall_isWithin rfl (by decide) (Nat.le_of_ble_eq_true rfl) (fun r4 M5 => ?_)
    refine EJ_if_eq 35 19 (dk_153 (bt bc_Hall_come_0 16 rfl) (bt bc_Hall_come_0 17 rfl) (bt bc_Hall_come_0 18 rfl) (n := 19) rfl) (by decide) rfl (fun _ => ?_) (fun _ => ?_)
    · refine EJ_iconst 36 (dk_2 (bt bc_Hall_come_1 3 rfl)) rfl (v := (-1)) kI_m1 ?_
      exact EJ_iret rfl (dk_172 (bt bc_Hall_come_1 4 rfl))
    · refine EJ_aload_n 20 0 (dk_42 (bt bc_Hall_come_0 19 rfl)) rfl rfl ?_
      refine EJ_ck (fun h6 => ?_)
      refine EJ_getR cf11 3 (by decide) 23 tw_203 (fun _ _ _ => rfl) (dk_180 (bt bc_Hall_come_0 20 rfl) (bt bc_Hall_come_0 21 rfl) (bt bc_Hall_come_0 22 rfl) (n := 24) rfl) rfl (of_decide_eq_true h6) (fun b7 => ?_)
      refine EJ_iload_n 24 1 (dk_27 (bt bc_Hall_come_0 23 rfl)) rfl rfl ?_
      refine EJ_ck (fun h8 => ?_)
      refine EJ_aald 5 25 (by decide) (by decide) rfl h8 (dk_50 (bt bc_Hall_come_0 24 rfl)) rfl (fun b9 => ?_)
      refine EJ_ck (fun h10 => ?_)
      refine EJ_getI cf10 8 (by decide) 28 tw_409 (fun _ _ _ => rfl) (dk_180 (bt bc_Hall_come_0 25 rfl) (bt bc_Hall_come_0 26 rfl) (bt bc_Hall_come_0 27 rfl) (n := 143) rfl) rfl (of_decide_eq_true h10) ?_
      refine EJ_iload_n 29 2 (dk_28 (bt bc_Hall_come_0 28 rfl)) rfl rfl ?_
      refine EJ_iadd 30 (dk_96 (bt bc_Hall_come_0 29 rfl)) rfl ?_
      refine EJ_ldc 32 (dk_18 (bt bc_Hall_come_0 30 rfl) (bt bc_Hall_come_0 31 rfl)) rfl tw_494 ?_
      refine EJ_icmp_le 37 35 (dk_164 (bt bc_Hall_come_1 0 rfl) (bt bc_Hall_come_1 1 rfl) (bt bc_Hall_come_1 2 rfl) (n := 5) rfl) (by decide) rfl (fun _ => ?_) (fun _ => ?_)
      · refine EJ_aload_n 38 0 (dk_42 (bt bc_Hall_come_1 5 rfl)) rfl rfl ?_
        refine EJ_getR cf11 3 (by decide) 41 tw_203 (fun _ _ _ => rfl) (dk_180 (bt bc_Hall_come_1 6 rfl) (bt bc_Hall_come_1 7 rfl) (bt bc_Hall_come_1 8 rfl) (n := 24) rfl) rfl (of_decide_eq_true h6) (fun b11 => ?_)
        refine EJ_iload_n 42 1 (dk_27 (bt bc_Hall_come_1 9 rfl)) rfl rfl ?_
        refine EJ_ck (fun h12 => ?_)
        refine EJ_aald 5 43 (by decide) (by decide) rfl h12 (dk_50 (bt bc_Hall_come_1 10 rfl)) rfl (fun b13 => ?_)
        refine EJ_dup 44 (dk_89 (bt bc_Hall_come_1 11 rfl)) rfl rfl ?_
        refine EJ_ck (fun h14 => ?_)
        refine EJ_getI cf10 8 (by decide) 47 tw_409 (fun _ _ _ => rfl) (dk_180 (bt bc_Hall_come_1 12 rfl) (bt bc_Hall_come_1 13 rfl) (bt bc_Hall_come_1 14 rfl) (n := 143) rfl) rfl (of_decide_eq_true h14) ?_
        refine EJ_iload_n 48 2 (dk_28 (bt bc_Hall_come_1 15 rfl)) rfl rfl ?_
        refine EJ_iadd 49 (dk_96 (bt bc_Hall_come_1 16 rfl)) rfl ?_
        refine EJ_putI cf10 8 (by decide) 52 tw_409 rfl (Or.inl rfl) (dk_181 (bt bc_Hall_come_1 17 rfl) (bt bc_Hall_come_1 18 rfl) (bt bc_Hall_come_1 19 rfl) (n := 143) rfl) rfl (of_decide_eq_true h14) ?_
        refine EJ_aload_n 53 0 (dk_42 (bt bc_Hall_come_1 20 rfl)) rfl rfl ?_
        refine EJ_getR cf11 3 (by decide) 56 tw_203 (fun _ _ _ => rfl) (dk_180 (bt bc_Hall_come_1 21 rfl) (bt bc_Hall_come_1 22 rfl) (bt bc_Hall_come_1 23 rfl) (n := 24) rfl) rfl (kp_I (of_decide_eq_true h6)) (fun b16 => ?_)
        refine EJ_iload_n 57 1 (dk_27 (bt bc_Hall_come_1 24 rfl)) rfl rfl ?_
        refine EJ_ck (fun h17 => ?_)
        refine EJ_aald 5 58 (by decide) (by decide) rfl h17 (dk_50 (bt bc_Hall_come_1 25 rfl)) rfl (fun b18 => ?_)
        refine EJ_aload_n 59 0 (dk_42 (bt bc_Hall_come_1 26 rfl)) rfl rfl ?_
        refine EJ_getR cf11 1 (by decide) 62 tw_201 (fun _ _ _ => rfl) (dk_180 (bt bc_Hall_come_1 27 rfl) (bt bc_Hall_come_1 28 rfl) (bt bc_Hall_come_1 29 rfl) (n := 18) rfl) rfl (kp_I (of_decide_eq_true h6)) (fun b19 => ?_)
        refine EJ_ck (fun h20 => ?_)
        refine EJ_callVi (Y2 := Y_Store_serve) 65 cf10 (s_Store_serve G _ _ _) (of_decide_eq_true h20) rfl (dk_182 (bt bc_Hall_come_1 30 rfl) (bt bc_Hall_come_1 31 rfl) (bt bc_Hall_come_2 0 rfl) (n := 139) rfl) rfl tw_485 tw_486 tw_487 tw_488 hd_Store_serve rfl (by decide) (Nat.le_of_ble_eq_true rfl) (fun r21 M22 => ?_)
        exact EJ_iret rfl (dk_172 (bt bc_Hall_come_2 1 rfl))
      · refine EJ_iconst 36 (dk_2 (bt bc_Hall_come_1 3 rfl)) rfl (v := (-1)) kI_m1 ?_
        exact EJ_iret rfl (dk_172 (bt bc_Hall_come_1 4 rfl))
abbrev Y_Hall_lookAround : Ym := (⟨"RiceHall", "lookAround", "()V"⟩, prog_1_method_52_code, 4, none)
theorem bc_Hall_lookAround_0 : bts prog_1_method_52_code 0 [3, 60, 3, 61, 3, 62, 29, 42, 180, 0, 104, 162, 0, 33, 27, 42, 180, 0, 24, 29, 50, 180, 0, 143, 96, 60, 28, 42, 180, 0, 24, 29] := bts_of (by decide +kernel)
theorem bc_Hall_lookAround_1 : bts prog_1_method_52_code 32 [50, 182, 0, 126, 96, 61, 132, 3, 1, 167, 255, 221, 42, 180, 0, 35, 42, 180, 0, 120, 42, 180, 0, 249, 182, 1, 158, 42, 180, 0, 35, 42] := bts_of (by decide +kernel)
theorem bc_Hall_lookAround_2 : bts prog_1_method_52_code 64 [180, 0, 42, 182, 1, 105, 42, 180, 0, 42, 180, 1, 126, 27, 28, 182, 1, 161, 177] := bts_of (by decide +kernel)
theorem hd_Hall_lookAround : Y_Hall_lookAround.1.cls = RX11 ∧ Y_Hall_lookAround.1.cls ≠ "java/lang/invoke/MethodHandle" ∧ Y_Hall_lookAround.1.cls ≠ "java/lang/invoke/VarHandle" ∧ (parseMethodDescriptor Y_Hall_lookAround.1.desc).map (fun d => d.parameters.length) = some 0 := by decide +kernel
def Hall_lookAround_B6 (k6 : Nat → Int32 → Int32 → Int32 → Mm → Option (Unit × Mm)) (x0 : Nat) (x1 : Int32) (x2 : Int32) (x3 : Int32) (M : Mm) : Option (Unit × Mm) :=
  ck (kO M x0 11 18) (
  if (mI M x0 4) ≤ x3 then (
    nn (mR M x0 9) (fun b2 =>
    ck (kO M b2 5 5) (
    bd (Law_lookAtClock M b2 (mI M x0 16) (mI M x0 17)) (fun _ M5 =>
    ck (kO M5 x0 11 18) (
    nn (mR M5 x0 9) (fun b7 =>
    nn (mR M5 x0 10) (fun b8 =>
    ck (kO M5 b8 3 7) (
    bd (House_latestClose M5 b8) (fun r10 M11 =>
    ck (kO M11 x0 11 18) (
    nn (mR M11 x0 10) (fun b13 =>
    ck (kO M11 b13 3 7) (
    ck (kO M11 b7 5 5) (
    bd (Law_lookAtMarket M11 b7 r10 (mI M11 b13 2) x1 x2) (fun _ M17 =>
    some ((), M17)))))))))))))))
  else (
    nn (mR M x0 3) (fun b18 =>
    ck (kA M b18 25 x3) (
    nn (mR M b18 (ix x3)) (fun b20 =>
    ck (kO M b20 10 14) (
    let v22 : Int32 := x1 + (mI M b20 8)
    nn (mR M x0 3) (fun b23 =>
    ck (kA M b23 25 x3) (
    nn (mR M b23 (ix x3)) (fun b25 =>
    ck (kO M b25 10 14) (
    bd (Store_out M b25) (fun r27 M28 =>
    let v29 : Int32 := x2 + r27
    let v30 : Int32 := x3 + 1
    k6 x0 v22 v29 v30 M28)))))))))))
set_option maxRecDepth 100000 in
set_option maxHeartbeats 4000000 in
theorem e_Hall_lookAround_B6 {G : Gx} (k6 : Nat → Int32 → Int32 → Int32 → Mm → Option (Unit × Mm)) (hk6 : ∀ (x0 : Nat) (x1 : Int32) (x2 : Int32) (x3 : Int32) (M : Mm), EJ G Y_Hall_lookAround cvV 2 6 [(0, .ref x0), (1, .int x1), (2, .int x2), (3, .int x3)] [] M (k6 x0 x1 x2 x3 M)) (x0 : Nat) (x1 : Int32) (x2 : Int32) (x3 : Int32) (M : Mm) : EJ G Y_Hall_lookAround cvV 2 6 [(0, .ref x0), (1, .int x1), (2, .int x2), (3, .int x3)] [] M (Hall_lookAround_B6 k6 x0 x1 x2 x3 M) := by
  unfold Hall_lookAround_B6
  refine EJ_iload_n 7 3 (dk_29 (bt bc_Hall_lookAround_0 6 rfl)) rfl rfl ?_
  refine EJ_aload_n 8 0 (dk_42 (bt bc_Hall_lookAround_0 7 rfl)) rfl rfl ?_
  refine EJ_ck (fun h1 => ?_)
  refine EJ_getI cf11 4 (by decide) 11 tw_204 (fun _ _ _ => rfl) (dk_180 (bt bc_Hall_lookAround_0 8 rfl) (bt bc_Hall_lookAround_0 9 rfl) (bt bc_Hall_lookAround_0 10 rfl) (n := 104) rfl) rfl (of_decide_eq_true h1) ?_
  refine EJ_icmp_ge 44 14 (dk_162 (bt bc_Hall_lookAround_0 11 rfl) (bt bc_Hall_lookAround_0 12 rfl) (bt bc_Hall_lookAround_0 13 rfl) (n := 33) rfl) (by decide) rfl (fun _ => ?_) (fun _ => ?_)
  · refine EJ_aload_n 45 0 (dk_42 (bt bc_Hall_lookAround_1 12 rfl)) rfl rfl ?_
    refine EJ_getR cf11 9 (by decide) 48 tw_209 (fun _ _ _ => rfl) (dk_180 (bt bc_Hall_lookAround_1 13 rfl) (bt bc_Hall_lookAround_1 14 rfl) (bt bc_Hall_lookAround_1 15 rfl) (n := 35) rfl) rfl (of_decide_eq_true h1) (fun b2 => ?_)
    refine EJ_aload_n 49 0 (dk_42 (bt bc_Hall_lookAround_1 16 rfl)) rfl rfl ?_
    refine EJ_getI cf11 16 (by decide) 52 tw_216 (fun _ _ _ => rfl) (dk_180 (bt bc_Hall_lookAround_1 17 rfl) (bt bc_Hall_lookAround_1 18 rfl) (bt bc_Hall_lookAround_1 19 rfl) (n := 120) rfl) rfl (of_decide_eq_true h1) ?_
    refine EJ_aload_n 53 0 (dk_42 (bt bc_Hall_lookAround_1 20 rfl)) rfl rfl ?_
    refine EJ_getI cf11 17 (by decide) 56 tw_217 (fun _ _ _ => rfl) (dk_180 (bt bc_Hall_lookAround_1 21 rfl) (bt bc_Hall_lookAround_1 22 rfl) (bt bc_Hall_lookAround_1 23 rfl) (n := 249) rfl) rfl (of_decide_eq_true h1) ?_
    refine EJ_ck (fun h3 => ?_)
    refine EJ_callVv (Y2 := Y_Law_lookAtClock) 59 cf5 (s_Law_lookAtClock G _ _ _ _) (of_decide_eq_true h3) rfl (dk_182 (bt bc_Hall_lookAround_1 24 rfl) (bt bc_Hall_lookAround_1 25 rfl) (bt bc_Hall_lookAround_1 26 rfl) (n := 414) rfl) rfl tw_507 tw_508 tw_509 tw_510 hd_Law_lookAtClock rfl (by decide) (Nat.le_of_ble_eq_true rfl) (fun _ M5 => ?_)
    refine EJ_aload_n 60 0 (dk_42 (bt bc_Hall_lookAround_1 27 rfl)) rfl rfl ?_
    refine EJ_ck (fun h6 => ?_)
    refine EJ_getR cf11 9 (by decide) 63 tw_209 (fun _ _ _ => rfl) (dk_180 (bt bc_Hall_lookAround_1 28 rfl) (bt bc_Hall_lookAround_1 29 rfl) (bt bc_Hall_lookAround_1 30 rfl) (n := 35) rfl) rfl (of_decide_eq_true h6) (fun b7 => ?_)
    refine EJ_aload_n 64 0 (dk_42 (bt bc_Hall_lookAround_1 31 rfl)) rfl rfl ?_
    refine EJ_getR cf11 10 (by decide) 67 tw_210 (fun _ _ _ => rfl) (dk_180 (bt bc_Hall_lookAround_2 0 rfl) (bt bc_Hall_lookAround_2 1 rfl) (bt bc_Hall_lookAround_2 2 rfl) (n := 42) rfl) rfl (of_decide_eq_true h6) (fun b8 => ?_)
    refine EJ_ck (fun h9 => ?_)
    refine EJ_callVi (Y2 := Y_House_latestClose) 70 cf3 (s_House_latestClose G _ _) (of_decide_eq_true h9) rfl (dk_182 (bt bc_Hall_lookAround_2 3 rfl) (bt bc_Hall_lookAround_2 4 rfl) (bt bc_Hall_lookAround_2 5 rfl) (n := 361) rfl) rfl tw_511 tw_512 tw_513 tw_514 hd_House_latestClose rfl (by decide) (Nat.le_of_ble_eq_true rfl) (fun r10 M11 => ?_)
    refine EJ_aload_n 71 0 (dk_42 (bt bc_Hall_lookAround_2 6 rfl)) rfl rfl ?_
    refine EJ_ck (fun h12 => ?_)
    refine EJ_getR cf11 10 (by decide) 74 tw_210 (fun _ _ _ => rfl) (dk_180 (bt bc_Hall_lookAround_2 7 rfl) (bt bc_Hall_lookAround_2 8 rfl) (bt bc_Hall_lookAround_2 9 rfl) (n := 42) rfl) rfl (of_decide_eq_true h12) (fun b13 => ?_)
    refine EJ_ck (fun h14 => ?_)
    refine EJ_getI cf3 2 (by decide) 77 tw_149 (fun _ _ _ => rfl) (dk_180 (bt bc_Hall_lookAround_2 10 rfl) (bt bc_Hall_lookAround_2 11 rfl) (bt bc_Hall_lookAround_2 12 rfl) (n := 382) rfl) rfl (of_decide_eq_true h14) ?_
    refine EJ_iload_n 78 1 (dk_27 (bt bc_Hall_lookAround_2 13 rfl)) rfl rfl ?_
    refine EJ_iload_n 79 2 (dk_28 (bt bc_Hall_lookAround_2 14 rfl)) rfl rfl ?_
    refine EJ_ck (fun h15 => ?_)
    refine EJ_callVv (Y2 := Y_Law_lookAtMarket) 82 cf5 (s_Law_lookAtMarket G _ _ _ _ _ _) (of_decide_eq_true h15) rfl (dk_182 (bt bc_Hall_lookAround_2 15 rfl) (bt bc_Hall_lookAround_2 16 rfl) (bt bc_Hall_lookAround_2 17 rfl) (n := 417) rfl) rfl tw_515 tw_516 tw_517 tw_518 hd_Law_lookAtMarket rfl (by decide) (Nat.le_of_ble_eq_true rfl) (fun _ M17 => ?_)
    exact EJ_vret rfl (dk_177 (bt bc_Hall_lookAround_2 18 rfl))
  · refine EJ_iload_n 15 1 (dk_27 (bt bc_Hall_lookAround_0 14 rfl)) rfl rfl ?_
    refine EJ_aload_n 16 0 (dk_42 (bt bc_Hall_lookAround_0 15 rfl)) rfl rfl ?_
    refine EJ_getR cf11 3 (by decide) 19 tw_203 (fun _ _ _ => rfl) (dk_180 (bt bc_Hall_lookAround_0 16 rfl) (bt bc_Hall_lookAround_0 17 rfl) (bt bc_Hall_lookAround_0 18 rfl) (n := 24) rfl) rfl (of_decide_eq_true h1) (fun b18 => ?_)
    refine EJ_iload_n 20 3 (dk_29 (bt bc_Hall_lookAround_0 19 rfl)) rfl rfl ?_
    refine EJ_ck (fun h19 => ?_)
    refine EJ_aald 5 21 (by decide) (by decide) rfl h19 (dk_50 (bt bc_Hall_lookAround_0 20 rfl)) rfl (fun b20 => ?_)
    refine EJ_ck (fun h21 => ?_)
    refine EJ_getI cf10 8 (by decide) 24 tw_409 (fun _ _ _ => rfl) (dk_180 (bt bc_Hall_lookAround_0 21 rfl) (bt bc_Hall_lookAround_0 22 rfl) (bt bc_Hall_lookAround_0 23 rfl) (n := 143) rfl) rfl (of_decide_eq_true h21) ?_
    refine EJ_iadd 25 (dk_96 (bt bc_Hall_lookAround_0 24 rfl)) rfl ?_
    refine EJ_istore_n 26 (lv2 := [(1, .int _), (0, .ref _), (2, .int _), (3, .int _)]) (dk_60 (bt bc_Hall_lookAround_0 25 rfl)) rfl (by decide) rfl ?_
    refine EJ_iload_n 27 2 (dk_28 (bt bc_Hall_lookAround_0 26 rfl)) rfl rfl ?_
    refine EJ_aload_n 28 1 (dk_42 (bt bc_Hall_lookAround_0 27 rfl)) rfl rfl ?_
    refine EJ_getR cf11 3 (by decide) 31 tw_203 (fun _ _ _ => rfl) (dk_180 (bt bc_Hall_lookAround_0 28 rfl) (bt bc_Hall_lookAround_0 29 rfl) (bt bc_Hall_lookAround_0 30 rfl) (n := 24) rfl) rfl (of_decide_eq_true h1) (fun b23 => ?_)
    refine EJ_iload_n 32 3 (dk_29 (bt bc_Hall_lookAround_0 31 rfl)) rfl rfl ?_
    refine EJ_ck (fun h24 => ?_)
    refine EJ_aald 5 33 (by decide) (by decide) rfl h24 (dk_50 (bt bc_Hall_lookAround_1 0 rfl)) rfl (fun b25 => ?_)
    refine EJ_ck (fun h26 => ?_)
    refine EJ_callVi (Y2 := Y_Store_out) 36 cf10 (s_Store_out G _ _) (of_decide_eq_true h26) rfl (dk_182 (bt bc_Hall_lookAround_1 1 rfl) (bt bc_Hall_lookAround_1 2 rfl) (bt bc_Hall_lookAround_1 3 rfl) (n := 126) rfl) rfl tw_465 tw_466 tw_467 tw_468 hd_Store_out rfl (by decide) (Nat.le_of_ble_eq_true rfl) (fun r27 M28 => ?_)
    refine EJ_iadd 37 (dk_96 (bt bc_Hall_lookAround_1 4 rfl)) rfl ?_
    refine EJ_istore_n 38 (lv2 := [(2, .int _), (1, .int _), (0, .ref _), (3, .int _)]) (dk_61 (bt bc_Hall_lookAround_1 5 rfl)) rfl (by decide) rfl ?_
    refine EJ_iinc 41 3 (lv2 := [(3, .int _), (2, .int _), (1, .int _), (0, .ref _)]) (dk_132 (bt bc_Hall_lookAround_1 6 rfl) (bt bc_Hall_lookAround_1 7 rfl) (bt bc_Hall_lookAround_1 8 rfl) (n := 1) rfl) rfl (by decide) rfl (v := 1) kI_1 rfl ?_
    refine EJ_goto 6 (dk_167 (bt bc_Hall_lookAround_1 9 rfl) (bt bc_Hall_lookAround_1 10 rfl) (bt bc_Hall_lookAround_1 11 rfl) (n := -35) rfl) (by decide) ?_
    exact EJ_pick (lv2 := [(0, .ref _), (1, .int _), (2, .int _), (3, .int _)]) [3, 2, 1, 0] rfl (hk6 _ _ _ _ _)
def Hall_lookAround_L6 (n : Nat) : Nat → Int32 → Int32 → Int32 → Mm → Option (Unit × Mm) :=
  match n with
  | 0 => fun _ _ _ _ _ => none
  | n + 1 => Hall_lookAround_B6 (Hall_lookAround_L6 n)
theorem e_Hall_lookAround_L6 {G : Gx} : ∀ (n : Nat) (x0 : Nat) (x1 : Int32) (x2 : Int32) (x3 : Int32) (M : Mm), EJ G Y_Hall_lookAround cvV 2 6 [(0, .ref x0), (1, .int x1), (2, .int x2), (3, .int x3)] [] M (Hall_lookAround_L6 n x0 x1 x2 x3 M) := by
  intro n
  induction n with
  | zero => intros; exact EJ_none
  | succ n ih => intro x0 x1 x2 x3 M; exact e_Hall_lookAround_B6 _ ih x0 x1 x2 x3 M
def Hall_lookAround (M : Mm) (a0 : Nat) : Option (Unit × Mm) :=
  Hall_lookAround_L6 fu a0 0 0 0 M
set_option maxRecDepth 100000 in
set_option maxHeartbeats 4000000 in
theorem s_Hall_lookAround (G : Gx) (M : Mm) (a0 : Nat) : FnS G Y_Hall_lookAround cvV 2 [.ref a0] M (Hall_lookAround M a0) := by
  refine FnS.ofE (by decide) (Nat.le_of_ble_eq_true rfl) ?_
  show EJ G Y_Hall_lookAround cvV 2 0 [(0, .ref a0)] [] M _
  unfold Hall_lookAround
  refine EJ_iconst 1 (dk_3 (bt bc_Hall_lookAround_0 0 rfl)) rfl (v := 0) kI_0 ?_
  refine EJ_istore_n 2 (lv2 := [(1, .int _), (0, .ref _)]) (dk_60 (bt bc_Hall_lookAround_0 1 rfl)) rfl (by decide) rfl ?_
  refine EJ_iconst 3 (dk_3 (bt bc_Hall_lookAround_0 2 rfl)) rfl (v := 0) kI_0 ?_
  refine EJ_istore_n 4 (lv2 := [(2, .int _), (1, .int _), (0, .ref _)]) (dk_61 (bt bc_Hall_lookAround_0 3 rfl)) rfl (by decide) rfl ?_
  refine EJ_iconst 5 (dk_3 (bt bc_Hall_lookAround_0 4 rfl)) rfl (v := 0) kI_0 ?_
  refine EJ_istore_n 6 (lv2 := [(3, .int _), (2, .int _), (1, .int _), (0, .ref _)]) (dk_62 (bt bc_Hall_lookAround_0 5 rfl)) rfl (by decide) rfl ?_
  exact EJ_pick (lv2 := [(0, .ref _), (1, .int _), (2, .int _), (3, .int _)]) [3, 2, 1, 0] rfl (e_Hall_lookAround_L6 fu _ _ _ _ _)
abbrev Y_Hall_askLaw : Ym := (⟨"RiceHall", "askLaw", "(I)I"⟩, prog_1_method_51_code, 2, (some FieldType.int))
theorem bc_Hall_askLaw_0 : bts prog_1_method_51_code 0 [42, 182, 1, 40, 42, 180, 0, 35, 27, 42, 180, 0, 120, 182, 1, 155, 172] := bts_of (by decide +kernel)
theorem hd_Hall_askLaw : Y_Hall_askLaw.1.cls = RX11 ∧ Y_Hall_askLaw.1.cls ≠ "java/lang/invoke/MethodHandle" ∧ Y_Hall_askLaw.1.cls ≠ "java/lang/invoke/VarHandle" ∧ (parseMethodDescriptor Y_Hall_askLaw.1.desc).map (fun d => d.parameters.length) = some 1 := by decide +kernel
def Hall_askLaw (M : Mm) (a0 : Nat) (a1 : Int32) : Option (Int32 × Mm) :=
  ck (kO M a0 11 18) (
  bd (Hall_lookAround M a0) (fun _ M3 =>
  ck (kO M3 a0 11 18) (
  nn (mR M3 a0 9) (fun b5 =>
  ck (kO M3 b5 5 5) (
  bd (Law_ask M3 b5 a1 (mI M3 a0 16)) (fun r7 M8 =>
  some (r7, M8)))))))
set_option maxRecDepth 100000 in
set_option maxHeartbeats 4000000 in
theorem s_Hall_askLaw (G : Gx) (M : Mm) (a0 : Nat) (a1 : Int32) : FnS G Y_Hall_askLaw cvI 5 [.ref a0, .int a1] M (Hall_askLaw M a0 a1) := by
  refine FnS.ofE (by decide) (Nat.le_of_ble_eq_true rfl) ?_
  show EJ G Y_Hall_askLaw cvI 5 0 [(0, .ref a0), (1, .int a1)] [] M _
  unfold Hall_askLaw
  refine EJ_aload_n 1 0 (dk_42 (bt bc_Hall_askLaw_0 0 rfl)) rfl rfl ?_
  refine EJ_ck (fun h1 => ?_)
  refine EJ_callVv (Y2 := Y_Hall_lookAround) 4 cf11 (s_Hall_lookAround G _ _) (of_decide_eq_true h1) rfl (dk_182 (bt bc_Hall_askLaw_0 1 rfl) (bt bc_Hall_askLaw_0 2 rfl) (bt bc_Hall_askLaw_0 3 rfl) (n := 296) rfl) rfl tw_503 tw_505 ts_11 tw_506 hd_Hall_lookAround rfl (by decide) (Nat.le_of_ble_eq_true rfl) (fun _ M3 => ?_)
  refine EJ_aload_n 5 0 (dk_42 (bt bc_Hall_askLaw_0 4 rfl)) rfl rfl ?_
  refine EJ_ck (fun h4 => ?_)
  refine EJ_getR cf11 9 (by decide) 8 tw_209 (fun _ _ _ => rfl) (dk_180 (bt bc_Hall_askLaw_0 5 rfl) (bt bc_Hall_askLaw_0 6 rfl) (bt bc_Hall_askLaw_0 7 rfl) (n := 35) rfl) rfl (of_decide_eq_true h4) (fun b5 => ?_)
  refine EJ_iload_n 9 1 (dk_27 (bt bc_Hall_askLaw_0 8 rfl)) rfl rfl ?_
  refine EJ_aload_n 10 0 (dk_42 (bt bc_Hall_askLaw_0 9 rfl)) rfl rfl ?_
  refine EJ_getI cf11 16 (by decide) 13 tw_216 (fun _ _ _ => rfl) (dk_180 (bt bc_Hall_askLaw_0 10 rfl) (bt bc_Hall_askLaw_0 11 rfl) (bt bc_Hall_askLaw_0 12 rfl) (n := 120) rfl) rfl (of_decide_eq_true h4) ?_
  refine EJ_ck (fun h6 => ?_)
  refine EJ_callVi (Y2 := Y_Law_ask) 16 cf5 (s_Law_ask G _ _ _ _) (of_decide_eq_true h6) rfl (dk_182 (bt bc_Hall_askLaw_0 13 rfl) (bt bc_Hall_askLaw_0 14 rfl) (bt bc_Hall_askLaw_0 15 rfl) (n := 411) rfl) rfl tw_519 tw_520 tw_521 tw_522 hd_Law_ask rfl (by decide) (Nat.le_of_ble_eq_true rfl) (fun r7 M8 => ?_)
  exact EJ_iret rfl (dk_172 (bt bc_Hall_askLaw_0 16 rfl))
abbrev Y_Hall_spoilPaper : Ym := (⟨"RiceHall", "spoilPaper", "(II)V"⟩, prog_1_method_49_code, 5, none)
theorem bc_Hall_spoilPaper_0 : bts prog_1_method_49_code 0 [3, 62, 29, 42, 180, 0, 91, 162, 0, 75, 42, 180, 0, 18, 29, 50, 180, 0, 117, 27, 46, 28, 104, 16, 100, 108, 54, 4, 42, 180, 0, 18] := bts_of (by decide +kernel)
theorem bc_Hall_spoilPaper_1 : bts prog_1_method_49_code 32 [29, 50, 180, 0, 117, 27, 92, 46, 21, 4, 100, 79, 42, 180, 0, 24, 27, 50, 89, 180, 1, 149, 21, 4, 100, 181, 1, 149, 42, 180, 0, 24] := bts_of (by decide +kernel)
theorem bc_Hall_spoilPaper_2 : bts prog_1_method_49_code 64 [27, 50, 89, 180, 1, 152, 21, 4, 96, 181, 1, 152, 132, 3, 1, 167, 255, 179, 177] := bts_of (by decide +kernel)
theorem hd_Hall_spoilPaper : Y_Hall_spoilPaper.1.cls = RX11 ∧ Y_Hall_spoilPaper.1.cls ≠ "java/lang/invoke/MethodHandle" ∧ Y_Hall_spoilPaper.1.cls ≠ "java/lang/invoke/VarHandle" ∧ (parseMethodDescriptor Y_Hall_spoilPaper.1.desc).map (fun d => d.parameters.length) = some 2 := by decide +kernel
def Hall_spoilPaper_B2 (k2 : Nat → Int32 → Int32 → Int32 → Mm → Option (Unit × Mm)) (x0 : Nat) (x1 : Int32) (x2 : Int32) (x3 : Int32) (M : Mm) : Option (Unit × Mm) :=
  ck (kO M x0 11 18) (
  if (mI M x0 2) ≤ x3 then (
    some ((), M))
  else (
    nn (mR M x0 1) (fun b2 =>
    ck (kA M b2 24 x3) (
    nn (mR M b2 (ix x3)) (fun b4 =>
    ck (kO M b4 6 9) (
    nn (mR M b4 1) (fun b6 =>
    ck (kA M b6 20 x1) (
    let v8 : Int32 := ((mI M b6 (ix x1)) * x2) / 100
    nn (mR M x0 1) (fun b9 =>
    ck (kA M b9 24 x3) (
    nn (mR M b9 (ix x3)) (fun b11 =>
    ck (kO M b11 6 9) (
    nn (mR M b11 1) (fun b13 =>
    ck (kA M b13 20 x1) (
    let M15 := sI M b13 (ix x1) ((mI M b13 (ix x1)) - v8)
    nn (mR M15 x0 3) (fun b16 =>
    ck (kA M15 b16 25 x1) (
    nn (mR M15 b16 (ix x1)) (fun b18 =>
    ck (kO M15 b18 10 14) (
    let M20 := sI M15 b18 9 ((mI M15 b18 9) - v8)
    nn (mR M20 x0 3) (fun b21 =>
    ck (kA M20 b21 25 x1) (
    nn (mR M20 b21 (ix x1)) (fun b23 =>
    ck (kO M20 b23 10 14) (
    let M25 := sI M20 b23 13 ((mI M20 b23 13) + v8)
    let v26 : Int32 := x3 + 1
    k2 x0 x1 x2 v26 M25))))))))))))))))))))))
set_option maxRecDepth 100000 in
set_option maxHeartbeats 4000000 in
theorem e_Hall_spoilPaper_B2 {G : Gx} (k2 : Nat → Int32 → Int32 → Int32 → Mm → Option (Unit × Mm)) (hk2 : ∀ (x0 : Nat) (x1 : Int32) (x2 : Int32) (x3 : Int32) (M : Mm), EJ G Y_Hall_spoilPaper cvV 1 2 [(0, .ref x0), (1, .int x1), (2, .int x2), (3, .int x3)] [] M (k2 x0 x1 x2 x3 M)) (x0 : Nat) (x1 : Int32) (x2 : Int32) (x3 : Int32) (M : Mm) : EJ G Y_Hall_spoilPaper cvV 1 2 [(0, .ref x0), (1, .int x1), (2, .int x2), (3, .int x3)] [] M (Hall_spoilPaper_B2 k2 x0 x1 x2 x3 M) := by
  unfold Hall_spoilPaper_B2
  refine EJ_iload_n 3 3 (dk_29 (bt bc_Hall_spoilPaper_0 2 rfl)) rfl rfl ?_
  refine EJ_aload_n 4 0 (dk_42 (bt bc_Hall_spoilPaper_0 3 rfl)) rfl rfl ?_
  refine EJ_ck (fun h1 => ?_)
  refine EJ_getI cf11 2 (by decide) 7 tw_202 (fun _ _ _ => rfl) (dk_180 (bt bc_Hall_spoilPaper_0 4 rfl) (bt bc_Hall_spoilPaper_0 5 rfl) (bt bc_Hall_spoilPaper_0 6 rfl) (n := 91) rfl) rfl (of_decide_eq_true h1) ?_
  refine EJ_icmp_ge 82 10 (dk_162 (bt bc_Hall_spoilPaper_0 7 rfl) (bt bc_Hall_spoilPaper_0 8 rfl) (bt bc_Hall_spoilPaper_0 9 rfl) (n := 75) rfl) (by decide) rfl (fun _ => ?_) (fun _ => ?_)
  · exact EJ_vret rfl (dk_177 (bt bc_Hall_spoilPaper_2 18 rfl))
  · refine EJ_aload_n 11 0 (dk_42 (bt bc_Hall_spoilPaper_0 10 rfl)) rfl rfl ?_
    refine EJ_getR cf11 1 (by decide) 14 tw_201 (fun _ _ _ => rfl) (dk_180 (bt bc_Hall_spoilPaper_0 11 rfl) (bt bc_Hall_spoilPaper_0 12 rfl) (bt bc_Hall_spoilPaper_0 13 rfl) (n := 18) rfl) rfl (of_decide_eq_true h1) (fun b2 => ?_)
    refine EJ_iload_n 15 3 (dk_29 (bt bc_Hall_spoilPaper_0 14 rfl)) rfl rfl ?_
    refine EJ_ck (fun h3 => ?_)
    refine EJ_aald 4 16 (by decide) (by decide) rfl h3 (dk_50 (bt bc_Hall_spoilPaper_0 15 rfl)) rfl (fun b4 => ?_)
    refine EJ_ck (fun h5 => ?_)
    refine EJ_getR cf6 1 (by decide) 19 tw_341 (fun _ _ _ => rfl) (dk_180 (bt bc_Hall_spoilPaper_0 16 rfl) (bt bc_Hall_spoilPaper_0 17 rfl) (bt bc_Hall_spoilPaper_0 18 rfl) (n := 117) rfl) rfl (of_decide_eq_true h5) (fun b6 => ?_)
    refine EJ_iload_n 20 1 (dk_27 (bt bc_Hall_spoilPaper_0 19 rfl)) rfl rfl ?_
    refine EJ_ck (fun h7 => ?_)
    refine EJ_iald 21 h7 (dk_46 (bt bc_Hall_spoilPaper_0 20 rfl)) rfl ?_
    refine EJ_iload_n 22 2 (dk_28 (bt bc_Hall_spoilPaper_0 21 rfl)) rfl rfl ?_
    refine EJ_imul 23 (dk_104 (bt bc_Hall_spoilPaper_0 22 rfl)) rfl ?_
    refine EJ_bipush 25 (dk_16 (bt bc_Hall_spoilPaper_0 23 rfl) (bt bc_Hall_spoilPaper_0 24 rfl) (n := 100) rfl) rfl (v := 100) kB_100 ?_
    refine EJ_idiv 26 (dk_108 (bt bc_Hall_spoilPaper_0 25 rfl)) rfl (by decide) ?_
    refine EJ_istore 28 (lv2 := [(4, .int _), (0, .ref _), (1, .int _), (2, .int _), (3, .int _)]) (dk_54 (bt bc_Hall_spoilPaper_0 26 rfl) (bt bc_Hall_spoilPaper_0 27 rfl)) rfl (by decide) rfl ?_
    refine EJ_aload_n 29 1 (dk_42 (bt bc_Hall_spoilPaper_0 28 rfl)) rfl rfl ?_
    refine EJ_getR cf11 1 (by decide) 32 tw_201 (fun _ _ _ => rfl) (dk_180 (bt bc_Hall_spoilPaper_0 29 rfl) (bt bc_Hall_spoilPaper_0 30 rfl) (bt bc_Hall_spoilPaper_0 31 rfl) (n := 18) rfl) rfl (of_decide_eq_true h1) (fun b9 => ?_)
    refine EJ_iload_n 33 4 (dk_29 (bt bc_Hall_spoilPaper_1 0 rfl)) rfl rfl ?_
    refine EJ_ck (fun h10 => ?_)
    refine EJ_aald 4 34 (by decide) (by decide) rfl h10 (dk_50 (bt bc_Hall_spoilPaper_1 1 rfl)) rfl (fun b11 => ?_)
    refine EJ_ck (fun h12 => ?_)
    refine EJ_getR cf6 1 (by decide) 37 tw_341 (fun _ _ _ => rfl) (dk_180 (bt bc_Hall_spoilPaper_1 2 rfl) (bt bc_Hall_spoilPaper_1 3 rfl) (bt bc_Hall_spoilPaper_1 4 rfl) (n := 117) rfl) rfl (of_decide_eq_true h12) (fun b13 => ?_)
    refine EJ_iload_n 38 2 (dk_27 (bt bc_Hall_spoilPaper_1 5 rfl)) rfl rfl ?_
    refine EJ_dup2 39 (dk_92 (bt bc_Hall_spoilPaper_1 6 rfl)) rfl rfl rfl ?_
    refine EJ_ck (fun h14 => ?_)
    refine EJ_iald 40 h14 (dk_46 (bt bc_Hall_spoilPaper_1 7 rfl)) rfl ?_
    refine EJ_iload 42 0 (dk_21 (bt bc_Hall_spoilPaper_1 8 rfl) (bt bc_Hall_spoilPaper_1 9 rfl)) rfl rfl ?_
    refine EJ_isub 43 (dk_100 (bt bc_Hall_spoilPaper_1 10 rfl)) rfl ?_
    refine EJ_iast 44 h14 (dk_79 (bt bc_Hall_spoilPaper_1 11 rfl)) rfl ?_
    refine EJ_aload_n 45 1 (dk_42 (bt bc_Hall_spoilPaper_1 12 rfl)) rfl rfl ?_
    refine EJ_getR cf11 3 (by decide) 48 tw_203 (fun _ _ _ => rfl) (dk_180 (bt bc_Hall_spoilPaper_1 13 rfl) (bt bc_Hall_spoilPaper_1 14 rfl) (bt bc_Hall_spoilPaper_1 15 rfl) (n := 24) rfl) rfl (kp_I (of_decide_eq_true h1)) (fun b16 => ?_)
    refine EJ_iload_n 49 2 (dk_27 (bt bc_Hall_spoilPaper_1 16 rfl)) rfl rfl ?_
    refine EJ_ck (fun h17 => ?_)
    refine EJ_aald 5 50 (by decide) (by decide) rfl h17 (dk_50 (bt bc_Hall_spoilPaper_1 17 rfl)) rfl (fun b18 => ?_)
    refine EJ_dup 51 (dk_89 (bt bc_Hall_spoilPaper_1 18 rfl)) rfl rfl ?_
    refine EJ_ck (fun h19 => ?_)
    refine EJ_getI cf10 9 (by decide) 54 tw_411 (fun _ _ _ => rfl) (dk_180 (bt bc_Hall_spoilPaper_1 19 rfl) (bt bc_Hall_spoilPaper_1 20 rfl) (bt bc_Hall_spoilPaper_1 21 rfl) (n := 405) rfl) rfl (of_decide_eq_true h19) ?_
    refine EJ_iload 56 0 (dk_21 (bt bc_Hall_spoilPaper_1 22 rfl) (bt bc_Hall_spoilPaper_1 23 rfl)) rfl rfl ?_
    refine EJ_isub 57 (dk_100 (bt bc_Hall_spoilPaper_1 24 rfl)) rfl ?_
    refine EJ_putI cf10 9 (by decide) 60 tw_411 rfl (Or.inl rfl) (dk_181 (bt bc_Hall_spoilPaper_1 25 rfl) (bt bc_Hall_spoilPaper_1 26 rfl) (bt bc_Hall_spoilPaper_1 27 rfl) (n := 405) rfl) rfl (of_decide_eq_true h19) ?_
    refine EJ_aload_n 61 1 (dk_42 (bt bc_Hall_spoilPaper_1 28 rfl)) rfl rfl ?_
    refine EJ_getR cf11 3 (by decide) 64 tw_203 (fun _ _ _ => rfl) (dk_180 (bt bc_Hall_spoilPaper_1 29 rfl) (bt bc_Hall_spoilPaper_1 30 rfl) (bt bc_Hall_spoilPaper_1 31 rfl) (n := 24) rfl) rfl (kp_I (kp_I (of_decide_eq_true h1))) (fun b21 => ?_)
    refine EJ_iload_n 65 2 (dk_27 (bt bc_Hall_spoilPaper_2 0 rfl)) rfl rfl ?_
    refine EJ_ck (fun h22 => ?_)
    refine EJ_aald 5 66 (by decide) (by decide) rfl h22 (dk_50 (bt bc_Hall_spoilPaper_2 1 rfl)) rfl (fun b23 => ?_)
    refine EJ_dup 67 (dk_89 (bt bc_Hall_spoilPaper_2 2 rfl)) rfl rfl ?_
    refine EJ_ck (fun h24 => ?_)
    refine EJ_getI cf10 13 (by decide) 70 tw_419 (fun _ _ _ => rfl) (dk_180 (bt bc_Hall_spoilPaper_2 3 rfl) (bt bc_Hall_spoilPaper_2 4 rfl) (bt bc_Hall_spoilPaper_2 5 rfl) (n := 408) rfl) rfl (of_decide_eq_true h24) ?_
    refine EJ_iload 72 0 (dk_21 (bt bc_Hall_spoilPaper_2 6 rfl) (bt bc_Hall_spoilPaper_2 7 rfl)) rfl rfl ?_
    refine EJ_iadd 73 (dk_96 (bt bc_Hall_spoilPaper_2 8 rfl)) rfl ?_
    refine EJ_putI cf10 13 (by decide) 76 tw_419 rfl (Or.inl rfl) (dk_181 (bt bc_Hall_spoilPaper_2 9 rfl) (bt bc_Hall_spoilPaper_2 10 rfl) (bt bc_Hall_spoilPaper_2 11 rfl) (n := 408) rfl) rfl (of_decide_eq_true h24) ?_
    refine EJ_iinc 79 4 (lv2 := [(3, .int _), (4, .int _), (0, .ref _), (1, .int _), (2, .int _)]) (dk_132 (bt bc_Hall_spoilPaper_2 12 rfl) (bt bc_Hall_spoilPaper_2 13 rfl) (bt bc_Hall_spoilPaper_2 14 rfl) (n := 1) rfl) rfl (by decide) rfl (v := 1) kI_1 rfl ?_
    refine EJ_goto 2 (dk_167 (bt bc_Hall_spoilPaper_2 15 rfl) (bt bc_Hall_spoilPaper_2 16 rfl) (bt bc_Hall_spoilPaper_2 17 rfl) (n := -77) rfl) (by decide) ?_
    exact EJ_pick (lv2 := [(0, .ref _), (1, .int _), (2, .int _), (3, .int _)]) [2, 3, 4, 0] rfl (hk2 _ _ _ _ _)
def Hall_spoilPaper_L2 (n : Nat) : Nat → Int32 → Int32 → Int32 → Mm → Option (Unit × Mm) :=
  match n with
  | 0 => fun _ _ _ _ _ => none
  | n + 1 => Hall_spoilPaper_B2 (Hall_spoilPaper_L2 n)
theorem e_Hall_spoilPaper_L2 {G : Gx} : ∀ (n : Nat) (x0 : Nat) (x1 : Int32) (x2 : Int32) (x3 : Int32) (M : Mm), EJ G Y_Hall_spoilPaper cvV 1 2 [(0, .ref x0), (1, .int x1), (2, .int x2), (3, .int x3)] [] M (Hall_spoilPaper_L2 n x0 x1 x2 x3 M) := by
  intro n
  induction n with
  | zero => intros; exact EJ_none
  | succ n ih => intro x0 x1 x2 x3 M; exact e_Hall_spoilPaper_B2 _ ih x0 x1 x2 x3 M
def Hall_spoilPaper (M : Mm) (a0 : Nat) (a1 : Int32) (a2 : Int32) : Option (Unit × Mm) :=
  Hall_spoilPaper_L2 fu a0 a1 a2 0 M
set_option maxRecDepth 100000 in
set_option maxHeartbeats 4000000 in
theorem s_Hall_spoilPaper (G : Gx) (M : Mm) (a0 : Nat) (a1 : Int32) (a2 : Int32) : FnS G Y_Hall_spoilPaper cvV 1 [.ref a0, .int a1, .int a2] M (Hall_spoilPaper M a0 a1 a2) := by
  refine FnS.ofE (by decide) (Nat.le_of_ble_eq_true rfl) ?_
  show EJ G Y_Hall_spoilPaper cvV 1 0 [(0, .ref a0), (1, .int a1), (2, .int a2)] [] M _
  unfold Hall_spoilPaper
  refine EJ_iconst 1 (dk_3 (bt bc_Hall_spoilPaper_0 0 rfl)) rfl (v := 0) kI_0 ?_
  refine EJ_istore_n 2 (lv2 := [(3, .int _), (0, .ref _), (1, .int _), (2, .int _)]) (dk_62 (bt bc_Hall_spoilPaper_0 1 rfl)) rfl (by decide) rfl ?_
  exact EJ_pick (lv2 := [(0, .ref _), (1, .int _), (2, .int _), (3, .int _)]) [1, 2, 3, 0] rfl (e_Hall_spoilPaper_L2 fu _ _ _ _ _)
abbrev Y_Hall_spoil : Ym := (⟨"RiceHall", "spoil", "(II)I"⟩, prog_1_method_13_code, 5, (some FieldType.int))
theorem bc_Hall_spoil_0 : bts prog_1_method_13_code 0 [42, 27, 182, 0, 108, 153, 0, 13, 28, 3, 16, 100, 184, 0, 80, 154, 0, 5, 2, 172, 42, 16, 9, 182, 0, 147, 4, 160, 0, 7, 4, 167] := bts_of (by decide +kernel)
theorem bc_Hall_spoil_1 : bts prog_1_method_13_code 32 [0, 4, 3, 62, 42, 180, 0, 24, 27, 50, 28, 182, 0, 150, 54, 4, 29, 153, 0, 9, 42, 27, 28, 182, 0, 153, 21, 4, 172] := bts_of (by decide +kernel)
theorem hd_Hall_spoil : Y_Hall_spoil.1.cls = RX11 ∧ Y_Hall_spoil.1.cls ≠ "java/lang/invoke/MethodHandle" ∧ Y_Hall_spoil.1.cls ≠ "java/lang/invoke/VarHandle" ∧ (parseMethodDescriptor Y_Hall_spoil.1.desc).map (fun d => d.parameters.length) = some 2 := by decide +kernel
def Hall_spoil_J35 (x0 : Nat) (x1 : Int32) (x2 : Int32) (s0 : Int32) (M : Mm) : Option (Int32 × Mm) :=
  ck (kO M x0 11 18) (
  nn (mR M x0 3) (fun b10 =>
  ck (kA M b10 25 x1) (
  nn (mR M b10 (ix x1)) (fun b12 =>
  ck (kO M b12 10 14) (
  bd (Store_spoilRice M b12 x2) (fun r14 M15 =>
  if s0 = 0 then (
    some (r14, M15))
  else (
    ck (kO M15 x0 11 18) (
    bd (Hall_spoilPaper M15 x0 x1 x2) (fun _ M18 =>
    some (r14, M18))))))))))
set_option maxRecDepth 100000 in
set_option maxHeartbeats 4000000 in
theorem e_Hall_spoil_J35 {G : Gx} (x0 : Nat) (x1 : Int32) (x2 : Int32) (s0 : Int32) (M : Mm) : EJ G Y_Hall_spoil cvI 6 35 [(0, .ref x0), (1, .int x1), (2, .int x2)] [.int s0] M (Hall_spoil_J35 x0 x1 x2 s0 M) := by
  unfold Hall_spoil_J35
  refine EJ_istore_n 36 (lv2 := [(3, .int _), (0, .ref _), (1, .int _), (2, .int _)]) (dk_62 (bt bc_Hall_spoil_1 3 rfl)) rfl (by decide) rfl ?_
  refine EJ_aload_n 37 1 (dk_42 (bt bc_Hall_spoil_1 4 rfl)) rfl rfl ?_
  refine EJ_ck (fun h9 => ?_)
  refine EJ_getR cf11 3 (by decide) 40 tw_203 (fun _ _ _ => rfl) (dk_180 (bt bc_Hall_spoil_1 5 rfl) (bt bc_Hall_spoil_1 6 rfl) (bt bc_Hall_spoil_1 7 rfl) (n := 24) rfl) rfl (of_decide_eq_true h9) (fun b10 => ?_)
  refine EJ_iload_n 41 2 (dk_27 (bt bc_Hall_spoil_1 8 rfl)) rfl rfl ?_
  refine EJ_ck (fun h11 => ?_)
  refine EJ_aald 5 42 (by decide) (by decide) rfl h11 (dk_50 (bt bc_Hall_spoil_1 9 rfl)) rfl (fun b12 => ?_)
  refine EJ_iload_n 43 3 (dk_28 (bt bc_Hall_spoil_1 10 rfl)) rfl rfl ?_
  refine EJ_ck (fun h13 => ?_)
  refine EJ_callVi (Y2 := Y_Store_spoilRice) 46 cf10 (s_Store_spoilRice G _ _ _) (of_decide_eq_true h13) rfl (dk_182 (bt bc_Hall_spoil_1 11 rfl) (bt bc_Hall_spoil_1 12 rfl) (bt bc_Hall_spoil_1 13 rfl) (n := 150) rfl) rfl tw_542 tw_543 tw_544 tw_545 hd_Store_spoilRice rfl (by decide) (Nat.le_of_ble_eq_true rfl) (fun r14 M15 => ?_)
  refine EJ_istore 48 (lv2 := [(4, .int _), (3, .int _), (0, .ref _), (1, .int _), (2, .int _)]) (dk_54 (bt bc_Hall_spoil_1 14 rfl) (bt bc_Hall_spoil_1 15 rfl)) rfl (by decide) rfl ?_
  refine EJ_iload_n 49 1 (dk_29 (bt bc_Hall_spoil_1 16 rfl)) rfl rfl ?_
  refine EJ_if_eq 58 52 (dk_153 (bt bc_Hall_spoil_1 17 rfl) (bt bc_Hall_spoil_1 18 rfl) (bt bc_Hall_spoil_1 19 rfl) (n := 9) rfl) (by decide) rfl (fun _ => ?_) (fun _ => ?_)
  · refine EJ_iload 60 0 (dk_21 (bt bc_Hall_spoil_1 26 rfl) (bt bc_Hall_spoil_1 27 rfl)) rfl rfl ?_
    exact EJ_iret rfl (dk_172 (bt bc_Hall_spoil_1 28 rfl))
  · refine EJ_aload_n 53 2 (dk_42 (bt bc_Hall_spoil_1 20 rfl)) rfl rfl ?_
    refine EJ_iload_n 54 3 (dk_27 (bt bc_Hall_spoil_1 21 rfl)) rfl rfl ?_
    refine EJ_iload_n 55 4 (dk_28 (bt bc_Hall_spoil_1 22 rfl)) rfl rfl ?_
    refine EJ_ck (fun h16 => ?_)
    refine EJ_callVv (Y2 := Y_Hall_spoilPaper) 58 cf11 (s_Hall_spoilPaper G _ _ _ _) (of_decide_eq_true h16) rfl (dk_182 (bt bc_Hall_spoil_1 23 rfl) (bt bc_Hall_spoil_1 24 rfl) (bt bc_Hall_spoil_1 25 rfl) (n := 153) rfl) rfl tw_546 tw_548 ts_13 tw_549 hd_Hall_spoilPaper rfl (by decide) (Nat.le_of_ble_eq_true rfl) (fun _ M18 => ?_)
    refine EJ_iload 60 0 (dk_21 (bt bc_Hall_spoil_1 26 rfl) (bt bc_Hall_spoil_1 27 rfl)) rfl rfl ?_
    exact EJ_iret rfl (dk_172 (bt bc_Hall_spoil_1 28 rfl))
def Hall_spoil (M : Mm) (a0 : Nat) (a1 : Int32) (a2 : Int32) : Option (Int32 × Mm) :=
  ck (kO M a0 11 18) (
  bd (Hall_isStore M a0 a1) (fun r2 M3 =>
  if r2 = 0 then (
    some ((-1), M3))
  else (
    bd (Hall_isWithin M3 a2 0 100) (fun r4 M5 =>
    if r4 = 0 then (
      some ((-1), M5))
    else (
      ck (kO M5 a0 11 18) (
      bd (Hall_askLaw M5 a0 9) (fun r7 M8 =>
      if r7 = 1 then (
        Hall_spoil_J35 a0 a1 a2 1 M8)
      else (
        Hall_spoil_J35 a0 a1 a2 0 M8))))))))
set_option maxRecDepth 100000 in
set_option maxHeartbeats 4000000 in
theorem s_Hall_spoil (G : Gx) (M : Mm) (a0 : Nat) (a1 : Int32) (a2 : Int32) : FnS G Y_Hall_spoil cvI 6 [.ref a0, .int a1, .int a2] M (Hall_spoil M a0 a1 a2) := by
  refine FnS.ofE (by decide) (Nat.le_of_ble_eq_true rfl) ?_
  show EJ G Y_Hall_spoil cvI 6 0 [(0, .ref a0), (1, .int a1), (2, .int a2)] [] M _
  unfold Hall_spoil
  refine EJ_aload_n 1 0 (dk_42 (bt bc_Hall_spoil_0 0 rfl)) rfl rfl ?_
  refine EJ_iload_n 2 1 (dk_27 (bt bc_Hall_spoil_0 1 rfl)) rfl rfl ?_
  refine EJ_ck (fun h1 => ?_)
  refine EJ_callVi (Y2 := Y_Hall_isStore) 5 cf11 (s_Hall_isStore G _ _ _) (of_decide_eq_true h1) rfl (dk_182 (bt bc_Hall_spoil_0 2 rfl) (bt bc_Hall_spoil_0 3 rfl) (bt bc_Hall_spoil_0 4 rfl) (n := 108) rfl) rfl tw_453 tw_455 ts_7 tw_456 hd_Hall_isStore rfl (by decide) (Nat.le_of_ble_eq_true rfl) (fun r2 M3 => ?_)
  refine EJ_if_eq 18 8 (dk_153 (bt bc_Hall_spoil_0 5 rfl) (bt bc_Hall_spoil_0 6 rfl) (bt bc_Hall_spoil_0 7 rfl) (n := 13) rfl) (by decide) rfl (fun _ => ?_) (fun _ => ?_)
  · refine EJ_iconst 19 (dk_2 (bt bc_Hall_spoil_0 18 rfl)) rfl (v := (-1)) kI_m1 ?_
    exact EJ_iret rfl (dk_172 (bt bc_Hall_spoil_0 19 rfl))
  · refine EJ_iload_n 9 2 (dk_28 (bt bc_Hall_spoil_0 8 rfl)) rfl rfl ?_
    refine EJ_iconst 10 (dk_3 (bt bc_Hall_spoil_0 9 rfl)) rfl (v := 0) kI_0 ?_
    refine EJ_bipush 12 (dk_16 (bt bc_Hall_spoil_0 10 rfl) (bt bc_Hall_spoil_0 11 rfl) (n := 100) rfl) rfl (v := 100) kB_100 ?_
    refine EJ_callSi (Y2 := Y_Hall_isWithin) 15 (s_Hall_isWithin G _ _ _ _) rfl (dk_184 (bt bc_Hall_spoil_0 12 rfl) (bt bc_Hall_spoil_0 13 rfl) (bt bc_Hall_spoil_0 14 rfl) (n := 80) rfl) rfl tw_292 tw_276 tw_1 tw_277 hd_Hall_isWithin rfl (by decide) (Nat.le_of_ble_eq_true rfl) (fun r4 M5 => ?_)
    refine EJ_if_ne 20 18 (dk_154 (bt bc_Hall_spoil_0 15 rfl) (bt bc_Hall_spoil_0 16 rfl) (bt bc_Hall_spoil_0 17 rfl) (n := 5) rfl) (by decide) rfl (fun _ => ?_) (fun _ => ?_)
    · refine EJ_aload_n 21 0 (dk_42 (bt bc_Hall_spoil_0 20 rfl)) rfl rfl ?_
      refine EJ_bipush 23 (dk_16 (bt bc_Hall_spoil_0 21 rfl) (bt bc_Hall_spoil_0 22 rfl) (n := 9) rfl) rfl (v := 9) kB_9 ?_
      refine EJ_ck (fun h6 => ?_)
      refine EJ_callVi (Y2 := Y_Hall_askLaw) 26 cf11 (s_Hall_askLaw G _ _ _) (of_decide_eq_true h6) rfl (dk_182 (bt bc_Hall_spoil_0 23 rfl) (bt bc_Hall_spoil_0 24 rfl) (bt bc_Hall_spoil_0 25 rfl) (n := 147) rfl) rfl tw_499 tw_501 ts_10 tw_502 hd_Hall_askLaw rfl (by decide) (Nat.le_of_ble_eq_true rfl) (fun r7 M8 => ?_)
      refine EJ_iconst 27 (dk_4 (bt bc_Hall_spoil_0 26 rfl)) rfl (v := 1) kI_1 ?_
      refine EJ_icmp_ne 34 30 (dk_160 (bt bc_Hall_spoil_0 27 rfl) (bt bc_Hall_spoil_0 28 rfl) (bt bc_Hall_spoil_0 29 rfl) (n := 7) rfl) (by decide) rfl (fun _ => ?_) (fun _ => ?_)
      · refine EJ_iconst 35 (dk_3 (bt bc_Hall_spoil_1 2 rfl)) rfl (v := 0) kI_0 ?_
        exact EJ_pick (lv2 := [(0, .ref _), (1, .int _), (2, .int _)]) [0, 1, 2] rfl (e_Hall_spoil_J35 _ _ _ _ _)
      · refine EJ_iconst 31 (dk_4 (bt bc_Hall_spoil_0 30 rfl)) rfl (v := 1) kI_1 ?_
        refine EJ_goto 35 (dk_167 (bt bc_Hall_spoil_0 31 rfl) (bt bc_Hall_spoil_1 0 rfl) (bt bc_Hall_spoil_1 1 rfl) (n := 4) rfl) (by decide) ?_
        exact EJ_pick (lv2 := [(0, .ref _), (1, .int _), (2, .int _)]) [0, 1, 2] rfl (e_Hall_spoil_J35 _ _ _ _ _)
    · refine EJ_iconst 19 (dk_2 (bt bc_Hall_spoil_0 18 rfl)) rfl (v := (-1)) kI_m1 ?_
      exact EJ_iret rfl (dk_172 (bt bc_Hall_spoil_0 19 rfl))
abbrev Y_Hall_over : Ym := (⟨"RiceHall", "over", "(II)I"⟩, prog_1_method_14_code, 3, (some FieldType.int))
theorem bc_Hall_over_0 : bts prog_1_method_14_code 0 [42, 27, 182, 0, 108, 153, 0, 15, 28, 3, 42, 180, 0, 120, 184, 0, 80, 154, 0, 5, 2, 172, 42, 180, 0, 24, 27, 50, 28, 182, 0, 156] := bts_of (by decide +kernel)
theorem bc_Hall_over_1 : bts prog_1_method_14_code 32 [172] := bts_of (by decide +kernel)
theorem hd_Hall_over : Y_Hall_over.1.cls = RX11 ∧ Y_Hall_over.1.cls ≠ "java/lang/invoke/MethodHandle" ∧ Y_Hall_over.1.cls ≠ "java/lang/invoke/VarHandle" ∧ (parseMethodDescriptor Y_Hall_over.1.desc).map (fun d => d.parameters.length) = some 2 := by decide +kernel
def Hall_over (M : Mm) (a0 : Nat) (a1 : Int32) (a2 : Int32) : Option (Int32 × Mm) :=
  ck (kO M a0 11 18) (
  bd (Hall_isStore M a0 a1) (fun r2 M3 =>
  if r2 = 0 then (
    some ((-1), M3))
  else (
    ck (kO M3 a0 11 18) (
    bd (Hall_isWithin M3 a2 0 (mI M3 a0 16)) (fun r5 M6 =>
    if r5 = 0 then (
      some ((-1), M6))
    else (
      ck (kO M6 a0 11 18) (
      nn (mR M6 a0 3) (fun b8 =>
      ck (kA M6 b8 25 a1) (
      nn (mR M6 b8 (ix a1)) (fun b10 =>
      ck (kO M6 b10 10 14) (
      bd (Store_overAsKnown M6 b10 a2) (fun r12 M13 =>
      some (r12, M13)))))))))))))
set_option maxRecDepth 100000 in
set_option maxHeartbeats 4000000 in
theorem s_Hall_over (G : Gx) (M : Mm) (a0 : Nat) (a1 : Int32) (a2 : Int32) : FnS G Y_Hall_over cvI 3 [.ref a0, .int a1, .int a2] M (Hall_over M a0 a1 a2) := by
  refine FnS.ofE (by decide) (Nat.le_of_ble_eq_true rfl) ?_
  show EJ G Y_Hall_over cvI 3 0 [(0, .ref a0), (1, .int a1), (2, .int a2)] [] M _
  unfold Hall_over
  refine EJ_aload_n 1 0 (dk_42 (bt bc_Hall_over_0 0 rfl)) rfl rfl ?_
  refine EJ_iload_n 2 1 (dk_27 (bt bc_Hall_over_0 1 rfl)) rfl rfl ?_
  refine EJ_ck (fun h1 => ?_)
  refine EJ_callVi (Y2 := Y_Hall_isStore) 5 cf11 (s_Hall_isStore G _ _ _) (of_decide_eq_true h1) rfl (dk_182 (bt bc_Hall_over_0 2 rfl) (bt bc_Hall_over_0 3 rfl) (bt bc_Hall_over_0 4 rfl) (n := 108) rfl) rfl tw_453 tw_455 ts_7 tw_456 hd_Hall_isStore rfl (by decide) (Nat.le_of_ble_eq_true rfl) (fun r2 M3 => ?_)
  refine EJ_if_eq 20 8 (dk_153 (bt bc_Hall_over_0 5 rfl) (bt bc_Hall_over_0 6 rfl) (bt bc_Hall_over_0 7 rfl) (n := 15) rfl) (by decide) rfl (fun _ => ?_) (fun _ => ?_)
  · refine EJ_iconst 21 (dk_2 (bt bc_Hall_over_0 20 rfl)) rfl (v := (-1)) kI_m1 ?_
    exact EJ_iret rfl (dk_172 (bt bc_Hall_over_0 21 rfl))
  · refine EJ_iload_n 9 2 (dk_28 (bt bc_Hall_over_0 8 rfl)) rfl rfl ?_
    refine EJ_iconst 10 (dk_3 (bt bc_Hall_over_0 9 rfl)) rfl (v := 0) kI_0 ?_
    refine EJ_aload_n 11 0 (dk_42 (bt bc_Hall_over_0 10 rfl)) rfl rfl ?_
    refine EJ_ck (fun h4 => ?_)
    refine EJ_getI cf11 16 (by decide) 14 tw_216 (fun _ _ _ => rfl) (dk_180 (bt bc_Hall_over_0 11 rfl) (bt bc_Hall_over_0 12 rfl) (bt bc_Hall_over_0 13 rfl) (n := 120) rfl) rfl (of_decide_eq_true h4) ?_
    refine EJ_callSi (Y2 := Y_Hall_isWithin) 17 (s_Hall_isWithin G _ _ _ _) rfl (dk_184 (bt bc_Hall_over_0 14 rfl) (bt bc_Hall_over_0 15 rfl) (bt bc_Hall_over_0 16 rfl) (n := 80) rfl) rfl tw_292 tw_276 tw_1 tw_277 hd_Hall_isWithin rfl (by decide) (Nat.le_of_ble_eq_true rfl) (fun r5 M6 => ?_)
    refine EJ_if_ne 22 20 (dk_154 (bt bc_Hall_over_0 17 rfl) (bt bc_Hall_over_0 18 rfl) (bt bc_Hall_over_0 19 rfl) (n := 5) rfl) (by decide) rfl (fun _ => ?_) (fun _ => ?_)
    · refine EJ_aload_n 23 0 (dk_42 (bt bc_Hall_over_0 22 rfl)) rfl rfl ?_
      refine EJ_ck (fun h7 => ?_)
      refine EJ_getR cf11 3 (by decide) 26 tw_203 (fun _ _ _ => rfl) (dk_180 (bt bc_Hall_over_0 23 rfl) (bt bc_Hall_over_0 24 rfl) (bt bc_Hall_over_0 25 rfl) (n := 24) rfl) rfl (of_decide_eq_true h7) (fun b8 => ?_)
      refine EJ_iload_n 27 1 (dk_27 (bt bc_Hall_over_0 26 rfl)) rfl rfl ?_
      refine EJ_ck (fun h9 => ?_)
      refine EJ_aald 5 28 (by decide) (by decide) rfl h9 (dk_50 (bt bc_Hall_over_0 27 rfl)) rfl (fun b10 => ?_)
      refine EJ_iload_n 29 2 (dk_28 (bt bc_Hall_over_0 28 rfl)) rfl rfl ?_
      refine EJ_ck (fun h11 => ?_)
      refine EJ_callVi (Y2 := Y_Store_overAsKnown) 32 cf10 (s_Store_overAsKnown G _ _ _) (of_decide_eq_true h11) rfl (dk_182 (bt bc_Hall_over_0 29 rfl) (bt bc_Hall_over_0 30 rfl) (bt bc_Hall_over_0 31 rfl) (n := 156) rfl) rfl tw_554 tw_555 tw_556 tw_557 hd_Store_overAsKnown rfl (by decide) (Nat.le_of_ble_eq_true rfl) (fun r12 M13 => ?_)
      exact EJ_iret rfl (dk_172 (bt bc_Hall_over_1 0 rfl))
    · refine EJ_iconst 21 (dk_2 (bt bc_Hall_over_0 20 rfl)) rfl (v := (-1)) kI_m1 ?_
      exact EJ_iret rfl (dk_172 (bt bc_Hall_over_0 21 rfl))
abbrev Y_Hall_storeOf : Ym := (⟨"RiceHall", "storeOf", "(II)I"⟩, prog_1_method_15_code, 4, (some FieldType.int))
theorem bc_Hall_storeOf_0 : bts prog_1_method_15_code 0 [42, 27, 182, 0, 108, 154, 0, 5, 2, 172, 42, 180, 0, 24, 27, 50, 78, 28, 170, 0, 0, 0, 0, 98, 0, 0, 0, 0, 0, 0, 0, 7] := bts_of (by decide +kernel)
theorem bc_Hall_storeOf_1 : bts prog_1_method_15_code 32 [0, 0, 0, 46, 0, 0, 0, 51, 0, 0, 0, 56, 0, 0, 0, 61, 0, 0, 0, 66, 0, 0, 0, 71, 0, 0, 0, 88, 0, 0, 0, 93] := bts_of (by decide +kernel)
theorem bc_Hall_storeOf_2 : bts prog_1_method_15_code 64 [45, 180, 0, 143, 172, 45, 182, 0, 126, 172, 45, 180, 0, 159, 172, 45, 180, 0, 162, 172, 45, 180, 0, 165, 172, 45, 42, 180, 0, 120, 182, 0] := bts_of (by decide +kernel)
theorem bc_Hall_storeOf_3 : bts prog_1_method_15_code 96 [168, 153, 0, 7, 4, 167, 0, 4, 3, 172, 45, 182, 0, 171, 172, 45, 182, 0, 174, 172, 2, 172] := bts_of (by decide +kernel)
theorem hd_Hall_storeOf : Y_Hall_storeOf.1.cls = RX11 ∧ Y_Hall_storeOf.1.cls ≠ "java/lang/invoke/MethodHandle" ∧ Y_Hall_storeOf.1.cls ≠ "java/lang/invoke/VarHandle" ∧ (parseMethodDescriptor Y_Hall_storeOf.1.desc).map (fun d => d.parameters.length) = some 2 := by decide +kernel
set_option maxRecDepth 100000 in
theorem ds_Hall_storeOf_18 : decode prog_1_method_15_code 18 = .ok (.tableswitch (98) (0) (7) #[46, 51, 56, 61, 66, 71, 88, 93], 46) := by decide +kernel
def Hall_storeOf (M : Mm) (a0 : Nat) (a1 : Int32) (a2 : Int32) : Option (Int32 × Mm) :=
  ck (kO M a0 11 18) (
  bd (Hall_isStore M a0 a1) (fun r2 M3 =>
  if r2 = 0 then (
    some ((-1), M3))
  else (
    ck (kO M3 a0 11 18) (
    nn (mR M3 a0 3) (fun b5 =>
    ck (kA M3 b5 25 a1) (
    nn (mR M3 b5 (ix a1)) (fun b7 =>
    if a2 = 0 then (
      ck (kO M3 b7 10 14) (
      some (mI M3 b7 8, M3)))
    else (
    if a2 = 1 then (
      ck (kO M3 b7 10 14) (
      bd (Store_out M3 b7) (fun r10 M11 =>
      some (r10, M11))))
    else (
    if a2 = 2 then (
      ck (kO M3 b7 10 14) (
      some (mI M3 b7 10, M3)))
    else (
    if a2 = 3 then (
      ck (kO M3 b7 10 14) (
      some (mI M3 b7 11, M3)))
    else (
    if a2 = 4 then (
      ck (kO M3 b7 10 14) (
      some (mI M3 b7 12, M3)))
    else (
    if a2 = 5 then (
      ck (kO M3 b7 10 14) (
      bd (Store_cannot M3 b7 (mI M3 a0 16)) (fun r16 M17 =>
      if r16 = 0 then (
        some (0, M17))
      else (
        some (1, M17)))))
    else (
    if a2 = 6 then (
      ck (kO M3 b7 10 14) (
      bd (Store_firstWaiter M3 b7) (fun r19 M20 =>
      some (r19, M20))))
    else (
    if a2 = 7 then (
      ck (kO M3 b7 10 14) (
      bd (Store_share M3 b7) (fun r22 M23 =>
      some (r22, M23))))
    else (
    some ((-1), M3))))))))))))))))
set_option maxRecDepth 100000 in
set_option maxHeartbeats 4000000 in
theorem s_Hall_storeOf (G : Gx) (M : Mm) (a0 : Nat) (a1 : Int32) (a2 : Int32) : FnS G Y_Hall_storeOf cvI 3 [.ref a0, .int a1, .int a2] M (Hall_storeOf M a0 a1 a2) := by
  refine FnS.ofE (by decide) (Nat.le_of_ble_eq_true rfl) ?_
  show EJ G Y_Hall_storeOf cvI 3 0 [(0, .ref a0), (1, .int a1), (2, .int a2)] [] M _
  unfold Hall_storeOf
  refine EJ_aload_n 1 0 (dk_42 (bt bc_Hall_storeOf_0 0 rfl)) rfl rfl ?_
  refine EJ_iload_n 2 1 (dk_27 (bt bc_Hall_storeOf_0 1 rfl)) rfl rfl ?_
  refine EJ_ck (fun h1 => ?_)
  refine EJ_callVi (Y2 := Y_Hall_isStore) 5 cf11 (s_Hall_isStore G _ _ _) (of_decide_eq_true h1) rfl (dk_182 (bt bc_Hall_storeOf_0 2 rfl) (bt bc_Hall_storeOf_0 3 rfl) (bt bc_Hall_storeOf_0 4 rfl) (n := 108) rfl) rfl tw_453 tw_455 ts_7 tw_456 hd_Hall_isStore rfl (by decide) (Nat.le_of_ble_eq_true rfl) (fun r2 M3 => ?_)
  refine EJ_if_ne 10 8 (dk_154 (bt bc_Hall_storeOf_0 5 rfl) (bt bc_Hall_storeOf_0 6 rfl) (bt bc_Hall_storeOf_0 7 rfl) (n := 5) rfl) (by decide) rfl (fun _ => ?_) (fun _ => ?_)
  · refine EJ_aload_n 11 0 (dk_42 (bt bc_Hall_storeOf_0 10 rfl)) rfl rfl ?_
    refine EJ_ck (fun h4 => ?_)
    refine EJ_getR cf11 3 (by decide) 14 tw_203 (fun _ _ _ => rfl) (dk_180 (bt bc_Hall_storeOf_0 11 rfl) (bt bc_Hall_storeOf_0 12 rfl) (bt bc_Hall_storeOf_0 13 rfl) (n := 24) rfl) rfl (of_decide_eq_true h4) (fun b5 => ?_)
    refine EJ_iload_n 15 1 (dk_27 (bt bc_Hall_storeOf_0 14 rfl)) rfl rfl ?_
    refine EJ_ck (fun h6 => ?_)
    refine EJ_aald 5 16 (by decide) (by decide) rfl h6 (dk_50 (bt bc_Hall_storeOf_0 15 rfl)) rfl (fun b7 => ?_)
    refine EJ_astore_n 17 (lv2 := [(3, .ref _), (0, .ref _), (1, .int _), (2, .int _)]) (dk_78 (bt bc_Hall_storeOf_0 16 rfl)) rfl (by decide) rfl ?_
    refine EJ_iload_n 18 3 (dk_28 (bt bc_Hall_storeOf_0 17 rfl)) rfl rfl ?_
    refine EJ_case 0 64 ds_Hall_storeOf_18 (by decide) rfl (by decide) (fun _ => ?_) (fun hc18_0 => ?_)
    · refine EJ_aload_n 65 0 (dk_45 (bt bc_Hall_storeOf_2 0 rfl)) rfl rfl ?_
      refine EJ_ck (fun h8 => ?_)
      refine EJ_getI cf10 8 (by decide) 68 tw_409 (fun _ _ _ => rfl) (dk_180 (bt bc_Hall_storeOf_2 1 rfl) (bt bc_Hall_storeOf_2 2 rfl) (bt bc_Hall_storeOf_2 3 rfl) (n := 143) rfl) rfl (of_decide_eq_true h8) ?_
      exact EJ_iret rfl (dk_172 (bt bc_Hall_storeOf_2 4 rfl))
    refine EJ_case 1 69 ds_Hall_storeOf_18 (by decide) rfl (by decide) (fun _ => ?_) (fun hc18_1 => ?_)
    · refine EJ_aload_n 70 0 (dk_45 (bt bc_Hall_storeOf_2 5 rfl)) rfl rfl ?_
      refine EJ_ck (fun h9 => ?_)
      refine EJ_callVi (Y2 := Y_Store_out) 73 cf10 (s_Store_out G _ _) (of_decide_eq_true h9) rfl (dk_182 (bt bc_Hall_storeOf_2 6 rfl) (bt bc_Hall_storeOf_2 7 rfl) (bt bc_Hall_storeOf_2 8 rfl) (n := 126) rfl) rfl tw_465 tw_466 tw_467 tw_468 hd_Store_out rfl (by decide) (Nat.le_of_ble_eq_true rfl) (fun r10 M11 => ?_)
      exact EJ_iret rfl (dk_172 (bt bc_Hall_storeOf_2 9 rfl))
    refine EJ_case 2 74 ds_Hall_storeOf_18 (by decide) rfl (by decide) (fun _ => ?_) (fun hc18_2 => ?_)
    · refine EJ_aload_n 75 0 (dk_45 (bt bc_Hall_storeOf_2 10 rfl)) rfl rfl ?_
      refine EJ_ck (fun h12 => ?_)
      refine EJ_getI cf10 10 (by decide) 78 tw_413 (fun _ _ _ => rfl) (dk_180 (bt bc_Hall_storeOf_2 11 rfl) (bt bc_Hall_storeOf_2 12 rfl) (bt bc_Hall_storeOf_2 13 rfl) (n := 159) rfl) rfl (of_decide_eq_true h12) ?_
      exact EJ_iret rfl (dk_172 (bt bc_Hall_storeOf_2 14 rfl))
    refine EJ_case 3 79 ds_Hall_storeOf_18 (by decide) rfl (by decide) (fun _ => ?_) (fun hc18_3 => ?_)
    · refine EJ_aload_n 80 0 (dk_45 (bt bc_Hall_storeOf_2 15 rfl)) rfl rfl ?_
      refine EJ_ck (fun h13 => ?_)
      refine EJ_getI cf10 11 (by decide) 83 tw_415 (fun _ _ _ => rfl) (dk_180 (bt bc_Hall_storeOf_2 16 rfl) (bt bc_Hall_storeOf_2 17 rfl) (bt bc_Hall_storeOf_2 18 rfl) (n := 162) rfl) rfl (of_decide_eq_true h13) ?_
      exact EJ_iret rfl (dk_172 (bt bc_Hall_storeOf_2 19 rfl))
    refine EJ_case 4 84 ds_Hall_storeOf_18 (by decide) rfl (by decide) (fun _ => ?_) (fun hc18_4 => ?_)
    · refine EJ_aload_n 85 0 (dk_45 (bt bc_Hall_storeOf_2 20 rfl)) rfl rfl ?_
      refine EJ_ck (fun h14 => ?_)
      refine EJ_getI cf10 12 (by decide) 88 tw_417 (fun _ _ _ => rfl) (dk_180 (bt bc_Hall_storeOf_2 21 rfl) (bt bc_Hall_storeOf_2 22 rfl) (bt bc_Hall_storeOf_2 23 rfl) (n := 165) rfl) rfl (of_decide_eq_true h14) ?_
      exact EJ_iret rfl (dk_172 (bt bc_Hall_storeOf_2 24 rfl))
    refine EJ_case 5 89 ds_Hall_storeOf_18 (by decide) rfl (by decide) (fun _ => ?_) (fun hc18_5 => ?_)
    · refine EJ_aload_n 90 0 (dk_45 (bt bc_Hall_storeOf_2 25 rfl)) rfl rfl ?_
      refine EJ_aload_n 91 1 (dk_42 (bt bc_Hall_storeOf_2 26 rfl)) rfl rfl ?_
      refine EJ_getI cf11 16 (by decide) 94 tw_216 (fun _ _ _ => rfl) (dk_180 (bt bc_Hall_storeOf_2 27 rfl) (bt bc_Hall_storeOf_2 28 rfl) (bt bc_Hall_storeOf_2 29 rfl) (n := 120) rfl) rfl (of_decide_eq_true h4) ?_
      refine EJ_ck (fun h15 => ?_)
      refine EJ_callVi (Y2 := Y_Store_cannot) 97 cf10 (s_Store_cannot G _ _ _) (of_decide_eq_true h15) rfl (dk_182 (bt bc_Hall_storeOf_2 30 rfl) (bt bc_Hall_storeOf_2 31 rfl) (bt bc_Hall_storeOf_3 0 rfl) (n := 168) rfl) rfl tw_565 tw_566 tw_567 tw_568 hd_Store_cannot rfl (by decide) (Nat.le_of_ble_eq_true rfl) (fun r16 M17 => ?_)
      refine EJ_if_eq 104 100 (dk_153 (bt bc_Hall_storeOf_3 1 rfl) (bt bc_Hall_storeOf_3 2 rfl) (bt bc_Hall_storeOf_3 3 rfl) (n := 7) rfl) (by decide) rfl (fun _ => ?_) (fun _ => ?_)
      · refine EJ_iconst 105 (dk_3 (bt bc_Hall_storeOf_3 8 rfl)) rfl (v := 0) kI_0 ?_
        exact EJ_iret rfl (dk_172 (bt bc_Hall_storeOf_3 9 rfl))
      · refine EJ_iconst 101 (dk_4 (bt bc_Hall_storeOf_3 4 rfl)) rfl (v := 1) kI_1 ?_
        refine EJ_goto 105 (dk_167 (bt bc_Hall_storeOf_3 5 rfl) (bt bc_Hall_storeOf_3 6 rfl) (bt bc_Hall_storeOf_3 7 rfl) (n := 4) rfl) (by decide) ?_
        exact EJ_iret rfl (dk_172 (bt bc_Hall_storeOf_3 9 rfl))
    refine EJ_case 6 106 ds_Hall_storeOf_18 (by decide) rfl (by decide) (fun _ => ?_) (fun hc18_6 => ?_)
    · refine EJ_aload_n 107 0 (dk_45 (bt bc_Hall_storeOf_3 10 rfl)) rfl rfl ?_
      refine EJ_ck (fun h18 => ?_)
      refine EJ_callVi (Y2 := Y_Store_firstWaiter) 110 cf10 (s_Store_firstWaiter G _ _) (of_decide_eq_true h18) rfl (dk_182 (bt bc_Hall_storeOf_3 11 rfl) (bt bc_Hall_storeOf_3 12 rfl) (bt bc_Hall_storeOf_3 13 rfl) (n := 171) rfl) rfl tw_569 tw_570 tw_571 tw_572 hd_Store_firstWaiter rfl (by decide) (Nat.le_of_ble_eq_true rfl) (fun r19 M20 => ?_)
      exact EJ_iret rfl (dk_172 (bt bc_Hall_storeOf_3 14 rfl))
    refine EJ_case 7 111 ds_Hall_storeOf_18 (by decide) rfl (by decide) (fun _ => ?_) (fun hc18_7 => ?_)
    · refine EJ_aload_n 112 0 (dk_45 (bt bc_Hall_storeOf_3 15 rfl)) rfl rfl ?_
      refine EJ_ck (fun h21 => ?_)
      refine EJ_callVi (Y2 := Y_Store_share) 115 cf10 (s_Store_share G _ _) (of_decide_eq_true h21) rfl (dk_182 (bt bc_Hall_storeOf_3 16 rfl) (bt bc_Hall_storeOf_3 17 rfl) (bt bc_Hall_storeOf_3 18 rfl) (n := 174) rfl) rfl tw_573 tw_574 tw_575 tw_576 hd_Store_share rfl (by decide) (Nat.le_of_ble_eq_true rfl) (fun r22 M23 => ?_)
      exact EJ_iret rfl (dk_172 (bt bc_Hall_storeOf_3 19 rfl))
    refine EJ_tabOut 116 ds_Hall_storeOf_18 (tabOut (fun k k1 k2 => by
        rcases (show k = 0 ∨ k = 1 ∨ k = 2 ∨ k = 3 ∨ k = 4 ∨ k = 5 ∨ k = 6 ∨ k = 7 by omega) with rfl | rfl | rfl | rfl | rfl | rfl | rfl | rfl
        · exact hc18_0
        · exact hc18_1
        · exact hc18_2
        · exact hc18_3
        · exact hc18_4
        · exact hc18_5
        · exact hc18_6
        · exact hc18_7)) (by decide) ?_
    refine EJ_iconst 117 (dk_2 (bt bc_Hall_storeOf_3 20 rfl)) rfl (v := (-1)) kI_m1 ?_
    exact EJ_iret rfl (dk_172 (bt bc_Hall_storeOf_3 21 rfl))
  · refine EJ_iconst 9 (dk_2 (bt bc_Hall_storeOf_0 8 rfl)) rfl (v := (-1)) kI_m1 ?_
    exact EJ_iret rfl (dk_172 (bt bc_Hall_storeOf_0 9 rfl))
