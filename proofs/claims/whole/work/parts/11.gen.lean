abbrev Y_Math_min_I : Ym := (⟨"java/lang/Math", "min", "(II)I"⟩, prog_16_method_69_code, 2, (some FieldType.int))
theorem bc_Math_min_I_0 : bts prog_16_method_69_code 0 [26, 27, 163, 0, 7, 26, 167, 0, 4, 27, 172] := bts_of (by decide +kernel)
theorem hd_Math_min_I : Y_Math_min_I.1.cls ≠ "java/lang/invoke/MethodHandle" ∧ Y_Math_min_I.1.cls ≠ "java/lang/invoke/VarHandle" ∧ (parseMethodDescriptor Y_Math_min_I.1.desc).map (fun d => d.parameters.length) = some 2 := by decide +kernel
def Math_min_I (M : Mm) (a0 : Int32) (a1 : Int32) : Option (Int32 × Mm) :=
  if a1 < a0 then (
    some (a1, M))
  else (
    some (a0, M))
set_option maxRecDepth 100000 in
set_option maxHeartbeats 4000000 in
theorem s_Math_min_I (G : Gx) (M : Mm) (a0 : Int32) (a1 : Int32) : FnS G Y_Math_min_I cvI 1 [.int a0, .int a1] M (Math_min_I M a0 a1) := by
  refine FnS.ofF (by decide +kernel) (Nat.le_of_ble_eq_true rfl) ?_
  show EJ G Y_Math_min_I cvI 1 0 [(0, .int a0), (1, .int a1)] [] M _
  unfold Math_min_I
  refine EJ_iload_n 1 0 (dk_26 (bt bc_Math_min_I_0 0 rfl)) rfl rfl ?_
  refine EJ_iload_n 2 1 (dk_27 (bt bc_Math_min_I_0 1 rfl)) rfl rfl ?_
  refine EJ_icmp_gt 9 5 (dk_163 (bt bc_Math_min_I_0 2 rfl) (bt bc_Math_min_I_0 3 rfl) (bt bc_Math_min_I_0 4 rfl) (n := 7) rfl) (by decide) rfl (fun _ => ?_) (fun _ => ?_)
  · refine EJ_iload_n 10 1 (dk_27 (bt bc_Math_min_I_0 9 rfl)) rfl rfl ?_
    exact EJ_iret rfl (dk_172 (bt bc_Math_min_I_0 10 rfl))
  · refine EJ_iload_n 6 0 (dk_26 (bt bc_Math_min_I_0 5 rfl)) rfl rfl ?_
    refine EJ_goto 10 (dk_167 (bt bc_Math_min_I_0 6 rfl) (bt bc_Math_min_I_0 7 rfl) (bt bc_Math_min_I_0 8 rfl) (n := 4) rfl) (by decide) ?_
    exact EJ_iret rfl (dk_172 (bt bc_Math_min_I_0 10 rfl))
abbrev Y_Math_max_I : Ym := (⟨"java/lang/Math", "max", "(II)I"⟩, prog_16_method_65_code, 2, (some FieldType.int))
theorem bc_Math_max_I_0 : bts prog_16_method_65_code 0 [26, 27, 161, 0, 7, 26, 167, 0, 4, 27, 172] := bts_of (by decide +kernel)
theorem hd_Math_max_I : Y_Math_max_I.1.cls ≠ "java/lang/invoke/MethodHandle" ∧ Y_Math_max_I.1.cls ≠ "java/lang/invoke/VarHandle" ∧ (parseMethodDescriptor Y_Math_max_I.1.desc).map (fun d => d.parameters.length) = some 2 := by decide +kernel
def Math_max_I (M : Mm) (a0 : Int32) (a1 : Int32) : Option (Int32 × Mm) :=
  if a0 < a1 then (
    some (a1, M))
  else (
    some (a0, M))
set_option maxRecDepth 100000 in
set_option maxHeartbeats 4000000 in
theorem s_Math_max_I (G : Gx) (M : Mm) (a0 : Int32) (a1 : Int32) : FnS G Y_Math_max_I cvI 1 [.int a0, .int a1] M (Math_max_I M a0 a1) := by
  refine FnS.ofF (by decide +kernel) (Nat.le_of_ble_eq_true rfl) ?_
  show EJ G Y_Math_max_I cvI 1 0 [(0, .int a0), (1, .int a1)] [] M _
  unfold Math_max_I
  refine EJ_iload_n 1 0 (dk_26 (bt bc_Math_max_I_0 0 rfl)) rfl rfl ?_
  refine EJ_iload_n 2 1 (dk_27 (bt bc_Math_max_I_0 1 rfl)) rfl rfl ?_
  refine EJ_icmp_lt 9 5 (dk_161 (bt bc_Math_max_I_0 2 rfl) (bt bc_Math_max_I_0 3 rfl) (bt bc_Math_max_I_0 4 rfl) (n := 7) rfl) (by decide) rfl (fun _ => ?_) (fun _ => ?_)
  · refine EJ_iload_n 10 1 (dk_27 (bt bc_Math_max_I_0 9 rfl)) rfl rfl ?_
    exact EJ_iret rfl (dk_172 (bt bc_Math_max_I_0 10 rfl))
  · refine EJ_iload_n 6 0 (dk_26 (bt bc_Math_max_I_0 5 rfl)) rfl rfl ?_
    refine EJ_goto 10 (dk_167 (bt bc_Math_max_I_0 6 rfl) (bt bc_Math_max_I_0 7 rfl) (bt bc_Math_max_I_0 8 rfl) (n := 4) rfl) (by decide) ?_
    exact EJ_iret rfl (dk_172 (bt bc_Math_max_I_0 10 rfl))
abbrev Y_Math_abs_I : Ym := (⟨"java/lang/Math", "abs", "(I)I"⟩, prog_16_method_59_code, 1, (some FieldType.int))
theorem bc_Math_abs_I_0 : bts prog_16_method_59_code 0 [26, 156, 0, 8, 26, 116, 167, 0, 4, 26, 172] := bts_of (by decide +kernel)
theorem hd_Math_abs_I : Y_Math_abs_I.1.cls ≠ "java/lang/invoke/MethodHandle" ∧ Y_Math_abs_I.1.cls ≠ "java/lang/invoke/VarHandle" ∧ (parseMethodDescriptor Y_Math_abs_I.1.desc).map (fun d => d.parameters.length) = some 1 := by decide +kernel
def Math_abs_I (M : Mm) (a0 : Int32) : Option (Int32 × Mm) :=
  if 0 ≤ a0 then (
    some (a0, M))
  else (
    some (-a0, M))
set_option maxRecDepth 100000 in
set_option maxHeartbeats 4000000 in
theorem s_Math_abs_I (G : Gx) (M : Mm) (a0 : Int32) : FnS G Y_Math_abs_I cvI 1 [.int a0] M (Math_abs_I M a0) := by
  refine FnS.ofF (by decide +kernel) (Nat.le_of_ble_eq_true rfl) ?_
  show EJ G Y_Math_abs_I cvI 1 0 [(0, .int a0)] [] M _
  unfold Math_abs_I
  refine EJ_iload_n 1 0 (dk_26 (bt bc_Math_abs_I_0 0 rfl)) rfl rfl ?_
  refine EJ_if_ge 9 4 (dk_156 (bt bc_Math_abs_I_0 1 rfl) (bt bc_Math_abs_I_0 2 rfl) (bt bc_Math_abs_I_0 3 rfl) (n := 8) rfl) (by decide) rfl (fun _ => ?_) (fun _ => ?_)
  · refine EJ_iload_n 10 0 (dk_26 (bt bc_Math_abs_I_0 9 rfl)) rfl rfl ?_
    exact EJ_iret rfl (dk_172 (bt bc_Math_abs_I_0 10 rfl))
  · refine EJ_iload_n 5 0 (dk_26 (bt bc_Math_abs_I_0 4 rfl)) rfl rfl ?_
    refine EJ_ineg 6 (dk_116 (bt bc_Math_abs_I_0 5 rfl)) rfl ?_
    refine EJ_goto 10 (dk_167 (bt bc_Math_abs_I_0 6 rfl) (bt bc_Math_abs_I_0 7 rfl) (bt bc_Math_abs_I_0 8 rfl) (n := 4) rfl) (by decide) ?_
    exact EJ_iret rfl (dk_172 (bt bc_Math_abs_I_0 10 rfl))
abbrev Y_Math_min_L : Ym := (⟨"java/lang/Math", "min", "(JJ)J"⟩, prog_16_method_70_code, 4, (some FieldType.long))
theorem bc_Math_min_L_0 : bts prog_16_method_70_code 0 [30, 32, 148, 157, 0, 7, 30, 167, 0, 4, 32, 173] := bts_of (by decide +kernel)
theorem hd_Math_min_L : Y_Math_min_L.1.cls ≠ "java/lang/invoke/MethodHandle" ∧ Y_Math_min_L.1.cls ≠ "java/lang/invoke/VarHandle" ∧ (parseMethodDescriptor Y_Math_min_L.1.desc).map (fun d => d.parameters.length) = some 2 := by decide +kernel
def Math_min_L (M : Mm) (a0 : Int64) (a1 : Int64) : Option (Int64 × Mm) :=
  if a1 < a0 then (
    some (a1, M))
  else (
    some (a0, M))
set_option maxRecDepth 100000 in
set_option maxHeartbeats 4000000 in
theorem s_Math_min_L (G : Gx) (M : Mm) (a0 : Int64) (a1 : Int64) : FnS G Y_Math_min_L cvL 1 [.long a0, .long a1] M (Math_min_L M a0 a1) := by
  refine FnS.ofF (by decide +kernel) (Nat.le_of_ble_eq_true rfl) ?_
  show EJ G Y_Math_min_L cvL 1 0 [(0, .long a0), (2, .long a1)] [] M _
  unfold Math_min_L
  refine EJ_lload_n 1 0 (dk_30 (bt bc_Math_min_L_0 0 rfl)) rfl rfl ?_
  refine EJ_lload_n 2 1 (dk_32 (bt bc_Math_min_L_0 1 rfl)) rfl rfl ?_
  refine EJ_lcmp_gt 10 6 (dk_148 (bt bc_Math_min_L_0 2 rfl)) (dk_157 (bt bc_Math_min_L_0 3 rfl) (bt bc_Math_min_L_0 4 rfl) (bt bc_Math_min_L_0 5 rfl) (n := 7) rfl) (by decide) rfl (fun _ => ?_) (fun _ => ?_)
  · refine EJ_lload_n 11 1 (dk_32 (bt bc_Math_min_L_0 10 rfl)) rfl rfl ?_
    exact EJ_lret rfl (dk_173 (bt bc_Math_min_L_0 11 rfl))
  · refine EJ_lload_n 7 0 (dk_30 (bt bc_Math_min_L_0 6 rfl)) rfl rfl ?_
    refine EJ_goto 11 (dk_167 (bt bc_Math_min_L_0 7 rfl) (bt bc_Math_min_L_0 8 rfl) (bt bc_Math_min_L_0 9 rfl) (n := 4) rfl) (by decide) ?_
    exact EJ_lret rfl (dk_173 (bt bc_Math_min_L_0 11 rfl))
abbrev Y_Math_max_L : Ym := (⟨"java/lang/Math", "max", "(JJ)J"⟩, prog_16_method_66_code, 4, (some FieldType.long))
theorem bc_Math_max_L_0 : bts prog_16_method_66_code 0 [30, 32, 148, 155, 0, 7, 30, 167, 0, 4, 32, 173] := bts_of (by decide +kernel)
theorem hd_Math_max_L : Y_Math_max_L.1.cls ≠ "java/lang/invoke/MethodHandle" ∧ Y_Math_max_L.1.cls ≠ "java/lang/invoke/VarHandle" ∧ (parseMethodDescriptor Y_Math_max_L.1.desc).map (fun d => d.parameters.length) = some 2 := by decide +kernel
def Math_max_L (M : Mm) (a0 : Int64) (a1 : Int64) : Option (Int64 × Mm) :=
  if a0 < a1 then (
    some (a1, M))
  else (
    some (a0, M))
set_option maxRecDepth 100000 in
set_option maxHeartbeats 4000000 in
theorem s_Math_max_L (G : Gx) (M : Mm) (a0 : Int64) (a1 : Int64) : FnS G Y_Math_max_L cvL 1 [.long a0, .long a1] M (Math_max_L M a0 a1) := by
  refine FnS.ofF (by decide +kernel) (Nat.le_of_ble_eq_true rfl) ?_
  show EJ G Y_Math_max_L cvL 1 0 [(0, .long a0), (2, .long a1)] [] M _
  unfold Math_max_L
  refine EJ_lload_n 1 0 (dk_30 (bt bc_Math_max_L_0 0 rfl)) rfl rfl ?_
  refine EJ_lload_n 2 1 (dk_32 (bt bc_Math_max_L_0 1 rfl)) rfl rfl ?_
  refine EJ_lcmp_lt 10 6 (dk_148 (bt bc_Math_max_L_0 2 rfl)) (dk_155 (bt bc_Math_max_L_0 3 rfl) (bt bc_Math_max_L_0 4 rfl) (bt bc_Math_max_L_0 5 rfl) (n := 7) rfl) (by decide) rfl (fun _ => ?_) (fun _ => ?_)
  · refine EJ_lload_n 11 1 (dk_32 (bt bc_Math_max_L_0 10 rfl)) rfl rfl ?_
    exact EJ_lret rfl (dk_173 (bt bc_Math_max_L_0 11 rfl))
  · refine EJ_lload_n 7 0 (dk_30 (bt bc_Math_max_L_0 6 rfl)) rfl rfl ?_
    refine EJ_goto 11 (dk_167 (bt bc_Math_max_L_0 7 rfl) (bt bc_Math_max_L_0 8 rfl) (bt bc_Math_max_L_0 9 rfl) (n := 4) rfl) (by decide) ?_
    exact EJ_lret rfl (dk_173 (bt bc_Math_max_L_0 11 rfl))
abbrev Y_Arr_fill : Ym := (⟨"java/util/Arrays", "fill", "([II)V"⟩, prog_21_method_103_code, 4, none)
theorem bc_Arr_fill_0 : bts prog_21_method_103_code 0 [3, 61, 42, 190, 62, 28, 29, 162, 0, 13, 42, 28, 27, 79, 132, 2, 1, 167, 255, 244, 177] := bts_of (by decide +kernel)
theorem hd_Arr_fill : Y_Arr_fill.1.cls ≠ "java/lang/invoke/MethodHandle" ∧ Y_Arr_fill.1.cls ≠ "java/lang/invoke/VarHandle" ∧ (parseMethodDescriptor Y_Arr_fill.1.desc).map (fun d => d.parameters.length) = some 2 := by decide +kernel
def Arr_fill_B5 (k5 : Nat → Int32 → Int32 → Int32 → Mm → Option (Unit × Mm)) (x0 : Nat) (x1 : Int32) (x2 : Int32) (x3 : Int32) (M : Mm) : Option (Unit × Mm) :=
  if x3 ≤ x2 then (
    some ((), M))
  else (
    ck (kA M x0 20 x2) (
    let M4 := sI M x0 (ix x2) x1
    let v5 : Int32 := x2 + 1
    k5 x0 x1 v5 x3 M4))
set_option maxRecDepth 100000 in
set_option maxHeartbeats 4000000 in
theorem e_Arr_fill_B5 {G : Gx} (k5 : Nat → Int32 → Int32 → Int32 → Mm → Option (Unit × Mm)) (hk5 : ∀ (x0 : Nat) (x1 : Int32) (x2 : Int32) (x3 : Int32) (M : Mm), EJ G Y_Arr_fill cvV 1 5 [(0, .ref x0), (1, .int x1), (2, .int x2), (3, .int x3)] [] M (k5 x0 x1 x2 x3 M)) (x0 : Nat) (x1 : Int32) (x2 : Int32) (x3 : Int32) (M : Mm) : EJ G Y_Arr_fill cvV 1 5 [(0, .ref x0), (1, .int x1), (2, .int x2), (3, .int x3)] [] M (Arr_fill_B5 k5 x0 x1 x2 x3 M) := by
  unfold Arr_fill_B5
  refine EJ_iload_n 6 2 (dk_28 (bt bc_Arr_fill_0 5 rfl)) rfl rfl ?_
  refine EJ_iload_n 7 3 (dk_29 (bt bc_Arr_fill_0 6 rfl)) rfl rfl ?_
  refine EJ_icmp_ge 20 10 (dk_162 (bt bc_Arr_fill_0 7 rfl) (bt bc_Arr_fill_0 8 rfl) (bt bc_Arr_fill_0 9 rfl) (n := 13) rfl) (by decide) rfl (fun _ => ?_) (fun _ => ?_)
  · exact EJ_vret rfl (dk_177 (bt bc_Arr_fill_0 20 rfl))
  · refine EJ_aload_n 11 0 (dk_42 (bt bc_Arr_fill_0 10 rfl)) rfl rfl ?_
    refine EJ_iload_n 12 2 (dk_28 (bt bc_Arr_fill_0 11 rfl)) rfl rfl ?_
    refine EJ_iload_n 13 1 (dk_27 (bt bc_Arr_fill_0 12 rfl)) rfl rfl ?_
    refine EJ_ck (fun h3 => ?_)
    refine EJ_iast 14 h3 (dk_79 (bt bc_Arr_fill_0 13 rfl)) rfl ?_
    refine EJ_iinc 17 2 (lv2 := [(2, .int _), (0, .ref _), (1, .int _), (3, .int _)]) (dk_132 (bt bc_Arr_fill_0 14 rfl) (bt bc_Arr_fill_0 15 rfl) (bt bc_Arr_fill_0 16 rfl) (n := 1) rfl) rfl (by decide) rfl (v := 1) kI_1 rfl ?_
    refine EJ_goto 5 (dk_167 (bt bc_Arr_fill_0 17 rfl) (bt bc_Arr_fill_0 18 rfl) (bt bc_Arr_fill_0 19 rfl) (n := -12) rfl) (by decide) ?_
    exact EJ_pick (lv2 := [(0, .ref _), (1, .int _), (2, .int _), (3, .int _)]) [1, 2, 0, 3] rfl (hk5 _ _ _ _ _)
def Arr_fill_L5 (n : Nat) : Nat → Int32 → Int32 → Int32 → Mm → Option (Unit × Mm) :=
  match n with
  | 0 => fun _ _ _ _ _ => none
  | n + 1 => Arr_fill_B5 (Arr_fill_L5 n)
theorem e_Arr_fill_L5 {G : Gx} : ∀ (n : Nat) (x0 : Nat) (x1 : Int32) (x2 : Int32) (x3 : Int32) (M : Mm), EJ G Y_Arr_fill cvV 1 5 [(0, .ref x0), (1, .int x1), (2, .int x2), (3, .int x3)] [] M (Arr_fill_L5 n x0 x1 x2 x3 M) := by
  intro n
  induction n with
  | zero => intros; exact EJ_none
  | succ n ih => intro x0 x1 x2 x3 M; exact e_Arr_fill_B5 _ ih x0 x1 x2 x3 M
def Arr_fill (M : Mm) (a0 : Nat) (a1 : Int32) : Option (Unit × Mm) :=
  ck (kT M a0 20) (
  let v2 : Int32 := ln M a0
  Arr_fill_L5 fu a0 a1 0 v2 M)
set_option maxRecDepth 100000 in
set_option maxHeartbeats 4000000 in
theorem s_Arr_fill (G : Gx) (M : Mm) (a0 : Nat) (a1 : Int32) : FnS G Y_Arr_fill cvV 1 [.ref a0, .int a1] M (Arr_fill M a0 a1) := by
  refine FnS.ofF (by decide +kernel) (Nat.le_of_ble_eq_true rfl) ?_
  show EJ G Y_Arr_fill cvV 1 0 [(0, .ref a0), (1, .int a1)] [] M _
  unfold Arr_fill
  refine EJ_iconst 1 (dk_3 (bt bc_Arr_fill_0 0 rfl)) rfl (v := 0) kI_0 ?_
  refine EJ_istore_n 2 (lv2 := [(2, .int _), (0, .ref _), (1, .int _)]) (dk_61 (bt bc_Arr_fill_0 1 rfl)) rfl (by decide) rfl ?_
  refine EJ_aload_n 3 1 (dk_42 (bt bc_Arr_fill_0 2 rfl)) rfl rfl ?_
  refine EJ_ck (fun h1 => ?_)
  refine EJ_alen 0 4 (by decide) h1 (dk_190 (bt bc_Arr_fill_0 3 rfl)) rfl ?_
  refine EJ_istore_n 5 (lv2 := [(3, .int _), (2, .int _), (0, .ref _), (1, .int _)]) (dk_62 (bt bc_Arr_fill_0 4 rfl)) rfl (by decide) rfl ?_
  exact EJ_pick (lv2 := [(0, .ref _), (1, .int _), (2, .int _), (3, .int _)]) [2, 3, 1, 0] rfl (e_Arr_fill_L5 fu _ _ _ _ _)
def Arr_copyOf (M : Mm) (a0 : Nat) (a1 : Int32) : Option (Nat × Mm) :=
  ck (kT M a0 20) (
  if a1 = ln M a0 then (
    ck (kT (cpy (nw M 20 (mK M a0).2) a0 (mZ M) (mK M a0).2) (mZ M) 20) (
    some (mZ M, cpy (nw M 20 (mK M a0).2) a0 (mZ M) (mK M a0).2)))
  else (
    ck (kL a1) (
    ck (kT (nw M 20 (ix a1)) a0 20) (
    bd (Math_min_I (nw M 20 (ix a1)) (ln (nw M 20 (ix a1)) a0) a1) (fun r M2 =>
    ck (kT M2 a0 20) (ck (kT M2 (mZ M) 20) (
    ck (decide (0 ≤ r) && (decide (r.toNatClampNeg ≤ (mK M2 a0).2) && decide (r.toNatClampNeg ≤ (mK M2 (mZ M)).2))) (
    some (mZ M, cpy M2 a0 (mZ M) (ix r))))))))))
set_option maxRecDepth 100000 in
set_option maxHeartbeats 4000000 in
theorem s_Arr_copyOf (G : Gx) (M : Mm) (a0 : Nat) (a1 : Int32) : FnS G Y_Arr_copyOf cvR 3 [.ref a0, .int a1] M (Arr_copyOf M a0 a1) := by
  refine FnS.ofF (by decide +kernel) (Nat.le_of_ble_eq_true rfl) ?_
  show EJ G Y_Arr_copyOf cvR 3 0 [(0, .ref a0), (1, .int a1)] [] M _
  unfold Arr_copyOf
  refine EJ_ck (fun h1 => ?_)
  refine EJ_iload_n 1 1 (dk_27 (bt bc_Arr_copyOf_0 0 rfl)) rfl rfl ?_
  refine EJ_aload_n 2 0 (dk_42 (bt bc_Arr_copyOf_0 1 rfl)) rfl rfl ?_
  refine EJ_alen 0 3 (by decide) h1 (dk_190 (bt bc_Arr_copyOf_0 2 rfl)) rfl ?_
  refine EJ_icmp_ne 14 6 (dk_160 (bt bc_Arr_copyOf_0 3 rfl) (bt bc_Arr_copyOf_0 4 rfl) (bt bc_Arr_copyOf_0 5 rfl) (n := 11) rfl) (by decide) rfl (fun _ => ?_) (fun _ => ?_)
  · refine EJ_iload_n 15 1 (dk_27 (bt bc_Arr_copyOf_0 14 rfl)) rfl rfl ?_
    refine EJ_ck (fun h2 => ?_)
    refine EJ_newa 0 17 (by decide) rfl tw_61 h2 (dk_188_10 (bt bc_Arr_copyOf_0 15 rfl) (bt bc_Arr_copyOf_0 16 rfl)) rfl ?_
    refine EJ_astore_n 18 (lv2 := [(2, .ref _), (0, .ref _), (1, .int _)]) (dk_77 (bt bc_Arr_copyOf_0 17 rfl)) rfl (by decide) rfl ?_
    refine EJ_aload_n 19 1 (dk_42 (bt bc_Arr_copyOf_0 18 rfl)) rfl rfl ?_
    refine EJ_iconst 20 (dk_3 (bt bc_Arr_copyOf_0 19 rfl)) rfl (v := 0) kI_0 ?_
    refine EJ_aload_n 21 0 (dk_44 (bt bc_Arr_copyOf_0 20 rfl)) rfl rfl ?_
    refine EJ_iconst 22 (dk_3 (bt bc_Arr_copyOf_0 21 rfl)) rfl (v := 0) kI_0 ?_
    refine EJ_aload_n 23 1 (dk_42 (bt bc_Arr_copyOf_0 22 rfl)) rfl rfl ?_
    refine EJ_ck (fun h3 => ?_)
    refine EJ_alen 0 24 (by decide) h3 (dk_190 (bt bc_Arr_copyOf_0 23 rfl)) rfl ?_
    refine EJ_iload_n 25 2 (dk_27 (bt bc_Arr_copyOf_0 24 rfl)) rfl rfl ?_
    refine EJ_callSi (Y2 := Y_Math_min_I) 28 (s_Math_min_I G _ _ _) rfl (dk_184 (bt bc_Arr_copyOf_0 25 rfl) (bt bc_Arr_copyOf_0 26 rfl) (bt bc_Arr_copyOf_0 27 rfl) (n := 304) rfl) rfl tw_772 tw_322 tw_9 tw_323 hd_Math_min_I rfl (by decide) (Nat.le_of_ble_eq_true rfl) (fun r M2 => ?_)
    refine EJ_ck (fun h4 => ?_)
    refine EJ_ck (fun h5 => ?_)
    refine EJ_ck (fun h6 => ?_)
    simp only [Bool.and_eq_true, decide_eq_true_eq] at h6
    refine EJ_acopy 31 h4 h5 (Int32.not_lt.mpr h6.1) h6.2.1 h6.2.2 (dk_184 (bt bc_Arr_copyOf_0 28 rfl) (bt bc_Arr_copyOf_0 29 rfl) (bt bc_Arr_copyOf_0 30 rfl) (n := 150) rfl) rfl rfl (by decide) rfl ?_
    refine EJ_aload_n 32 0 (dk_44 (bt bc_Arr_copyOf_0 31 rfl)) rfl rfl ?_
    exact EJ_aret rfl (dk_176 (bt bc_Arr_copyOf_1 0 rfl))
  · refine EJ_aload_n 7 0 (dk_42 (bt bc_Arr_copyOf_0 6 rfl)) rfl rfl ?_
    refine EJ_clone 10 h1 (dk_182 (bt bc_Arr_copyOf_0 7 rfl) (bt bc_Arr_copyOf_0 8 rfl) (bt bc_Arr_copyOf_0 9 rfl) (n := 316) rfl) rfl rfl (by decide) rfl ?_
    refine EJ_ck (fun h2 => ?_)
    refine EJ_castI 13 h2 (dk_192 (bt bc_Arr_copyOf_0 10 rfl) (bt bc_Arr_copyOf_0 11 rfl) (bt bc_Arr_copyOf_0 12 rfl) (n := 317) rfl) rfl rfl ?_
    exact EJ_aret rfl (dk_176 (bt bc_Arr_copyOf_0 13 rfl))

abbrev Y_Bargain_new : Ym := (⟨"RiceHall$Bargain", "<init>", "(LRiceHall$Cry;LRiceHall$Cry;I)V"⟩, prog_2_method_1_code, 4, none)
theorem bc_Bargain_new_0 : bts prog_2_method_1_code 0 [42, 183, 0, 1, 42, 43, 180, 0, 7, 153, 0, 10, 43, 180, 0, 13, 167, 0, 7, 44, 180, 0, 13, 181, 0, 17, 42, 43, 180, 0, 7, 153] := bts_of (by decide +kernel)
theorem bc_Bargain_new_1 : bts prog_2_method_1_code 32 [0, 10, 44, 180, 0, 13, 167, 0, 7, 43, 180, 0, 13, 181, 0, 22, 42, 29, 181, 0, 25, 42, 44, 180, 0, 28, 181, 0, 31, 42, 43, 180] := bts_of (by decide +kernel)
theorem bc_Bargain_new_2 : bts prog_2_method_1_code 64 [0, 32, 181, 0, 35, 177] := bts_of (by decide +kernel)
theorem hd_Bargain_new : Y_Bargain_new.1.cls ≠ "java/lang/invoke/MethodHandle" ∧ Y_Bargain_new.1.cls ≠ "java/lang/invoke/VarHandle" ∧ (parseMethodDescriptor Y_Bargain_new.1.desc).map (fun d => d.parameters.length) = some 3 := by decide +kernel
def Bargain_new_J45 (x0 : Nat) (x1 : Nat) (x2 : Nat) (x3 : Int32) (s0 : Int32) (s1 : Nat) (M : Mm) : Option (Unit × Mm) :=
  ck (kO M s1 0 14) (
  let M7 := sI M s1 1 s0
  ck (kO M7 x0 0 14) (
  let M9 := sI M7 x0 2 x3
  ck (kO M9 x2 1 6) (
  let M11 := sI M9 x0 3 (mI M9 x2 3)
  ck (kO M11 x1 1 6) (
  let M13 := sI M11 x0 4 (mI M11 x1 4)
  some ((), M13)))))
set_option maxRecDepth 100000 in
set_option maxHeartbeats 4000000 in
theorem e_Bargain_new_J45 {G : Gx} (x0 : Nat) (x1 : Nat) (x2 : Nat) (x3 : Int32) (s0 : Int32) (s1 : Nat) (M : Mm) : EJ G Y_Bargain_new cvV 1 45 [(0, .ref x0), (1, .ref x1), (2, .ref x2), (3, .int x3)] [.int s0, .ref s1] M (Bargain_new_J45 x0 x1 x2 x3 s0 s1 M) := by
  unfold Bargain_new_J45
  refine EJ_ck (fun h6 => ?_)
  refine EJ_putI cf0 1 (by decide) 48 tw_943 rfl (Or.inr ⟨rfl, rfl⟩) (dk_181 (bt bc_Bargain_new_1 13 rfl) (bt bc_Bargain_new_1 14 rfl) (bt bc_Bargain_new_1 15 rfl) (n := 22) rfl) rfl (of_decide_eq_true h6) ?_
  refine EJ_aload_n 49 0 (dk_42 (bt bc_Bargain_new_1 16 rfl)) rfl rfl ?_
  refine EJ_iload_n 50 3 (dk_29 (bt bc_Bargain_new_1 17 rfl)) rfl rfl ?_
  refine EJ_ck (fun h8 => ?_)
  refine EJ_putI cf0 2 (by decide) 53 tw_946 rfl (Or.inr ⟨rfl, rfl⟩) (dk_181 (bt bc_Bargain_new_1 18 rfl) (bt bc_Bargain_new_1 19 rfl) (bt bc_Bargain_new_1 20 rfl) (n := 25) rfl) rfl (of_decide_eq_true h8) ?_
  refine EJ_aload_n 54 0 (dk_42 (bt bc_Bargain_new_1 21 rfl)) rfl rfl ?_
  refine EJ_aload_n 55 2 (dk_44 (bt bc_Bargain_new_1 22 rfl)) rfl rfl ?_
  refine EJ_ck (fun h10 => ?_)
  refine EJ_getI cf1 3 (by decide) 58 tw_891 (fun _ _ _ => rfl) (dk_180 (bt bc_Bargain_new_1 23 rfl) (bt bc_Bargain_new_1 24 rfl) (bt bc_Bargain_new_1 25 rfl) (n := 28) rfl) rfl (of_decide_eq_true h10) ?_
  refine EJ_putI cf0 3 (by decide) 61 tw_948 rfl (Or.inr ⟨rfl, rfl⟩) (dk_181 (bt bc_Bargain_new_1 26 rfl) (bt bc_Bargain_new_1 27 rfl) (bt bc_Bargain_new_1 28 rfl) (n := 31) rfl) rfl (kp_I (of_decide_eq_true h8)) ?_
  refine EJ_aload_n 62 0 (dk_42 (bt bc_Bargain_new_1 29 rfl)) rfl rfl ?_
  refine EJ_aload_n 63 1 (dk_43 (bt bc_Bargain_new_1 30 rfl)) rfl rfl ?_
  refine EJ_ck (fun h12 => ?_)
  refine EJ_getI cf1 4 (by decide) 66 tw_894 (fun _ _ _ => rfl) (dk_180 (bt bc_Bargain_new_1 31 rfl) (bt bc_Bargain_new_2 0 rfl) (bt bc_Bargain_new_2 1 rfl) (n := 32) rfl) rfl (of_decide_eq_true h12) ?_
  refine EJ_putI cf0 4 (by decide) 69 tw_951 rfl (Or.inr ⟨rfl, rfl⟩) (dk_181 (bt bc_Bargain_new_2 2 rfl) (bt bc_Bargain_new_2 3 rfl) (bt bc_Bargain_new_2 4 rfl) (n := 35) rfl) rfl (kp_I (kp_I (of_decide_eq_true h8))) ?_
  exact EJ_vret rfl (dk_177 (bt bc_Bargain_new_2 5 rfl))
def Bargain_new_J23 (x0 : Nat) (x1 : Nat) (x2 : Nat) (x3 : Int32) (s0 : Int32) (s1 : Nat) (M : Mm) : Option (Unit × Mm) :=
  ck (kO M s1 0 14) (
  let M4 := sI M s1 0 s0
  ck (kO M4 x1 1 6) (
  if (mI M4 x1 1) = 0 then (
    Bargain_new_J45 x0 x1 x2 x3 (mI M4 x1 0) x0 M4)
  else (
    ck (kO M4 x2 1 6) (
    Bargain_new_J45 x0 x1 x2 x3 (mI M4 x2 0) x0 M4))))
set_option maxRecDepth 100000 in
set_option maxHeartbeats 4000000 in
theorem e_Bargain_new_J23 {G : Gx} (x0 : Nat) (x1 : Nat) (x2 : Nat) (x3 : Int32) (s0 : Int32) (s1 : Nat) (M : Mm) : EJ G Y_Bargain_new cvV 1 23 [(0, .ref x0), (1, .ref x1), (2, .ref x2), (3, .int x3)] [.int s0, .ref s1] M (Bargain_new_J23 x0 x1 x2 x3 s0 s1 M) := by
  unfold Bargain_new_J23
  refine EJ_ck (fun h3 => ?_)
  refine EJ_putI cf0 0 (by decide) 26 tw_940 rfl (Or.inr ⟨rfl, rfl⟩) (dk_181 (bt bc_Bargain_new_0 23 rfl) (bt bc_Bargain_new_0 24 rfl) (bt bc_Bargain_new_0 25 rfl) (n := 17) rfl) rfl (of_decide_eq_true h3) ?_
  refine EJ_aload_n 27 0 (dk_42 (bt bc_Bargain_new_0 26 rfl)) rfl rfl ?_
  refine EJ_aload_n 28 1 (dk_43 (bt bc_Bargain_new_0 27 rfl)) rfl rfl ?_
  refine EJ_ck (fun h5 => ?_)
  refine EJ_getI cf1 1 (by decide) 31 tw_885 (fun _ _ _ => rfl) (dk_180 (bt bc_Bargain_new_0 28 rfl) (bt bc_Bargain_new_0 29 rfl) (bt bc_Bargain_new_0 30 rfl) (n := 7) rfl) rfl (of_decide_eq_true h5) ?_
  refine EJ_if_eq 41 34 (dk_153 (bt bc_Bargain_new_0 31 rfl) (bt bc_Bargain_new_1 0 rfl) (bt bc_Bargain_new_1 1 rfl) (n := 10) rfl) (by decide) rfl (fun _ => ?_) (fun _ => ?_)
  · refine EJ_aload_n 42 1 (dk_43 (bt bc_Bargain_new_1 9 rfl)) rfl rfl ?_
    refine EJ_getI cf1 0 (by decide) 45 tw_884 (fun _ _ _ => rfl) (dk_180 (bt bc_Bargain_new_1 10 rfl) (bt bc_Bargain_new_1 11 rfl) (bt bc_Bargain_new_1 12 rfl) (n := 13) rfl) rfl (of_decide_eq_true h5) ?_
    exact EJ_pick (lv2 := [(0, .ref _), (1, .ref _), (2, .ref _), (3, .int _)]) [0, 1, 2, 3] rfl (e_Bargain_new_J45 _ _ _ _ _ _ _)
  · refine EJ_aload_n 35 2 (dk_44 (bt bc_Bargain_new_1 2 rfl)) rfl rfl ?_
    refine EJ_ck (fun h14 => ?_)
    refine EJ_getI cf1 0 (by decide) 38 tw_884 (fun _ _ _ => rfl) (dk_180 (bt bc_Bargain_new_1 3 rfl) (bt bc_Bargain_new_1 4 rfl) (bt bc_Bargain_new_1 5 rfl) (n := 13) rfl) rfl (of_decide_eq_true h14) ?_
    refine EJ_goto 45 (dk_167 (bt bc_Bargain_new_1 6 rfl) (bt bc_Bargain_new_1 7 rfl) (bt bc_Bargain_new_1 8 rfl) (n := 7) rfl) (by decide) ?_
    exact EJ_pick (lv2 := [(0, .ref _), (1, .ref _), (2, .ref _), (3, .int _)]) [0, 1, 2, 3] rfl (e_Bargain_new_J45 _ _ _ _ _ _ _)
def Bargain_new (M : Mm) (a0 : Nat) (a1 : Nat) (a2 : Nat) (a3 : Int32) : Option (Unit × Mm) :=
  ck (kO M a1 1 6) (
  if (mI M a1 1) = 0 then (
    ck (kO M a2 1 6) (
    Bargain_new_J23 a0 a1 a2 a3 (mI M a2 0) a0 M))
  else (
    Bargain_new_J23 a0 a1 a2 a3 (mI M a1 0) a0 M))
set_option maxRecDepth 100000 in
set_option maxHeartbeats 4000000 in
theorem s_Bargain_new (G : Gx) (M : Mm) (a0 : Nat) (a1 : Nat) (a2 : Nat) (a3 : Int32) : FnS G Y_Bargain_new cvV 1 [.ref a0, .ref a1, .ref a2, .int a3] M (Bargain_new M a0 a1 a2 a3) := by
  refine FnS.ofE (by decide) (Nat.le_of_ble_eq_true rfl) ?_
  show EJ G Y_Bargain_new cvV 1 0 [(0, .ref a0), (1, .ref a1), (2, .ref a2), (3, .int a3)] [] M _
  unfold Bargain_new
  refine EJ_aload_n 1 0 (dk_42 (bt bc_Bargain_new_0 0 rfl)) rfl rfl ?_
  refine EJ_obj 4 (dk_183 (bt bc_Bargain_new_0 1 rfl) (bt bc_Bargain_new_0 2 rfl) (bt bc_Bargain_new_0 3 rfl) (n := 1) rfl) rfl tw_939 tw_27 tw_28 (by decide) (Nat.le_of_ble_eq_true rfl) ?_
  refine EJ_aload_n 5 0 (dk_42 (bt bc_Bargain_new_0 4 rfl)) rfl rfl ?_
  refine EJ_aload_n 6 1 (dk_43 (bt bc_Bargain_new_0 5 rfl)) rfl rfl ?_
  refine EJ_ck (fun h1 => ?_)
  refine EJ_getI cf1 1 (by decide) 9 tw_885 (fun _ _ _ => rfl) (dk_180 (bt bc_Bargain_new_0 6 rfl) (bt bc_Bargain_new_0 7 rfl) (bt bc_Bargain_new_0 8 rfl) (n := 7) rfl) rfl (of_decide_eq_true h1) ?_
  refine EJ_if_eq 19 12 (dk_153 (bt bc_Bargain_new_0 9 rfl) (bt bc_Bargain_new_0 10 rfl) (bt bc_Bargain_new_0 11 rfl) (n := 10) rfl) (by decide) rfl (fun _ => ?_) (fun _ => ?_)
  · refine EJ_aload_n 20 2 (dk_44 (bt bc_Bargain_new_0 19 rfl)) rfl rfl ?_
    refine EJ_ck (fun h2 => ?_)
    refine EJ_getI cf1 0 (by decide) 23 tw_884 (fun _ _ _ => rfl) (dk_180 (bt bc_Bargain_new_0 20 rfl) (bt bc_Bargain_new_0 21 rfl) (bt bc_Bargain_new_0 22 rfl) (n := 13) rfl) rfl (of_decide_eq_true h2) ?_
    exact EJ_pick (lv2 := [(0, .ref _), (1, .ref _), (2, .ref _), (3, .int _)]) [0, 1, 2, 3] rfl (e_Bargain_new_J23 _ _ _ _ _ _ _)
  · refine EJ_aload_n 13 1 (dk_43 (bt bc_Bargain_new_0 12 rfl)) rfl rfl ?_
    refine EJ_getI cf1 0 (by decide) 16 tw_884 (fun _ _ _ => rfl) (dk_180 (bt bc_Bargain_new_0 13 rfl) (bt bc_Bargain_new_0 14 rfl) (bt bc_Bargain_new_0 15 rfl) (n := 13) rfl) rfl (of_decide_eq_true h1) ?_
    refine EJ_goto 23 (dk_167 (bt bc_Bargain_new_0 16 rfl) (bt bc_Bargain_new_0 17 rfl) (bt bc_Bargain_new_0 18 rfl) (n := 7) rfl) (by decide) ?_
    exact EJ_pick (lv2 := [(0, .ref _), (1, .ref _), (2, .ref _), (3, .int _)]) [0, 1, 2, 3] rfl (e_Bargain_new_J23 _ _ _ _ _ _ _)
abbrev Y_Bargain_write : Ym := (⟨"RiceHall$Bargain", "write", "(ZII)V"⟩, prog_2_method_2_code, 4, none)
theorem bc_Bargain_write_0 : bts prog_2_method_2_code 0 [27, 153, 0, 16, 42, 28, 181, 0, 36, 42, 29, 181, 0, 39, 167, 0, 13, 42, 28, 181, 0, 42, 42, 29, 181, 0, 45, 177] := bts_of (by decide +kernel)
theorem hd_Bargain_write : Y_Bargain_write.1.cls = RX0 ∧ Y_Bargain_write.1.cls ≠ "java/lang/invoke/MethodHandle" ∧ Y_Bargain_write.1.cls ≠ "java/lang/invoke/VarHandle" ∧ (parseMethodDescriptor Y_Bargain_write.1.desc).map (fun d => d.parameters.length) = some 3 := by decide +kernel
def Bargain_write (M : Mm) (a0 : Nat) (a1 : Int32) (a2 : Int32) (a3 : Int32) : Option (Unit × Mm) :=
  if a1 = 0 then (
    ck (kO M a0 0 14) (
    let M2 := sI M a0 7 a2
    let M3 := sI M2 a0 8 a3
    some ((), M3)))
  else (
    ck (kO M a0 0 14) (
    let M5 := sI M a0 5 a2
    let M6 := sI M5 a0 6 a3
    some ((), M6)))
set_option maxRecDepth 100000 in
set_option maxHeartbeats 4000000 in
theorem s_Bargain_write (G : Gx) (M : Mm) (a0 : Nat) (a1 : Int32) (a2 : Int32) (a3 : Int32) : FnS G Y_Bargain_write cvV 1 [.ref a0, .int a1, .int a2, .int a3] M (Bargain_write M a0 a1 a2 a3) := by
  refine FnS.ofE (by decide) (Nat.le_of_ble_eq_true rfl) ?_
  show EJ G Y_Bargain_write cvV 1 0 [(0, .ref a0), (1, .int a1), (2, .int a2), (3, .int a3)] [] M _
  unfold Bargain_write
  refine EJ_iload_n 1 1 (dk_27 (bt bc_Bargain_write_0 0 rfl)) rfl rfl ?_
  refine EJ_if_eq 17 4 (dk_153 (bt bc_Bargain_write_0 1 rfl) (bt bc_Bargain_write_0 2 rfl) (bt bc_Bargain_write_0 3 rfl) (n := 16) rfl) (by decide) rfl (fun _ => ?_) (fun _ => ?_)
  · refine EJ_aload_n 18 0 (dk_42 (bt bc_Bargain_write_0 17 rfl)) rfl rfl ?_
    refine EJ_iload_n 19 2 (dk_28 (bt bc_Bargain_write_0 18 rfl)) rfl rfl ?_
    refine EJ_ck (fun h1 => ?_)
    refine EJ_putI cf0 7 (by decide) 22 tw_956 rfl (Or.inl rfl) (dk_181 (bt bc_Bargain_write_0 19 rfl) (bt bc_Bargain_write_0 20 rfl) (bt bc_Bargain_write_0 21 rfl) (n := 42) rfl) rfl (of_decide_eq_true h1) ?_
    refine EJ_aload_n 23 0 (dk_42 (bt bc_Bargain_write_0 22 rfl)) rfl rfl ?_
    refine EJ_iload_n 24 3 (dk_29 (bt bc_Bargain_write_0 23 rfl)) rfl rfl ?_
    refine EJ_putI cf0 8 (by decide) 27 tw_957 rfl (Or.inl rfl) (dk_181 (bt bc_Bargain_write_0 24 rfl) (bt bc_Bargain_write_0 25 rfl) (bt bc_Bargain_write_0 26 rfl) (n := 45) rfl) rfl (kp_I (of_decide_eq_true h1)) ?_
    exact EJ_vret rfl (dk_177 (bt bc_Bargain_write_0 27 rfl))
  · refine EJ_aload_n 5 0 (dk_42 (bt bc_Bargain_write_0 4 rfl)) rfl rfl ?_
    refine EJ_iload_n 6 2 (dk_28 (bt bc_Bargain_write_0 5 rfl)) rfl rfl ?_
    refine EJ_ck (fun h4 => ?_)
    refine EJ_putI cf0 5 (by decide) 9 tw_954 rfl (Or.inl rfl) (dk_181 (bt bc_Bargain_write_0 6 rfl) (bt bc_Bargain_write_0 7 rfl) (bt bc_Bargain_write_0 8 rfl) (n := 36) rfl) rfl (of_decide_eq_true h4) ?_
    refine EJ_aload_n 10 0 (dk_42 (bt bc_Bargain_write_0 9 rfl)) rfl rfl ?_
    refine EJ_iload_n 11 3 (dk_29 (bt bc_Bargain_write_0 10 rfl)) rfl rfl ?_
    refine EJ_putI cf0 6 (by decide) 14 tw_955 rfl (Or.inl rfl) (dk_181 (bt bc_Bargain_write_0 11 rfl) (bt bc_Bargain_write_0 12 rfl) (bt bc_Bargain_write_0 13 rfl) (n := 39) rfl) rfl (kp_I (of_decide_eq_true h4)) ?_
    refine EJ_goto 27 (dk_167 (bt bc_Bargain_write_0 14 rfl) (bt bc_Bargain_write_0 15 rfl) (bt bc_Bargain_write_0 16 rfl) (n := 13) rfl) (by decide) ?_
    exact EJ_vret rfl (dk_177 (bt bc_Bargain_write_0 27 rfl))
abbrev Y_Bargain_isDenied : Ym := (⟨"RiceHall$Bargain", "isDenied", "()Z"⟩, prog_2_method_3_code, 1, (some FieldType.boolean))
theorem bc_Bargain_isDenied_0 : bts prog_2_method_3_code 0 [42, 180, 0, 48, 154, 0, 10, 42, 180, 0, 51, 153, 0, 7, 4, 167, 0, 4, 3, 172] := bts_of (by decide +kernel)
theorem hd_Bargain_isDenied : Y_Bargain_isDenied.1.cls = RX0 ∧ Y_Bargain_isDenied.1.cls ≠ "java/lang/invoke/MethodHandle" ∧ Y_Bargain_isDenied.1.cls ≠ "java/lang/invoke/VarHandle" ∧ (parseMethodDescriptor Y_Bargain_isDenied.1.desc).map (fun d => d.parameters.length) = some 0 := by decide +kernel
def Bargain_isDenied (M : Mm) (a0 : Nat) : Option (Int32 × Mm) :=
  ck (kO M a0 0 14) (
  if (mI M a0 9) = 0 then (
    if (mI M a0 10) = 0 then (
      some (0, M))
    else (
      some (1, M)))
  else (
    some (1, M)))
set_option maxRecDepth 100000 in
set_option maxHeartbeats 4000000 in
theorem s_Bargain_isDenied (G : Gx) (M : Mm) (a0 : Nat) : FnS G Y_Bargain_isDenied cvI 1 [.ref a0] M (Bargain_isDenied M a0) := by
  refine FnS.ofE (by decide) (Nat.le_of_ble_eq_true rfl) ?_
  show EJ G Y_Bargain_isDenied cvI 1 0 [(0, .ref a0)] [] M _
  unfold Bargain_isDenied
  refine EJ_aload_n 1 0 (dk_42 (bt bc_Bargain_isDenied_0 0 rfl)) rfl rfl ?_
  refine EJ_ck (fun h1 => ?_)
  refine EJ_getI cf0 9 (by decide) 4 tw_958 (fun _ _ _ => rfl) (dk_180 (bt bc_Bargain_isDenied_0 1 rfl) (bt bc_Bargain_isDenied_0 2 rfl) (bt bc_Bargain_isDenied_0 3 rfl) (n := 48) rfl) rfl (of_decide_eq_true h1) ?_
  refine EJ_if_ne 14 7 (dk_154 (bt bc_Bargain_isDenied_0 4 rfl) (bt bc_Bargain_isDenied_0 5 rfl) (bt bc_Bargain_isDenied_0 6 rfl) (n := 10) rfl) (by decide) rfl (fun _ => ?_) (fun _ => ?_)
  · refine EJ_iconst 15 (dk_4 (bt bc_Bargain_isDenied_0 14 rfl)) rfl (v := 1) kI_1 ?_
    refine EJ_goto 19 (dk_167 (bt bc_Bargain_isDenied_0 15 rfl) (bt bc_Bargain_isDenied_0 16 rfl) (bt bc_Bargain_isDenied_0 17 rfl) (n := 4) rfl) (by decide) ?_
    exact EJ_zret rfl (by decide) (dk_172 (bt bc_Bargain_isDenied_0 19 rfl))
  · refine EJ_aload_n 8 0 (dk_42 (bt bc_Bargain_isDenied_0 7 rfl)) rfl rfl ?_
    refine EJ_getI cf0 10 (by decide) 11 tw_959 (fun _ _ _ => rfl) (dk_180 (bt bc_Bargain_isDenied_0 8 rfl) (bt bc_Bargain_isDenied_0 9 rfl) (bt bc_Bargain_isDenied_0 10 rfl) (n := 51) rfl) rfl (of_decide_eq_true h1) ?_
    refine EJ_if_eq 18 14 (dk_153 (bt bc_Bargain_isDenied_0 11 rfl) (bt bc_Bargain_isDenied_0 12 rfl) (bt bc_Bargain_isDenied_0 13 rfl) (n := 7) rfl) (by decide) rfl (fun _ => ?_) (fun _ => ?_)
    · refine EJ_iconst 19 (dk_3 (bt bc_Bargain_isDenied_0 18 rfl)) rfl (v := 0) kI_0 ?_
      exact EJ_zret rfl (by decide) (dk_172 (bt bc_Bargain_isDenied_0 19 rfl))
    · refine EJ_iconst 15 (dk_4 (bt bc_Bargain_isDenied_0 14 rfl)) rfl (v := 1) kI_1 ?_
      refine EJ_goto 19 (dk_167 (bt bc_Bargain_isDenied_0 15 rfl) (bt bc_Bargain_isDenied_0 16 rfl) (bt bc_Bargain_isDenied_0 17 rfl) (n := 4) rfl) (by decide) ?_
      exact EJ_zret rfl (by decide) (dk_172 (bt bc_Bargain_isDenied_0 19 rfl))
abbrev Y_Bargain_denyBy : Ym := (⟨"RiceHall$Bargain", "denyBy", "(Z)Z"⟩, prog_2_method_4_code, 2, (some FieldType.boolean))
theorem bc_Bargain_denyBy_0 : bts prog_2_method_4_code 0 [27, 153, 0, 13, 42, 180, 0, 48, 153, 0, 15, 167, 0, 10, 42, 180, 0, 51, 153, 0, 5, 3, 172, 42, 182, 0, 54, 154, 0, 8, 42, 27] := bts_of (by decide +kernel)
theorem bc_Bargain_denyBy_1 : bts prog_2_method_4_code 32 [181, 0, 58, 27, 153, 0, 11, 42, 4, 181, 0, 48, 167, 0, 8, 42, 4, 181, 0, 51, 4, 172] := bts_of (by decide +kernel)
theorem hd_Bargain_denyBy : Y_Bargain_denyBy.1.cls = RX0 ∧ Y_Bargain_denyBy.1.cls ≠ "java/lang/invoke/MethodHandle" ∧ Y_Bargain_denyBy.1.cls ≠ "java/lang/invoke/VarHandle" ∧ (parseMethodDescriptor Y_Bargain_denyBy.1.desc).map (fun d => d.parameters.length) = some 1 := by decide +kernel
def Bargain_denyBy_J35 (x0 : Nat) (x1 : Int32) (M : Mm) : Option (Int32 × Mm) :=
  if x1 = 0 then (
    ck (kO M x0 0 14) (
    let M6 := sI M x0 10 1
    some (1, M6)))
  else (
    ck (kO M x0 0 14) (
    let M8 := sI M x0 9 1
    some (1, M8)))
set_option maxRecDepth 100000 in
set_option maxHeartbeats 4000000 in
theorem e_Bargain_denyBy_J35 {G : Gx} (x0 : Nat) (x1 : Int32) (M : Mm) : EJ G Y_Bargain_denyBy cvI 2 35 [(0, .ref x0), (1, .int x1)] [] M (Bargain_denyBy_J35 x0 x1 M) := by
  unfold Bargain_denyBy_J35
  refine EJ_iload_n 36 1 (dk_27 (bt bc_Bargain_denyBy_1 3 rfl)) rfl rfl ?_
  refine EJ_if_eq 47 39 (dk_153 (bt bc_Bargain_denyBy_1 4 rfl) (bt bc_Bargain_denyBy_1 5 rfl) (bt bc_Bargain_denyBy_1 6 rfl) (n := 11) rfl) (by decide) rfl (fun _ => ?_) (fun _ => ?_)
  · refine EJ_aload_n 48 0 (dk_42 (bt bc_Bargain_denyBy_1 15 rfl)) rfl rfl ?_
    refine EJ_iconst 49 (dk_4 (bt bc_Bargain_denyBy_1 16 rfl)) rfl (v := 1) kI_1 ?_
    refine EJ_ck (fun h5 => ?_)
    refine EJ_putZ cf0 10 (by decide) 52 tw_959 rfl (Or.inl rfl) (by decide) (dk_181 (bt bc_Bargain_denyBy_1 17 rfl) (bt bc_Bargain_denyBy_1 18 rfl) (bt bc_Bargain_denyBy_1 19 rfl) (n := 51) rfl) rfl (of_decide_eq_true h5) ?_
    refine EJ_iconst 53 (dk_4 (bt bc_Bargain_denyBy_1 20 rfl)) rfl (v := 1) kI_1 ?_
    exact EJ_zret rfl (by decide) (dk_172 (bt bc_Bargain_denyBy_1 21 rfl))
  · refine EJ_aload_n 40 0 (dk_42 (bt bc_Bargain_denyBy_1 7 rfl)) rfl rfl ?_
    refine EJ_iconst 41 (dk_4 (bt bc_Bargain_denyBy_1 8 rfl)) rfl (v := 1) kI_1 ?_
    refine EJ_ck (fun h7 => ?_)
    refine EJ_putZ cf0 9 (by decide) 44 tw_958 rfl (Or.inl rfl) (by decide) (dk_181 (bt bc_Bargain_denyBy_1 9 rfl) (bt bc_Bargain_denyBy_1 10 rfl) (bt bc_Bargain_denyBy_1 11 rfl) (n := 48) rfl) rfl (of_decide_eq_true h7) ?_
    refine EJ_goto 52 (dk_167 (bt bc_Bargain_denyBy_1 12 rfl) (bt bc_Bargain_denyBy_1 13 rfl) (bt bc_Bargain_denyBy_1 14 rfl) (n := 8) rfl) (by decide) ?_
    refine EJ_iconst 53 (dk_4 (bt bc_Bargain_denyBy_1 20 rfl)) rfl (v := 1) kI_1 ?_
    exact EJ_zret rfl (by decide) (dk_172 (bt bc_Bargain_denyBy_1 21 rfl))
def Bargain_denyBy_J23 (x0 : Nat) (x1 : Int32) (M : Mm) : Option (Int32 × Mm) :=
  ck (kO M x0 0 14) (
  bd (Bargain_isDenied M x0) (fun r3 M4 =>
  if r3 = 0 then (
    ck (kO M4 x0 0 14) (
    ck (kZ x1) (
    let M11 := sI M4 x0 11 x1
    Bargain_denyBy_J35 x0 x1 M11)))
  else (
    Bargain_denyBy_J35 x0 x1 M4)))
set_option maxRecDepth 100000 in
set_option maxHeartbeats 4000000 in
theorem e_Bargain_denyBy_J23 {G : Gx} (x0 : Nat) (x1 : Int32) (M : Mm) : EJ G Y_Bargain_denyBy cvI 2 23 [(0, .ref x0), (1, .int x1)] [] M (Bargain_denyBy_J23 x0 x1 M) := by
  unfold Bargain_denyBy_J23
  refine EJ_aload_n 24 0 (dk_42 (bt bc_Bargain_denyBy_0 23 rfl)) rfl rfl ?_
  refine EJ_ck (fun h2 => ?_)
  refine EJ_callVi (Y2 := Y_Bargain_isDenied) 27 cf0 (s_Bargain_isDenied G _ _) (of_decide_eq_true h2) rfl (dk_182 (bt bc_Bargain_denyBy_0 24 rfl) (bt bc_Bargain_denyBy_0 25 rfl) (bt bc_Bargain_denyBy_0 26 rfl) (n := 54) rfl) rfl tw_1025 tw_1026 tw_1027 tw_1028 hd_Bargain_isDenied rfl (by decide) (Nat.le_of_ble_eq_true rfl) (fun r3 M4 => ?_)
  refine EJ_if_ne 35 30 (dk_154 (bt bc_Bargain_denyBy_0 27 rfl) (bt bc_Bargain_denyBy_0 28 rfl) (bt bc_Bargain_denyBy_0 29 rfl) (n := 8) rfl) (by decide) rfl (fun _ => ?_) (fun _ => ?_)
  · exact EJ_pick (lv2 := [(0, .ref _), (1, .int _)]) [0, 1] rfl (e_Bargain_denyBy_J35 _ _ _)
  · refine EJ_aload_n 31 0 (dk_42 (bt bc_Bargain_denyBy_0 30 rfl)) rfl rfl ?_
    refine EJ_iload_n 32 1 (dk_27 (bt bc_Bargain_denyBy_0 31 rfl)) rfl rfl ?_
    refine EJ_ck (fun h9 => ?_)
    refine EJ_ck (fun h10 => ?_)
    refine EJ_putZ cf0 11 (by decide) 35 tw_960 rfl (Or.inl rfl) h10 (dk_181 (bt bc_Bargain_denyBy_1 0 rfl) (bt bc_Bargain_denyBy_1 1 rfl) (bt bc_Bargain_denyBy_1 2 rfl) (n := 58) rfl) rfl (of_decide_eq_true h9) ?_
    exact EJ_pick (lv2 := [(0, .ref _), (1, .int _)]) [0, 1] rfl (e_Bargain_denyBy_J35 _ _ _)
def Bargain_denyBy (M : Mm) (a0 : Nat) (a1 : Int32) : Option (Int32 × Mm) :=
  if a1 = 0 then (
    ck (kO M a0 0 14) (
    if (mI M a0 10) = 0 then (
      Bargain_denyBy_J23 a0 a1 M)
    else (
      some (0, M))))
  else (
    ck (kO M a0 0 14) (
    if (mI M a0 9) = 0 then (
      Bargain_denyBy_J23 a0 a1 M)
    else (
      some (0, M))))
set_option maxRecDepth 100000 in
set_option maxHeartbeats 4000000 in
theorem s_Bargain_denyBy (G : Gx) (M : Mm) (a0 : Nat) (a1 : Int32) : FnS G Y_Bargain_denyBy cvI 2 [.ref a0, .int a1] M (Bargain_denyBy M a0 a1) := by
  refine FnS.ofE (by decide) (Nat.le_of_ble_eq_true rfl) ?_
  show EJ G Y_Bargain_denyBy cvI 2 0 [(0, .ref a0), (1, .int a1)] [] M _
  unfold Bargain_denyBy
  refine EJ_iload_n 1 1 (dk_27 (bt bc_Bargain_denyBy_0 0 rfl)) rfl rfl ?_
  refine EJ_if_eq 14 4 (dk_153 (bt bc_Bargain_denyBy_0 1 rfl) (bt bc_Bargain_denyBy_0 2 rfl) (bt bc_Bargain_denyBy_0 3 rfl) (n := 13) rfl) (by decide) rfl (fun _ => ?_) (fun _ => ?_)
  · refine EJ_aload_n 15 0 (dk_42 (bt bc_Bargain_denyBy_0 14 rfl)) rfl rfl ?_
    refine EJ_ck (fun h1 => ?_)
    refine EJ_getI cf0 10 (by decide) 18 tw_959 (fun _ _ _ => rfl) (dk_180 (bt bc_Bargain_denyBy_0 15 rfl) (bt bc_Bargain_denyBy_0 16 rfl) (bt bc_Bargain_denyBy_0 17 rfl) (n := 51) rfl) rfl (of_decide_eq_true h1) ?_
    refine EJ_if_eq 23 21 (dk_153 (bt bc_Bargain_denyBy_0 18 rfl) (bt bc_Bargain_denyBy_0 19 rfl) (bt bc_Bargain_denyBy_0 20 rfl) (n := 5) rfl) (by decide) rfl (fun _ => ?_) (fun _ => ?_)
    · exact EJ_pick (lv2 := [(0, .ref _), (1, .int _)]) [0, 1] rfl (e_Bargain_denyBy_J23 _ _ _)
    · refine EJ_iconst 22 (dk_3 (bt bc_Bargain_denyBy_0 21 rfl)) rfl (v := 0) kI_0 ?_
      exact EJ_zret rfl (by decide) (dk_172 (bt bc_Bargain_denyBy_0 22 rfl))
  · refine EJ_aload_n 5 0 (dk_42 (bt bc_Bargain_denyBy_0 4 rfl)) rfl rfl ?_
    refine EJ_ck (fun h12 => ?_)
    refine EJ_getI cf0 9 (by decide) 8 tw_958 (fun _ _ _ => rfl) (dk_180 (bt bc_Bargain_denyBy_0 5 rfl) (bt bc_Bargain_denyBy_0 6 rfl) (bt bc_Bargain_denyBy_0 7 rfl) (n := 48) rfl) rfl (of_decide_eq_true h12) ?_
    refine EJ_if_eq 23 11 (dk_153 (bt bc_Bargain_denyBy_0 8 rfl) (bt bc_Bargain_denyBy_0 9 rfl) (bt bc_Bargain_denyBy_0 10 rfl) (n := 15) rfl) (by decide) rfl (fun _ => ?_) (fun _ => ?_)
    · exact EJ_pick (lv2 := [(0, .ref _), (1, .int _)]) [0, 1] rfl (e_Bargain_denyBy_J23 _ _ _)
    · refine EJ_goto 21 (dk_167 (bt bc_Bargain_denyBy_0 11 rfl) (bt bc_Bargain_denyBy_0 12 rfl) (bt bc_Bargain_denyBy_0 13 rfl) (n := 10) rfl) (by decide) ?_
      refine EJ_iconst 22 (dk_3 (bt bc_Bargain_denyBy_0 21 rfl)) rfl (v := 0) kI_0 ?_
      exact EJ_zret rfl (by decide) (dk_172 (bt bc_Bargain_denyBy_0 22 rfl))
abbrev Y_Bargain_standAs : Ym := (⟨"RiceHall$Bargain", "standAs", "(II)V"⟩, prog_2_method_6_code, 3, none)
theorem bc_Bargain_standAs_0 : bts prog_2_method_6_code 0 [42, 27, 181, 0, 71, 42, 28, 181, 0, 74, 177] := bts_of (by decide +kernel)
theorem hd_Bargain_standAs : Y_Bargain_standAs.1.cls = RX0 ∧ Y_Bargain_standAs.1.cls ≠ "java/lang/invoke/MethodHandle" ∧ Y_Bargain_standAs.1.cls ≠ "java/lang/invoke/VarHandle" ∧ (parseMethodDescriptor Y_Bargain_standAs.1.desc).map (fun d => d.parameters.length) = some 2 := by decide +kernel
def Bargain_standAs (M : Mm) (a0 : Nat) (a1 : Int32) (a2 : Int32) : Option (Unit × Mm) :=
  ck (kO M a0 0 14) (
  let M2 := sI M a0 12 a1
  let M3 := sI M2 a0 13 a2
  some ((), M3))
set_option maxRecDepth 100000 in
set_option maxHeartbeats 4000000 in
theorem s_Bargain_standAs (G : Gx) (M : Mm) (a0 : Nat) (a1 : Int32) (a2 : Int32) : FnS G Y_Bargain_standAs cvV 1 [.ref a0, .int a1, .int a2] M (Bargain_standAs M a0 a1 a2) := by
  refine FnS.ofE (by decide) (Nat.le_of_ble_eq_true rfl) ?_
  show EJ G Y_Bargain_standAs cvV 1 0 [(0, .ref a0), (1, .int a1), (2, .int a2)] [] M _
  unfold Bargain_standAs
  refine EJ_aload_n 1 0 (dk_42 (bt bc_Bargain_standAs_0 0 rfl)) rfl rfl ?_
  refine EJ_iload_n 2 1 (dk_27 (bt bc_Bargain_standAs_0 1 rfl)) rfl rfl ?_
  refine EJ_ck (fun h1 => ?_)
  refine EJ_putI cf0 12 (by decide) 5 tw_961 rfl (Or.inl rfl) (dk_181 (bt bc_Bargain_standAs_0 2 rfl) (bt bc_Bargain_standAs_0 3 rfl) (bt bc_Bargain_standAs_0 4 rfl) (n := 71) rfl) rfl (of_decide_eq_true h1) ?_
  refine EJ_aload_n 6 0 (dk_42 (bt bc_Bargain_standAs_0 5 rfl)) rfl rfl ?_
  refine EJ_iload_n 7 2 (dk_28 (bt bc_Bargain_standAs_0 6 rfl)) rfl rfl ?_
  refine EJ_putI cf0 13 (by decide) 10 tw_965 rfl (Or.inl rfl) (dk_181 (bt bc_Bargain_standAs_0 7 rfl) (bt bc_Bargain_standAs_0 8 rfl) (bt bc_Bargain_standAs_0 9 rfl) (n := 74) rfl) rfl (kp_I (of_decide_eq_true h1)) ?_
  exact EJ_vret rfl (dk_177 (bt bc_Bargain_standAs_0 10 rfl))
abbrev Y_Bargain_judge : Ym := (⟨"RiceHall$Bargain", "judge", "()V"⟩, prog_2_method_5_code, 1, none)
theorem bc_Bargain_judge_0 : bts prog_2_method_5_code 0 [42, 182, 0, 54, 154, 0, 18, 42, 42, 180, 0, 25, 42, 180, 0, 31, 182, 0, 61, 167, 0, 101, 42, 180, 0, 36, 158, 0, 39, 42, 180, 0] := bts_of (by decide +kernel)
theorem bc_Bargain_judge_1 : bts prog_2_method_5_code 32 [42, 158, 0, 32, 42, 42, 180, 0, 36, 42, 180, 0, 42, 184, 0, 65, 42, 180, 0, 39, 42, 180, 0, 45, 96, 5, 108, 182, 0, 61, 167, 0] := bts_of (by decide +kernel)
theorem bc_Bargain_judge_2 : bts prog_2_method_5_code 64 [58, 42, 180, 0, 58, 153, 0, 25, 42, 180, 0, 36, 158, 0, 18, 42, 42, 180, 0, 36, 42, 180, 0, 39, 182, 0, 61, 167, 0, 29, 42, 180] := bts_of (by decide +kernel)
theorem bc_Bargain_judge_3 : bts prog_2_method_5_code 96 [0, 58, 154, 0, 22, 42, 180, 0, 42, 158, 0, 15, 42, 42, 180, 0, 42, 42, 180, 0, 45, 182, 0, 61, 177] := bts_of (by decide +kernel)
theorem hd_Bargain_judge : Y_Bargain_judge.1.cls = RX0 ∧ Y_Bargain_judge.1.cls ≠ "java/lang/invoke/MethodHandle" ∧ Y_Bargain_judge.1.cls ≠ "java/lang/invoke/VarHandle" ∧ (parseMethodDescriptor Y_Bargain_judge.1.desc).map (fun d => d.parameters.length) = some 0 := by decide +kernel
def Bargain_judge_J94 (x0 : Nat) (M : Mm) : Option (Unit × Mm) :=
  ck (kO M x0 0 14) (
  if (mI M x0 11) = 0 then (
    if (mI M x0 7) ≤ 0 then (
      some ((), M))
    else (
      bd (Bargain_standAs M x0 (mI M x0 7) (mI M x0 8)) (fun _ M8 =>
      some ((), M8))))
  else (
    some ((), M)))
set_option maxRecDepth 100000 in
set_option maxHeartbeats 4000000 in
theorem e_Bargain_judge_J94 {G : Gx} (x0 : Nat) (M : Mm) : EJ G Y_Bargain_judge cvV 2 94 [(0, .ref x0)] [] M (Bargain_judge_J94 x0 M) := by
  unfold Bargain_judge_J94
  refine EJ_aload_n 95 0 (dk_42 (bt bc_Bargain_judge_2 30 rfl)) rfl rfl ?_
  refine EJ_ck (fun h6 => ?_)
  refine EJ_getI cf0 11 (by decide) 98 tw_960 (fun _ _ _ => rfl) (dk_180 (bt bc_Bargain_judge_2 31 rfl) (bt bc_Bargain_judge_3 0 rfl) (bt bc_Bargain_judge_3 1 rfl) (n := 58) rfl) rfl (of_decide_eq_true h6) ?_
  refine EJ_if_ne 120 101 (dk_154 (bt bc_Bargain_judge_3 2 rfl) (bt bc_Bargain_judge_3 3 rfl) (bt bc_Bargain_judge_3 4 rfl) (n := 22) rfl) (by decide) rfl (fun _ => ?_) (fun _ => ?_)
  · exact EJ_vret rfl (dk_177 (bt bc_Bargain_judge_3 24 rfl))
  · refine EJ_aload_n 102 0 (dk_42 (bt bc_Bargain_judge_3 5 rfl)) rfl rfl ?_
    refine EJ_getI cf0 7 (by decide) 105 tw_956 (fun _ _ _ => rfl) (dk_180 (bt bc_Bargain_judge_3 6 rfl) (bt bc_Bargain_judge_3 7 rfl) (bt bc_Bargain_judge_3 8 rfl) (n := 42) rfl) rfl (of_decide_eq_true h6) ?_
    refine EJ_if_le 120 108 (dk_158 (bt bc_Bargain_judge_3 9 rfl) (bt bc_Bargain_judge_3 10 rfl) (bt bc_Bargain_judge_3 11 rfl) (n := 15) rfl) (by decide) rfl (fun _ => ?_) (fun _ => ?_)
    · exact EJ_vret rfl (dk_177 (bt bc_Bargain_judge_3 24 rfl))
    · refine EJ_aload_n 109 0 (dk_42 (bt bc_Bargain_judge_3 12 rfl)) rfl rfl ?_
      refine EJ_aload_n 110 0 (dk_42 (bt bc_Bargain_judge_3 13 rfl)) rfl rfl ?_
      refine EJ_getI cf0 7 (by decide) 113 tw_956 (fun _ _ _ => rfl) (dk_180 (bt bc_Bargain_judge_3 14 rfl) (bt bc_Bargain_judge_3 15 rfl) (bt bc_Bargain_judge_3 16 rfl) (n := 42) rfl) rfl (of_decide_eq_true h6) ?_
      refine EJ_aload_n 114 0 (dk_42 (bt bc_Bargain_judge_3 17 rfl)) rfl rfl ?_
      refine EJ_getI cf0 8 (by decide) 117 tw_957 (fun _ _ _ => rfl) (dk_180 (bt bc_Bargain_judge_3 18 rfl) (bt bc_Bargain_judge_3 19 rfl) (bt bc_Bargain_judge_3 20 rfl) (n := 45) rfl) rfl (of_decide_eq_true h6) ?_
      refine EJ_callVv (Y2 := Y_Bargain_standAs) 120 cf0 (s_Bargain_standAs G _ _ _ _) (of_decide_eq_true h6) rfl (dk_182 (bt bc_Bargain_judge_3 21 rfl) (bt bc_Bargain_judge_3 22 rfl) (bt bc_Bargain_judge_3 23 rfl) (n := 61) rfl) rfl tw_1049 tw_1051 ts_27 tw_1052 hd_Bargain_standAs rfl (by decide) (Nat.le_of_ble_eq_true rfl) (fun _ M8 => ?_)
      exact EJ_vret rfl (dk_177 (bt bc_Bargain_judge_3 24 rfl))
def Bargain_judge_J65 (x0 : Nat) (M : Mm) : Option (Unit × Mm) :=
  ck (kO M x0 0 14) (
  if (mI M x0 11) = 0 then (
    Bargain_judge_J94 x0 M)
  else (
    if (mI M x0 5) ≤ 0 then (
      Bargain_judge_J94 x0 M)
    else (
      bd (Bargain_standAs M x0 (mI M x0 5) (mI M x0 6)) (fun _ M10 =>
      some ((), M10)))))
set_option maxRecDepth 100000 in
set_option maxHeartbeats 4000000 in
theorem e_Bargain_judge_J65 {G : Gx} (x0 : Nat) (M : Mm) : EJ G Y_Bargain_judge cvV 2 65 [(0, .ref x0)] [] M (Bargain_judge_J65 x0 M) := by
  unfold Bargain_judge_J65
  refine EJ_aload_n 66 0 (dk_42 (bt bc_Bargain_judge_2 1 rfl)) rfl rfl ?_
  refine EJ_ck (fun h5 => ?_)
  refine EJ_getI cf0 11 (by decide) 69 tw_960 (fun _ _ _ => rfl) (dk_180 (bt bc_Bargain_judge_2 2 rfl) (bt bc_Bargain_judge_2 3 rfl) (bt bc_Bargain_judge_2 4 rfl) (n := 58) rfl) rfl (of_decide_eq_true h5) ?_
  refine EJ_if_eq 94 72 (dk_153 (bt bc_Bargain_judge_2 5 rfl) (bt bc_Bargain_judge_2 6 rfl) (bt bc_Bargain_judge_2 7 rfl) (n := 25) rfl) (by decide) rfl (fun _ => ?_) (fun _ => ?_)
  · exact EJ_pick (lv2 := [(0, .ref _)]) [0] rfl (e_Bargain_judge_J94 _ _)
  · refine EJ_aload_n 73 0 (dk_42 (bt bc_Bargain_judge_2 8 rfl)) rfl rfl ?_
    refine EJ_getI cf0 5 (by decide) 76 tw_954 (fun _ _ _ => rfl) (dk_180 (bt bc_Bargain_judge_2 9 rfl) (bt bc_Bargain_judge_2 10 rfl) (bt bc_Bargain_judge_2 11 rfl) (n := 36) rfl) rfl (of_decide_eq_true h5) ?_
    refine EJ_if_le 94 79 (dk_158 (bt bc_Bargain_judge_2 12 rfl) (bt bc_Bargain_judge_2 13 rfl) (bt bc_Bargain_judge_2 14 rfl) (n := 18) rfl) (by decide) rfl (fun _ => ?_) (fun _ => ?_)
    · exact EJ_pick (lv2 := [(0, .ref _)]) [0] rfl (e_Bargain_judge_J94 _ _)
    · refine EJ_aload_n 80 0 (dk_42 (bt bc_Bargain_judge_2 15 rfl)) rfl rfl ?_
      refine EJ_aload_n 81 0 (dk_42 (bt bc_Bargain_judge_2 16 rfl)) rfl rfl ?_
      refine EJ_getI cf0 5 (by decide) 84 tw_954 (fun _ _ _ => rfl) (dk_180 (bt bc_Bargain_judge_2 17 rfl) (bt bc_Bargain_judge_2 18 rfl) (bt bc_Bargain_judge_2 19 rfl) (n := 36) rfl) rfl (of_decide_eq_true h5) ?_
      refine EJ_aload_n 85 0 (dk_42 (bt bc_Bargain_judge_2 20 rfl)) rfl rfl ?_
      refine EJ_getI cf0 6 (by decide) 88 tw_955 (fun _ _ _ => rfl) (dk_180 (bt bc_Bargain_judge_2 21 rfl) (bt bc_Bargain_judge_2 22 rfl) (bt bc_Bargain_judge_2 23 rfl) (n := 39) rfl) rfl (of_decide_eq_true h5) ?_
      refine EJ_callVv (Y2 := Y_Bargain_standAs) 91 cf0 (s_Bargain_standAs G _ _ _ _) (of_decide_eq_true h5) rfl (dk_182 (bt bc_Bargain_judge_2 24 rfl) (bt bc_Bargain_judge_2 25 rfl) (bt bc_Bargain_judge_2 26 rfl) (n := 61) rfl) rfl tw_1049 tw_1051 ts_27 tw_1052 hd_Bargain_standAs rfl (by decide) (Nat.le_of_ble_eq_true rfl) (fun _ M10 => ?_)
      refine EJ_goto 120 (dk_167 (bt bc_Bargain_judge_2 27 rfl) (bt bc_Bargain_judge_2 28 rfl) (bt bc_Bargain_judge_2 29 rfl) (n := 29) rfl) (by decide) ?_
      exact EJ_vret rfl (dk_177 (bt bc_Bargain_judge_3 24 rfl))
def Bargain_judge (M : Mm) (a0 : Nat) : Option (Unit × Mm) :=
  ck (kO M a0 0 14) (
  bd (Bargain_isDenied M a0) (fun r2 M3 =>
  if r2 = 0 then (
    ck (kO M3 a0 0 14) (
    bd (Bargain_standAs M3 a0 (mI M3 a0 2) (mI M3 a0 3)) (fun _ M18 =>
    some ((), M18))))
  else (
    ck (kO M3 a0 0 14) (
    if (mI M3 a0 5) ≤ 0 then (
      Bargain_judge_J65 a0 M3)
    else (
      if (mI M3 a0 7) ≤ 0 then (
        Bargain_judge_J65 a0 M3)
      else (
        bd (Math_min_I M3 (mI M3 a0 5) (mI M3 a0 7)) (fun r11 M12 =>
        ck (kO M12 a0 0 14) (
        bd (Bargain_standAs M12 a0 r11 (((mI M12 a0 6) + (mI M12 a0 8)) / 2)) (fun _ M15 =>
        some ((), M15))))))))))
set_option maxRecDepth 100000 in
set_option maxHeartbeats 4000000 in
theorem s_Bargain_judge (G : Gx) (M : Mm) (a0 : Nat) : FnS G Y_Bargain_judge cvV 2 [.ref a0] M (Bargain_judge M a0) := by
  refine FnS.ofE (by decide) (Nat.le_of_ble_eq_true rfl) ?_
  show EJ G Y_Bargain_judge cvV 2 0 [(0, .ref a0)] [] M _
  unfold Bargain_judge
  refine EJ_aload_n 1 0 (dk_42 (bt bc_Bargain_judge_0 0 rfl)) rfl rfl ?_
  refine EJ_ck (fun h1 => ?_)
  refine EJ_callVi (Y2 := Y_Bargain_isDenied) 4 cf0 (s_Bargain_isDenied G _ _) (of_decide_eq_true h1) rfl (dk_182 (bt bc_Bargain_judge_0 1 rfl) (bt bc_Bargain_judge_0 2 rfl) (bt bc_Bargain_judge_0 3 rfl) (n := 54) rfl) rfl tw_1025 tw_1026 tw_1027 tw_1028 hd_Bargain_isDenied rfl (by decide) (Nat.le_of_ble_eq_true rfl) (fun r2 M3 => ?_)
  refine EJ_if_ne 22 7 (dk_154 (bt bc_Bargain_judge_0 4 rfl) (bt bc_Bargain_judge_0 5 rfl) (bt bc_Bargain_judge_0 6 rfl) (n := 18) rfl) (by decide) rfl (fun _ => ?_) (fun _ => ?_)
  · refine EJ_aload_n 23 0 (dk_42 (bt bc_Bargain_judge_0 22 rfl)) rfl rfl ?_
    refine EJ_ck (fun h4 => ?_)
    refine EJ_getI cf0 5 (by decide) 26 tw_954 (fun _ _ _ => rfl) (dk_180 (bt bc_Bargain_judge_0 23 rfl) (bt bc_Bargain_judge_0 24 rfl) (bt bc_Bargain_judge_0 25 rfl) (n := 36) rfl) rfl (of_decide_eq_true h4) ?_
    refine EJ_if_le 65 29 (dk_158 (bt bc_Bargain_judge_0 26 rfl) (bt bc_Bargain_judge_0 27 rfl) (bt bc_Bargain_judge_0 28 rfl) (n := 39) rfl) (by decide) rfl (fun _ => ?_) (fun _ => ?_)
    · exact EJ_pick (lv2 := [(0, .ref _)]) [0] rfl (e_Bargain_judge_J65 _ _)
    · refine EJ_aload_n 30 0 (dk_42 (bt bc_Bargain_judge_0 29 rfl)) rfl rfl ?_
      refine EJ_getI cf0 7 (by decide) 33 tw_956 (fun _ _ _ => rfl) (dk_180 (bt bc_Bargain_judge_0 30 rfl) (bt bc_Bargain_judge_0 31 rfl) (bt bc_Bargain_judge_1 0 rfl) (n := 42) rfl) rfl (of_decide_eq_true h4) ?_
      refine EJ_if_le 65 36 (dk_158 (bt bc_Bargain_judge_1 1 rfl) (bt bc_Bargain_judge_1 2 rfl) (bt bc_Bargain_judge_1 3 rfl) (n := 32) rfl) (by decide) rfl (fun _ => ?_) (fun _ => ?_)
      · exact EJ_pick (lv2 := [(0, .ref _)]) [0] rfl (e_Bargain_judge_J65 _ _)
      · refine EJ_aload_n 37 0 (dk_42 (bt bc_Bargain_judge_1 4 rfl)) rfl rfl ?_
        refine EJ_aload_n 38 0 (dk_42 (bt bc_Bargain_judge_1 5 rfl)) rfl rfl ?_
        refine EJ_getI cf0 5 (by decide) 41 tw_954 (fun _ _ _ => rfl) (dk_180 (bt bc_Bargain_judge_1 6 rfl) (bt bc_Bargain_judge_1 7 rfl) (bt bc_Bargain_judge_1 8 rfl) (n := 36) rfl) rfl (of_decide_eq_true h4) ?_
        refine EJ_aload_n 42 0 (dk_42 (bt bc_Bargain_judge_1 9 rfl)) rfl rfl ?_
        refine EJ_getI cf0 7 (by decide) 45 tw_956 (fun _ _ _ => rfl) (dk_180 (bt bc_Bargain_judge_1 10 rfl) (bt bc_Bargain_judge_1 11 rfl) (bt bc_Bargain_judge_1 12 rfl) (n := 42) rfl) rfl (of_decide_eq_true h4) ?_
        refine EJ_callSi (Y2 := Y_Math_min_I) 48 (s_Math_min_I G _ _ _) rfl (dk_184 (bt bc_Bargain_judge_1 13 rfl) (bt bc_Bargain_judge_1 14 rfl) (bt bc_Bargain_judge_1 15 rfl) (n := 65) rfl) rfl tw_1053 tw_322 tw_9 tw_323 hd_Math_min_I rfl (by decide) (Nat.le_of_ble_eq_true rfl) (fun r11 M12 => ?_)
        refine EJ_aload_n 49 0 (dk_42 (bt bc_Bargain_judge_1 16 rfl)) rfl rfl ?_
        refine EJ_ck (fun h13 => ?_)
        refine EJ_getI cf0 6 (by decide) 52 tw_955 (fun _ _ _ => rfl) (dk_180 (bt bc_Bargain_judge_1 17 rfl) (bt bc_Bargain_judge_1 18 rfl) (bt bc_Bargain_judge_1 19 rfl) (n := 39) rfl) rfl (of_decide_eq_true h13) ?_
        refine EJ_aload_n 53 0 (dk_42 (bt bc_Bargain_judge_1 20 rfl)) rfl rfl ?_
        refine EJ_getI cf0 8 (by decide) 56 tw_957 (fun _ _ _ => rfl) (dk_180 (bt bc_Bargain_judge_1 21 rfl) (bt bc_Bargain_judge_1 22 rfl) (bt bc_Bargain_judge_1 23 rfl) (n := 45) rfl) rfl (of_decide_eq_true h13) ?_
        refine EJ_iadd 57 (dk_96 (bt bc_Bargain_judge_1 24 rfl)) rfl ?_
        refine EJ_iconst 58 (dk_5 (bt bc_Bargain_judge_1 25 rfl)) rfl (v := 2) kI_2 ?_
        refine EJ_idiv 59 (dk_108 (bt bc_Bargain_judge_1 26 rfl)) rfl (by decide) ?_
        refine EJ_callVv (Y2 := Y_Bargain_standAs) 62 cf0 (s_Bargain_standAs G _ _ _ _) (of_decide_eq_true h13) rfl (dk_182 (bt bc_Bargain_judge_1 27 rfl) (bt bc_Bargain_judge_1 28 rfl) (bt bc_Bargain_judge_1 29 rfl) (n := 61) rfl) rfl tw_1049 tw_1051 ts_27 tw_1052 hd_Bargain_standAs rfl (by decide) (Nat.le_of_ble_eq_true rfl) (fun _ M15 => ?_)
        refine EJ_goto 120 (dk_167 (bt bc_Bargain_judge_1 30 rfl) (bt bc_Bargain_judge_1 31 rfl) (bt bc_Bargain_judge_2 0 rfl) (n := 58) rfl) (by decide) ?_
        exact EJ_vret rfl (dk_177 (bt bc_Bargain_judge_3 24 rfl))
  · refine EJ_aload_n 8 0 (dk_42 (bt bc_Bargain_judge_0 7 rfl)) rfl rfl ?_
    refine EJ_aload_n 9 0 (dk_42 (bt bc_Bargain_judge_0 8 rfl)) rfl rfl ?_
    refine EJ_ck (fun h16 => ?_)
    refine EJ_getI cf0 2 (by decide) 12 tw_946 (fun _ _ _ => rfl) (dk_180 (bt bc_Bargain_judge_0 9 rfl) (bt bc_Bargain_judge_0 10 rfl) (bt bc_Bargain_judge_0 11 rfl) (n := 25) rfl) rfl (of_decide_eq_true h16) ?_
    refine EJ_aload_n 13 0 (dk_42 (bt bc_Bargain_judge_0 12 rfl)) rfl rfl ?_
    refine EJ_getI cf0 3 (by decide) 16 tw_948 (fun _ _ _ => rfl) (dk_180 (bt bc_Bargain_judge_0 13 rfl) (bt bc_Bargain_judge_0 14 rfl) (bt bc_Bargain_judge_0 15 rfl) (n := 31) rfl) rfl (of_decide_eq_true h16) ?_
    refine EJ_callVv (Y2 := Y_Bargain_standAs) 19 cf0 (s_Bargain_standAs G _ _ _ _) (of_decide_eq_true h16) rfl (dk_182 (bt bc_Bargain_judge_0 16 rfl) (bt bc_Bargain_judge_0 17 rfl) (bt bc_Bargain_judge_0 18 rfl) (n := 61) rfl) rfl tw_1049 tw_1051 ts_27 tw_1052 hd_Bargain_standAs rfl (by decide) (Nat.le_of_ble_eq_true rfl) (fun _ M18 => ?_)
    refine EJ_goto 120 (dk_167 (bt bc_Bargain_judge_0 19 rfl) (bt bc_Bargain_judge_0 20 rfl) (bt bc_Bargain_judge_0 21 rfl) (n := 101) rfl) (by decide) ?_
    exact EJ_vret rfl (dk_177 (bt bc_Bargain_judge_3 24 rfl))
abbrev Y_Cry_new : Ym := (⟨"RiceHall$Cry", "<init>", "(IZIII)V"⟩, prog_3_method_1_code, 6, none)
theorem bc_Cry_new_0 : bts prog_3_method_1_code 0 [42, 183, 0, 3, 42, 27, 181, 0, 9, 42, 28, 181, 0, 15, 42, 29, 181, 0, 19, 42, 21, 4, 181, 0, 22, 42, 21, 5, 181, 0, 25, 42] := bts_of (by decide +kernel)
theorem bc_Cry_new_1 : bts prog_3_method_1_code 32 [2, 181, 0, 28, 177] := bts_of (by decide +kernel)
theorem hd_Cry_new : Y_Cry_new.1.cls ≠ "java/lang/invoke/MethodHandle" ∧ Y_Cry_new.1.cls ≠ "java/lang/invoke/VarHandle" ∧ (parseMethodDescriptor Y_Cry_new.1.desc).map (fun d => d.parameters.length) = some 5 := by decide +kernel
def Cry_new (M : Mm) (a0 : Nat) (a1 : Int32) (a2 : Int32) (a3 : Int32) (a4 : Int32) (a5 : Int32) : Option (Unit × Mm) :=
  ck (kO M a0 1 6) (
  let M2 := sI M a0 0 a1
  ck (kZ a2) (
  let M4 := sI M2 a0 1 a2
  let M5 := sI M4 a0 2 a3
  let M6 := sI M5 a0 3 a4
  let M7 := sI M6 a0 4 a5
  let M8 := sI M7 a0 5 (-1)
  some ((), M8)))
set_option maxRecDepth 100000 in
set_option maxHeartbeats 4000000 in
theorem s_Cry_new (G : Gx) (M : Mm) (a0 : Nat) (a1 : Int32) (a2 : Int32) (a3 : Int32) (a4 : Int32) (a5 : Int32) : FnS G Y_Cry_new cvV 1 [.ref a0, .int a1, .int a2, .int a3, .int a4, .int a5] M (Cry_new M a0 a1 a2 a3 a4 a5) := by
  refine FnS.ofE (by decide) (Nat.le_of_ble_eq_true rfl) ?_
  show EJ G Y_Cry_new cvV 1 0 [(0, .ref a0), (1, .int a1), (2, .int a2), (3, .int a3), (4, .int a4), (5, .int a5)] [] M _
  unfold Cry_new
  refine EJ_aload_n 1 0 (dk_42 (bt bc_Cry_new_0 0 rfl)) rfl rfl ?_
  refine EJ_obj 4 (dk_183 (bt bc_Cry_new_0 1 rfl) (bt bc_Cry_new_0 2 rfl) (bt bc_Cry_new_0 3 rfl) (n := 3) rfl) rfl tw_882 tw_27 tw_28 (by decide) (Nat.le_of_ble_eq_true rfl) ?_
  refine EJ_aload_n 5 0 (dk_42 (bt bc_Cry_new_0 4 rfl)) rfl rfl ?_
  refine EJ_iload_n 6 1 (dk_27 (bt bc_Cry_new_0 5 rfl)) rfl rfl ?_
  refine EJ_ck (fun h1 => ?_)
  refine EJ_putI cf1 0 (by decide) 9 tw_883 rfl (Or.inr ⟨rfl, rfl⟩) (dk_181 (bt bc_Cry_new_0 6 rfl) (bt bc_Cry_new_0 7 rfl) (bt bc_Cry_new_0 8 rfl) (n := 9) rfl) rfl (of_decide_eq_true h1) ?_
  refine EJ_aload_n 10 0 (dk_42 (bt bc_Cry_new_0 9 rfl)) rfl rfl ?_
  refine EJ_iload_n 11 2 (dk_28 (bt bc_Cry_new_0 10 rfl)) rfl rfl ?_
  refine EJ_ck (fun h3 => ?_)
  refine EJ_putZ cf1 1 (by decide) 14 tw_886 rfl (Or.inr ⟨rfl, rfl⟩) h3 (dk_181 (bt bc_Cry_new_0 11 rfl) (bt bc_Cry_new_0 12 rfl) (bt bc_Cry_new_0 13 rfl) (n := 15) rfl) rfl (kp_I (of_decide_eq_true h1)) ?_
  refine EJ_aload_n 15 0 (dk_42 (bt bc_Cry_new_0 14 rfl)) rfl rfl ?_
  refine EJ_iload_n 16 3 (dk_29 (bt bc_Cry_new_0 15 rfl)) rfl rfl ?_
  refine EJ_putI cf1 2 (by decide) 19 tw_888 rfl (Or.inr ⟨rfl, rfl⟩) (dk_181 (bt bc_Cry_new_0 16 rfl) (bt bc_Cry_new_0 17 rfl) (bt bc_Cry_new_0 18 rfl) (n := 19) rfl) rfl (kp_I (kp_I (of_decide_eq_true h1))) ?_
  refine EJ_aload_n 20 0 (dk_42 (bt bc_Cry_new_0 19 rfl)) rfl rfl ?_
  refine EJ_iload 22 4 (dk_21 (bt bc_Cry_new_0 20 rfl) (bt bc_Cry_new_0 21 rfl)) rfl rfl ?_
  refine EJ_putI cf1 3 (by decide) 25 tw_890 rfl (Or.inr ⟨rfl, rfl⟩) (dk_181 (bt bc_Cry_new_0 22 rfl) (bt bc_Cry_new_0 23 rfl) (bt bc_Cry_new_0 24 rfl) (n := 22) rfl) rfl (kp_I (kp_I (kp_I (of_decide_eq_true h1)))) ?_
  refine EJ_aload_n 26 0 (dk_42 (bt bc_Cry_new_0 25 rfl)) rfl rfl ?_
  refine EJ_iload 28 5 (dk_21 (bt bc_Cry_new_0 26 rfl) (bt bc_Cry_new_0 27 rfl)) rfl rfl ?_
  refine EJ_putI cf1 4 (by decide) 31 tw_893 rfl (Or.inr ⟨rfl, rfl⟩) (dk_181 (bt bc_Cry_new_0 28 rfl) (bt bc_Cry_new_0 29 rfl) (bt bc_Cry_new_0 30 rfl) (n := 25) rfl) rfl (kp_I (kp_I (kp_I (kp_I (of_decide_eq_true h1))))) ?_
  refine EJ_aload_n 32 0 (dk_42 (bt bc_Cry_new_0 31 rfl)) rfl rfl ?_
  refine EJ_iconst 33 (dk_2 (bt bc_Cry_new_1 0 rfl)) rfl (v := (-1)) kI_m1 ?_
  refine EJ_putI cf1 5 (by decide) 36 tw_896 rfl (Or.inl rfl) (dk_181 (bt bc_Cry_new_1 1 rfl) (bt bc_Cry_new_1 2 rfl) (bt bc_Cry_new_1 3 rfl) (n := 28) rfl) rfl (kp_I (kp_I (kp_I (kp_I (kp_I (of_decide_eq_true h1)))))) ?_
  exact EJ_vret rfl (dk_177 (bt bc_Cry_new_1 4 rfl))
abbrev Y_Cry_meets : Ym := (⟨"RiceHall$Cry", "meets", "(LRiceHall$Cry;)Z"⟩, prog_3_method_2_code, 2, (some FieldType.boolean))
theorem bc_Cry_meets_0 : bts prog_3_method_2_code 0 [42, 180, 0, 15, 43, 180, 0, 15, 159, 0, 14, 42, 180, 0, 9, 43, 180, 0, 9, 160, 0, 5, 3, 172, 42, 180, 0, 15, 153, 0, 22, 43] := bts_of (by decide +kernel)
theorem bc_Cry_meets_1 : bts prog_3_method_2_code 32 [180, 0, 22, 42, 180, 0, 22, 163, 0, 7, 4, 167, 0, 23, 3, 167, 0, 19, 43, 180, 0, 22, 42, 180, 0, 22, 161, 0, 7, 4, 167, 0] := bts_of (by decide +kernel)
theorem bc_Cry_meets_2 : bts prog_3_method_2_code 64 [4, 3, 172] := bts_of (by decide +kernel)
theorem hd_Cry_meets : Y_Cry_meets.1.cls = RX1 ∧ Y_Cry_meets.1.cls ≠ "java/lang/invoke/MethodHandle" ∧ Y_Cry_meets.1.cls ≠ "java/lang/invoke/VarHandle" ∧ (parseMethodDescriptor Y_Cry_meets.1.desc).map (fun d => d.parameters.length) = some 1 := by decide +kernel
def Cry_meets (M : Mm) (a0 : Nat) (a1 : Nat) : Option (Int32 × Mm) :=
  ck (kO M a0 1 6) (
  ck (kO M a1 1 6) (
  if (mI M a0 1) = (mI M a1 1) then (
    some (0, M))
  else (
    if (mI M a0 0) = (mI M a1 0) then (
      some (0, M))
    else (
      if (mI M a0 1) = 0 then (
        if (mI M a1 3) < (mI M a0 3) then (
          some (0, M))
        else (
          some (1, M)))
      else (
        if (mI M a0 3) < (mI M a1 3) then (
          some (0, M))
        else (
          some (1, M)))))))
set_option maxRecDepth 100000 in
set_option maxHeartbeats 4000000 in
theorem s_Cry_meets (G : Gx) (M : Mm) (a0 : Nat) (a1 : Nat) : FnS G Y_Cry_meets cvI 1 [.ref a0, .ref a1] M (Cry_meets M a0 a1) := by
  refine FnS.ofE (by decide) (Nat.le_of_ble_eq_true rfl) ?_
  show EJ G Y_Cry_meets cvI 1 0 [(0, .ref a0), (1, .ref a1)] [] M _
  unfold Cry_meets
  refine EJ_aload_n 1 0 (dk_42 (bt bc_Cry_meets_0 0 rfl)) rfl rfl ?_
  refine EJ_ck (fun h1 => ?_)
  refine EJ_getI cf1 1 (by decide) 4 tw_886 (fun _ _ _ => rfl) (dk_180 (bt bc_Cry_meets_0 1 rfl) (bt bc_Cry_meets_0 2 rfl) (bt bc_Cry_meets_0 3 rfl) (n := 15) rfl) rfl (of_decide_eq_true h1) ?_
  refine EJ_aload_n 5 1 (dk_43 (bt bc_Cry_meets_0 4 rfl)) rfl rfl ?_
  refine EJ_ck (fun h2 => ?_)
  refine EJ_getI cf1 1 (by decide) 8 tw_886 (fun _ _ _ => rfl) (dk_180 (bt bc_Cry_meets_0 5 rfl) (bt bc_Cry_meets_0 6 rfl) (bt bc_Cry_meets_0 7 rfl) (n := 15) rfl) rfl (of_decide_eq_true h2) ?_
  refine EJ_icmp_eq 22 11 (dk_159 (bt bc_Cry_meets_0 8 rfl) (bt bc_Cry_meets_0 9 rfl) (bt bc_Cry_meets_0 10 rfl) (n := 14) rfl) (by decide) rfl (fun _ => ?_) (fun _ => ?_)
  · refine EJ_iconst 23 (dk_3 (bt bc_Cry_meets_0 22 rfl)) rfl (v := 0) kI_0 ?_
    exact EJ_zret rfl (by decide) (dk_172 (bt bc_Cry_meets_0 23 rfl))
  · refine EJ_aload_n 12 0 (dk_42 (bt bc_Cry_meets_0 11 rfl)) rfl rfl ?_
    refine EJ_getI cf1 0 (by decide) 15 tw_883 (fun _ _ _ => rfl) (dk_180 (bt bc_Cry_meets_0 12 rfl) (bt bc_Cry_meets_0 13 rfl) (bt bc_Cry_meets_0 14 rfl) (n := 9) rfl) rfl (of_decide_eq_true h1) ?_
    refine EJ_aload_n 16 1 (dk_43 (bt bc_Cry_meets_0 15 rfl)) rfl rfl ?_
    refine EJ_getI cf1 0 (by decide) 19 tw_883 (fun _ _ _ => rfl) (dk_180 (bt bc_Cry_meets_0 16 rfl) (bt bc_Cry_meets_0 17 rfl) (bt bc_Cry_meets_0 18 rfl) (n := 9) rfl) rfl (of_decide_eq_true h2) ?_
    refine EJ_icmp_ne 24 22 (dk_160 (bt bc_Cry_meets_0 19 rfl) (bt bc_Cry_meets_0 20 rfl) (bt bc_Cry_meets_0 21 rfl) (n := 5) rfl) (by decide) rfl (fun _ => ?_) (fun _ => ?_)
    · refine EJ_aload_n 25 0 (dk_42 (bt bc_Cry_meets_0 24 rfl)) rfl rfl ?_
      refine EJ_getI cf1 1 (by decide) 28 tw_886 (fun _ _ _ => rfl) (dk_180 (bt bc_Cry_meets_0 25 rfl) (bt bc_Cry_meets_0 26 rfl) (bt bc_Cry_meets_0 27 rfl) (n := 15) rfl) rfl (of_decide_eq_true h1) ?_
      refine EJ_if_eq 50 31 (dk_153 (bt bc_Cry_meets_0 28 rfl) (bt bc_Cry_meets_0 29 rfl) (bt bc_Cry_meets_0 30 rfl) (n := 22) rfl) (by decide) rfl (fun _ => ?_) (fun _ => ?_)
      · refine EJ_aload_n 51 1 (dk_43 (bt bc_Cry_meets_1 18 rfl)) rfl rfl ?_
        refine EJ_getI cf1 3 (by decide) 54 tw_890 (fun _ _ _ => rfl) (dk_180 (bt bc_Cry_meets_1 19 rfl) (bt bc_Cry_meets_1 20 rfl) (bt bc_Cry_meets_1 21 rfl) (n := 22) rfl) rfl (of_decide_eq_true h2) ?_
        refine EJ_aload_n 55 0 (dk_42 (bt bc_Cry_meets_1 22 rfl)) rfl rfl ?_
        refine EJ_getI cf1 3 (by decide) 58 tw_890 (fun _ _ _ => rfl) (dk_180 (bt bc_Cry_meets_1 23 rfl) (bt bc_Cry_meets_1 24 rfl) (bt bc_Cry_meets_1 25 rfl) (n := 22) rfl) rfl (of_decide_eq_true h1) ?_
        refine EJ_icmp_lt 65 61 (dk_161 (bt bc_Cry_meets_1 26 rfl) (bt bc_Cry_meets_1 27 rfl) (bt bc_Cry_meets_1 28 rfl) (n := 7) rfl) (by decide) rfl (fun _ => ?_) (fun _ => ?_)
        · refine EJ_iconst 66 (dk_3 (bt bc_Cry_meets_2 1 rfl)) rfl (v := 0) kI_0 ?_
          exact EJ_zret rfl (by decide) (dk_172 (bt bc_Cry_meets_2 2 rfl))
        · refine EJ_iconst 62 (dk_4 (bt bc_Cry_meets_1 29 rfl)) rfl (v := 1) kI_1 ?_
          refine EJ_goto 66 (dk_167 (bt bc_Cry_meets_1 30 rfl) (bt bc_Cry_meets_1 31 rfl) (bt bc_Cry_meets_2 0 rfl) (n := 4) rfl) (by decide) ?_
          exact EJ_zret rfl (by decide) (dk_172 (bt bc_Cry_meets_2 2 rfl))
      · refine EJ_aload_n 32 1 (dk_43 (bt bc_Cry_meets_0 31 rfl)) rfl rfl ?_
        refine EJ_getI cf1 3 (by decide) 35 tw_890 (fun _ _ _ => rfl) (dk_180 (bt bc_Cry_meets_1 0 rfl) (bt bc_Cry_meets_1 1 rfl) (bt bc_Cry_meets_1 2 rfl) (n := 22) rfl) rfl (of_decide_eq_true h2) ?_
        refine EJ_aload_n 36 0 (dk_42 (bt bc_Cry_meets_1 3 rfl)) rfl rfl ?_
        refine EJ_getI cf1 3 (by decide) 39 tw_890 (fun _ _ _ => rfl) (dk_180 (bt bc_Cry_meets_1 4 rfl) (bt bc_Cry_meets_1 5 rfl) (bt bc_Cry_meets_1 6 rfl) (n := 22) rfl) rfl (of_decide_eq_true h1) ?_
        refine EJ_icmp_gt 46 42 (dk_163 (bt bc_Cry_meets_1 7 rfl) (bt bc_Cry_meets_1 8 rfl) (bt bc_Cry_meets_1 9 rfl) (n := 7) rfl) (by decide) rfl (fun _ => ?_) (fun _ => ?_)
        · refine EJ_iconst 47 (dk_3 (bt bc_Cry_meets_1 14 rfl)) rfl (v := 0) kI_0 ?_
          refine EJ_goto 66 (dk_167 (bt bc_Cry_meets_1 15 rfl) (bt bc_Cry_meets_1 16 rfl) (bt bc_Cry_meets_1 17 rfl) (n := 19) rfl) (by decide) ?_
          exact EJ_zret rfl (by decide) (dk_172 (bt bc_Cry_meets_2 2 rfl))
        · refine EJ_iconst 43 (dk_4 (bt bc_Cry_meets_1 10 rfl)) rfl (v := 1) kI_1 ?_
          refine EJ_goto 66 (dk_167 (bt bc_Cry_meets_1 11 rfl) (bt bc_Cry_meets_1 12 rfl) (bt bc_Cry_meets_1 13 rfl) (n := 23) rfl) (by decide) ?_
          exact EJ_zret rfl (by decide) (dk_172 (bt bc_Cry_meets_2 2 rfl))
    · refine EJ_iconst 23 (dk_3 (bt bc_Cry_meets_0 22 rfl)) rfl (v := 0) kI_0 ?_
      exact EJ_zret rfl (by decide) (dk_172 (bt bc_Cry_meets_0 23 rfl))
abbrev Y_Cry_isBetterThan : Ym := (⟨"RiceHall$Cry", "isBetterThan", "(LRiceHall$Cry;)Z"⟩, prog_3_method_3_code, 2, (some FieldType.boolean))
theorem bc_Cry_isBetterThan_0 : bts prog_3_method_3_code 0 [42, 180, 0, 15, 153, 0, 22, 42, 180, 0, 22, 43, 180, 0, 22, 164, 0, 7, 4, 167, 0, 23, 3, 167, 0, 19, 42, 180, 0, 22, 43, 180] := bts_of (by decide +kernel)
theorem bc_Cry_isBetterThan_1 : bts prog_3_method_3_code 32 [0, 22, 162, 0, 7, 4, 167, 0, 4, 3, 172] := bts_of (by decide +kernel)
theorem hd_Cry_isBetterThan : Y_Cry_isBetterThan.1.cls = RX1 ∧ Y_Cry_isBetterThan.1.cls ≠ "java/lang/invoke/MethodHandle" ∧ Y_Cry_isBetterThan.1.cls ≠ "java/lang/invoke/VarHandle" ∧ (parseMethodDescriptor Y_Cry_isBetterThan.1.desc).map (fun d => d.parameters.length) = some 1 := by decide +kernel
def Cry_isBetterThan (M : Mm) (a0 : Nat) (a1 : Nat) : Option (Int32 × Mm) :=
  ck (kO M a0 1 6) (
  if (mI M a0 1) = 0 then (
    ck (kO M a1 1 6) (
    if (mI M a1 3) ≤ (mI M a0 3) then (
      some (0, M))
    else (
      some (1, M))))
  else (
    ck (kO M a1 1 6) (
    if (mI M a0 3) ≤ (mI M a1 3) then (
      some (0, M))
    else (
      some (1, M)))))
set_option maxRecDepth 100000 in
set_option maxHeartbeats 4000000 in
theorem s_Cry_isBetterThan (G : Gx) (M : Mm) (a0 : Nat) (a1 : Nat) : FnS G Y_Cry_isBetterThan cvI 1 [.ref a0, .ref a1] M (Cry_isBetterThan M a0 a1) := by
  refine FnS.ofE (by decide) (Nat.le_of_ble_eq_true rfl) ?_
  show EJ G Y_Cry_isBetterThan cvI 1 0 [(0, .ref a0), (1, .ref a1)] [] M _
  unfold Cry_isBetterThan
  refine EJ_aload_n 1 0 (dk_42 (bt bc_Cry_isBetterThan_0 0 rfl)) rfl rfl ?_
  refine EJ_ck (fun h1 => ?_)
  refine EJ_getI cf1 1 (by decide) 4 tw_886 (fun _ _ _ => rfl) (dk_180 (bt bc_Cry_isBetterThan_0 1 rfl) (bt bc_Cry_isBetterThan_0 2 rfl) (bt bc_Cry_isBetterThan_0 3 rfl) (n := 15) rfl) rfl (of_decide_eq_true h1) ?_
  refine EJ_if_eq 26 7 (dk_153 (bt bc_Cry_isBetterThan_0 4 rfl) (bt bc_Cry_isBetterThan_0 5 rfl) (bt bc_Cry_isBetterThan_0 6 rfl) (n := 22) rfl) (by decide) rfl (fun _ => ?_) (fun _ => ?_)
  · refine EJ_aload_n 27 0 (dk_42 (bt bc_Cry_isBetterThan_0 26 rfl)) rfl rfl ?_
    refine EJ_getI cf1 3 (by decide) 30 tw_890 (fun _ _ _ => rfl) (dk_180 (bt bc_Cry_isBetterThan_0 27 rfl) (bt bc_Cry_isBetterThan_0 28 rfl) (bt bc_Cry_isBetterThan_0 29 rfl) (n := 22) rfl) rfl (of_decide_eq_true h1) ?_
    refine EJ_aload_n 31 1 (dk_43 (bt bc_Cry_isBetterThan_0 30 rfl)) rfl rfl ?_
    refine EJ_ck (fun h2 => ?_)
    refine EJ_getI cf1 3 (by decide) 34 tw_890 (fun _ _ _ => rfl) (dk_180 (bt bc_Cry_isBetterThan_0 31 rfl) (bt bc_Cry_isBetterThan_1 0 rfl) (bt bc_Cry_isBetterThan_1 1 rfl) (n := 22) rfl) rfl (of_decide_eq_true h2) ?_
    refine EJ_icmp_ge 41 37 (dk_162 (bt bc_Cry_isBetterThan_1 2 rfl) (bt bc_Cry_isBetterThan_1 3 rfl) (bt bc_Cry_isBetterThan_1 4 rfl) (n := 7) rfl) (by decide) rfl (fun _ => ?_) (fun _ => ?_)
    · refine EJ_iconst 42 (dk_3 (bt bc_Cry_isBetterThan_1 9 rfl)) rfl (v := 0) kI_0 ?_
      exact EJ_zret rfl (by decide) (dk_172 (bt bc_Cry_isBetterThan_1 10 rfl))
    · refine EJ_iconst 38 (dk_4 (bt bc_Cry_isBetterThan_1 5 rfl)) rfl (v := 1) kI_1 ?_
      refine EJ_goto 42 (dk_167 (bt bc_Cry_isBetterThan_1 6 rfl) (bt bc_Cry_isBetterThan_1 7 rfl) (bt bc_Cry_isBetterThan_1 8 rfl) (n := 4) rfl) (by decide) ?_
      exact EJ_zret rfl (by decide) (dk_172 (bt bc_Cry_isBetterThan_1 10 rfl))
  · refine EJ_aload_n 8 0 (dk_42 (bt bc_Cry_isBetterThan_0 7 rfl)) rfl rfl ?_
    refine EJ_getI cf1 3 (by decide) 11 tw_890 (fun _ _ _ => rfl) (dk_180 (bt bc_Cry_isBetterThan_0 8 rfl) (bt bc_Cry_isBetterThan_0 9 rfl) (bt bc_Cry_isBetterThan_0 10 rfl) (n := 22) rfl) rfl (of_decide_eq_true h1) ?_
    refine EJ_aload_n 12 1 (dk_43 (bt bc_Cry_isBetterThan_0 11 rfl)) rfl rfl ?_
    refine EJ_ck (fun h3 => ?_)
    refine EJ_getI cf1 3 (by decide) 15 tw_890 (fun _ _ _ => rfl) (dk_180 (bt bc_Cry_isBetterThan_0 12 rfl) (bt bc_Cry_isBetterThan_0 13 rfl) (bt bc_Cry_isBetterThan_0 14 rfl) (n := 22) rfl) rfl (of_decide_eq_true h3) ?_
    refine EJ_icmp_le 22 18 (dk_164 (bt bc_Cry_isBetterThan_0 15 rfl) (bt bc_Cry_isBetterThan_0 16 rfl) (bt bc_Cry_isBetterThan_0 17 rfl) (n := 7) rfl) (by decide) rfl (fun _ => ?_) (fun _ => ?_)
    · refine EJ_iconst 23 (dk_3 (bt bc_Cry_isBetterThan_0 22 rfl)) rfl (v := 0) kI_0 ?_
      refine EJ_goto 42 (dk_167 (bt bc_Cry_isBetterThan_0 23 rfl) (bt bc_Cry_isBetterThan_0 24 rfl) (bt bc_Cry_isBetterThan_0 25 rfl) (n := 19) rfl) (by decide) ?_
      exact EJ_zret rfl (by decide) (dk_172 (bt bc_Cry_isBetterThan_1 10 rfl))
    · refine EJ_iconst 19 (dk_4 (bt bc_Cry_isBetterThan_0 18 rfl)) rfl (v := 1) kI_1 ?_
      refine EJ_goto 42 (dk_167 (bt bc_Cry_isBetterThan_0 19 rfl) (bt bc_Cry_isBetterThan_0 20 rfl) (bt bc_Cry_isBetterThan_0 21 rfl) (n := 23) rfl) (by decide) ?_
      exact EJ_zret rfl (by decide) (dk_172 (bt bc_Cry_isBetterThan_1 10 rfl))
abbrev Y_Edict_isFact : Ym := (⟨"RiceHall$Edict", "isFact", "(I[I)Z"⟩, prog_4_method_4_code, 5, (some FieldType.boolean))
theorem bc_Edict_isFact_0 : bts prog_4_method_4_code 0 [26, 18, 54, 112, 61, 26, 18, 54, 108, 6, 112, 62, 26, 18, 54, 108, 6, 108, 54, 4, 21, 4, 155, 0, 10, 21, 4, 43, 190, 161, 0, 5] := bts_of (by decide +kernel)
theorem bc_Edict_isFact_1 : bts prog_4_method_4_code 32 [3, 172, 29, 154, 0, 17, 43, 21, 4, 46, 28, 162, 0, 7, 4, 167, 0, 4, 3, 172, 29, 4, 160, 0, 19, 43, 21, 4, 46, 28, 164, 0] := bts_of (by decide +kernel)
theorem bc_Edict_isFact_2 : bts prog_4_method_4_code 64 [7, 4, 167, 0, 20, 3, 167, 0, 16, 43, 21, 4, 46, 28, 160, 0, 7, 4, 167, 0, 4, 3, 172] := bts_of (by decide +kernel)
theorem hd_Edict_isFact : Y_Edict_isFact.1.cls ≠ "java/lang/invoke/MethodHandle" ∧ Y_Edict_isFact.1.cls ≠ "java/lang/invoke/VarHandle" ∧ (parseMethodDescriptor Y_Edict_isFact.1.desc).map (fun d => d.parameters.length) = some 2 := by decide +kernel
def Edict_isFact (M : Mm) (a0 : Int32) (a1 : Nat) : Option (Int32 × Mm) :=
  let v1 : Int32 := rm a0 100000
  let v2 : Int32 := rm (a0 / 100000) 3
  let v3 : Int32 := (a0 / 100000) / 3
  if v3 < 0 then (
    some (0, M))
  else (
    ck (kT M a1 20) (
    if v3 < (ln M a1) then (
      if v2 = 0 then (
        ck (kA M a1 20 v3) (
        if v1 ≤ (mI M a1 (ix v3)) then (
          some (0, M))
        else (
          some (1, M))))
      else (
        if v2 = 1 then (
          ck (kA M a1 20 v3) (
          if (mI M a1 (ix v3)) ≤ v1 then (
            some (0, M))
          else (
            some (1, M))))
        else (
          ck (kA M a1 20 v3) (
          if (mI M a1 (ix v3)) = v1 then (
            some (1, M))
          else (
            some (0, M))))))
    else (
      some (0, M))))
set_option maxRecDepth 100000 in
set_option maxHeartbeats 4000000 in
theorem s_Edict_isFact (G : Gx) (M : Mm) (a0 : Int32) (a1 : Nat) : FnS G Y_Edict_isFact cvI 1 [.int a0, .ref a1] M (Edict_isFact M a0 a1) := by
  refine FnS.ofE (by decide) (Nat.le_of_ble_eq_true rfl) ?_
  show EJ G Y_Edict_isFact cvI 1 0 [(0, .int a0), (1, .ref a1)] [] M _
  unfold Edict_isFact
  refine EJ_iload_n 1 0 (dk_26 (bt bc_Edict_isFact_0 0 rfl)) rfl rfl ?_
  refine EJ_ldc 3 (dk_18 (bt bc_Edict_isFact_0 1 rfl) (bt bc_Edict_isFact_0 2 rfl)) rfl tw_539 ?_
  refine EJ_irem 4 (dk_112 (bt bc_Edict_isFact_0 3 rfl)) rfl (by decide) ?_
  refine EJ_istore_n 5 (lv2 := [(2, .int _), (0, .int _), (1, .ref _)]) (dk_61 (bt bc_Edict_isFact_0 4 rfl)) rfl (by decide) rfl ?_
  refine EJ_iload_n 6 1 (dk_26 (bt bc_Edict_isFact_0 5 rfl)) rfl rfl ?_
  refine EJ_ldc 8 (dk_18 (bt bc_Edict_isFact_0 6 rfl) (bt bc_Edict_isFact_0 7 rfl)) rfl tw_539 ?_
  refine EJ_idiv 9 (dk_108 (bt bc_Edict_isFact_0 8 rfl)) rfl (by decide) ?_
  refine EJ_iconst 10 (dk_6 (bt bc_Edict_isFact_0 9 rfl)) rfl (v := 3) kI_3 ?_
  refine EJ_irem 11 (dk_112 (bt bc_Edict_isFact_0 10 rfl)) rfl (by decide) ?_
  refine EJ_istore_n 12 (lv2 := [(3, .int _), (2, .int _), (0, .int _), (1, .ref _)]) (dk_62 (bt bc_Edict_isFact_0 11 rfl)) rfl (by decide) rfl ?_
  refine EJ_iload_n 13 2 (dk_26 (bt bc_Edict_isFact_0 12 rfl)) rfl rfl ?_
  refine EJ_ldc 15 (dk_18 (bt bc_Edict_isFact_0 13 rfl) (bt bc_Edict_isFact_0 14 rfl)) rfl tw_539 ?_
  refine EJ_idiv 16 (dk_108 (bt bc_Edict_isFact_0 15 rfl)) rfl (by decide) ?_
  refine EJ_iconst 17 (dk_6 (bt bc_Edict_isFact_0 16 rfl)) rfl (v := 3) kI_3 ?_
  refine EJ_idiv 18 (dk_108 (bt bc_Edict_isFact_0 17 rfl)) rfl (by decide) ?_
  refine EJ_istore 20 (lv2 := [(4, .int _), (3, .int _), (2, .int _), (0, .int _), (1, .ref _)]) (dk_54 (bt bc_Edict_isFact_0 18 rfl) (bt bc_Edict_isFact_0 19 rfl)) rfl (by decide) rfl ?_
  refine EJ_iload 22 0 (dk_21 (bt bc_Edict_isFact_0 20 rfl) (bt bc_Edict_isFact_0 21 rfl)) rfl rfl ?_
  refine EJ_if_lt 32 25 (dk_155 (bt bc_Edict_isFact_0 22 rfl) (bt bc_Edict_isFact_0 23 rfl) (bt bc_Edict_isFact_0 24 rfl) (n := 10) rfl) (by decide) rfl (fun _ => ?_) (fun _ => ?_)
  · refine EJ_iconst 33 (dk_3 (bt bc_Edict_isFact_1 0 rfl)) rfl (v := 0) kI_0 ?_
    exact EJ_zret rfl (by decide) (dk_172 (bt bc_Edict_isFact_1 1 rfl))
  · refine EJ_iload 27 0 (dk_21 (bt bc_Edict_isFact_0 25 rfl) (bt bc_Edict_isFact_0 26 rfl)) rfl rfl ?_
    refine EJ_aload_n 28 4 (dk_43 (bt bc_Edict_isFact_0 27 rfl)) rfl rfl ?_
    refine EJ_ck (fun h4 => ?_)
    refine EJ_alen 0 29 (by decide) h4 (dk_190 (bt bc_Edict_isFact_0 28 rfl)) rfl ?_
    refine EJ_icmp_lt 34 32 (dk_161 (bt bc_Edict_isFact_0 29 rfl) (bt bc_Edict_isFact_0 30 rfl) (bt bc_Edict_isFact_0 31 rfl) (n := 5) rfl) (by decide) rfl (fun _ => ?_) (fun _ => ?_)
    · refine EJ_iload_n 35 1 (dk_29 (bt bc_Edict_isFact_1 2 rfl)) rfl rfl ?_
      refine EJ_if_ne 52 38 (dk_154 (bt bc_Edict_isFact_1 3 rfl) (bt bc_Edict_isFact_1 4 rfl) (bt bc_Edict_isFact_1 5 rfl) (n := 17) rfl) (by decide) rfl (fun _ => ?_) (fun _ => ?_)
      · refine EJ_iload_n 53 1 (dk_29 (bt bc_Edict_isFact_1 20 rfl)) rfl rfl ?_
        refine EJ_iconst 54 (dk_4 (bt bc_Edict_isFact_1 21 rfl)) rfl (v := 1) kI_1 ?_
        refine EJ_icmp_ne 73 57 (dk_160 (bt bc_Edict_isFact_1 22 rfl) (bt bc_Edict_isFact_1 23 rfl) (bt bc_Edict_isFact_1 24 rfl) (n := 19) rfl) (by decide) rfl (fun _ => ?_) (fun _ => ?_)
        · refine EJ_aload_n 74 4 (dk_43 (bt bc_Edict_isFact_2 9 rfl)) rfl rfl ?_
          refine EJ_iload 76 0 (dk_21 (bt bc_Edict_isFact_2 10 rfl) (bt bc_Edict_isFact_2 11 rfl)) rfl rfl ?_
          refine EJ_ck (fun h5 => ?_)
          refine EJ_iald 77 h5 (dk_46 (bt bc_Edict_isFact_2 12 rfl)) rfl ?_
          refine EJ_iload_n 78 2 (dk_28 (bt bc_Edict_isFact_2 13 rfl)) rfl rfl ?_
          refine EJ_icmp_ne 85 81 (dk_160 (bt bc_Edict_isFact_2 14 rfl) (bt bc_Edict_isFact_2 15 rfl) (bt bc_Edict_isFact_2 16 rfl) (n := 7) rfl) (by decide) rfl (fun _ => ?_) (fun _ => ?_)
          · refine EJ_iconst 86 (dk_3 (bt bc_Edict_isFact_2 21 rfl)) rfl (v := 0) kI_0 ?_
            exact EJ_zret rfl (by decide) (dk_172 (bt bc_Edict_isFact_2 22 rfl))
          · refine EJ_iconst 82 (dk_4 (bt bc_Edict_isFact_2 17 rfl)) rfl (v := 1) kI_1 ?_
            refine EJ_goto 86 (dk_167 (bt bc_Edict_isFact_2 18 rfl) (bt bc_Edict_isFact_2 19 rfl) (bt bc_Edict_isFact_2 20 rfl) (n := 4) rfl) (by decide) ?_
            exact EJ_zret rfl (by decide) (dk_172 (bt bc_Edict_isFact_2 22 rfl))
        · refine EJ_aload_n 58 4 (dk_43 (bt bc_Edict_isFact_1 25 rfl)) rfl rfl ?_
          refine EJ_iload 60 0 (dk_21 (bt bc_Edict_isFact_1 26 rfl) (bt bc_Edict_isFact_1 27 rfl)) rfl rfl ?_
          refine EJ_ck (fun h6 => ?_)
          refine EJ_iald 61 h6 (dk_46 (bt bc_Edict_isFact_1 28 rfl)) rfl ?_
          refine EJ_iload_n 62 2 (dk_28 (bt bc_Edict_isFact_1 29 rfl)) rfl rfl ?_
          refine EJ_icmp_le 69 65 (dk_164 (bt bc_Edict_isFact_1 30 rfl) (bt bc_Edict_isFact_1 31 rfl) (bt bc_Edict_isFact_2 0 rfl) (n := 7) rfl) (by decide) rfl (fun _ => ?_) (fun _ => ?_)
          · refine EJ_iconst 70 (dk_3 (bt bc_Edict_isFact_2 5 rfl)) rfl (v := 0) kI_0 ?_
            refine EJ_goto 86 (dk_167 (bt bc_Edict_isFact_2 6 rfl) (bt bc_Edict_isFact_2 7 rfl) (bt bc_Edict_isFact_2 8 rfl) (n := 16) rfl) (by decide) ?_
            exact EJ_zret rfl (by decide) (dk_172 (bt bc_Edict_isFact_2 22 rfl))
          · refine EJ_iconst 66 (dk_4 (bt bc_Edict_isFact_2 1 rfl)) rfl (v := 1) kI_1 ?_
            refine EJ_goto 86 (dk_167 (bt bc_Edict_isFact_2 2 rfl) (bt bc_Edict_isFact_2 3 rfl) (bt bc_Edict_isFact_2 4 rfl) (n := 20) rfl) (by decide) ?_
            exact EJ_zret rfl (by decide) (dk_172 (bt bc_Edict_isFact_2 22 rfl))
      · refine EJ_aload_n 39 4 (dk_43 (bt bc_Edict_isFact_1 6 rfl)) rfl rfl ?_
        refine EJ_iload 41 0 (dk_21 (bt bc_Edict_isFact_1 7 rfl) (bt bc_Edict_isFact_1 8 rfl)) rfl rfl ?_
        refine EJ_ck (fun h7 => ?_)
        refine EJ_iald 42 h7 (dk_46 (bt bc_Edict_isFact_1 9 rfl)) rfl ?_
        refine EJ_iload_n 43 2 (dk_28 (bt bc_Edict_isFact_1 10 rfl)) rfl rfl ?_
        refine EJ_icmp_ge 50 46 (dk_162 (bt bc_Edict_isFact_1 11 rfl) (bt bc_Edict_isFact_1 12 rfl) (bt bc_Edict_isFact_1 13 rfl) (n := 7) rfl) (by decide) rfl (fun _ => ?_) (fun _ => ?_)
        · refine EJ_iconst 51 (dk_3 (bt bc_Edict_isFact_1 18 rfl)) rfl (v := 0) kI_0 ?_
          exact EJ_zret rfl (by decide) (dk_172 (bt bc_Edict_isFact_1 19 rfl))
        · refine EJ_iconst 47 (dk_4 (bt bc_Edict_isFact_1 14 rfl)) rfl (v := 1) kI_1 ?_
          refine EJ_goto 51 (dk_167 (bt bc_Edict_isFact_1 15 rfl) (bt bc_Edict_isFact_1 16 rfl) (bt bc_Edict_isFact_1 17 rfl) (n := 4) rfl) (by decide) ?_
          exact EJ_zret rfl (by decide) (dk_172 (bt bc_Edict_isFact_1 19 rfl))
    · refine EJ_iconst 33 (dk_3 (bt bc_Edict_isFact_1 0 rfl)) rfl (v := 0) kI_0 ?_
      exact EJ_zret rfl (by decide) (dk_172 (bt bc_Edict_isFact_1 1 rfl))
abbrev Y_Edict_holds : Ym := (⟨"RiceHall$Edict", "holds", "(II[I)Z"⟩, prog_4_method_3_code, 14, (some FieldType.boolean))
theorem bc_Edict_holds_0 : bts prog_4_method_3_code 0 [27, 28, 160, 0, 7, 10, 167, 0, 4, 9, 55, 4, 27, 54, 6, 21, 6, 28, 162, 0, 120, 21, 6, 42, 180, 0, 45, 190, 162, 0, 110, 42] := bts_of (by decide +kernel)
theorem bc_Edict_holds_1 : bts prog_4_method_3_code 32 [180, 0, 45, 21, 6, 46, 54, 7, 21, 7, 155, 0, 28, 22, 4, 4, 121, 21, 7, 45, 184, 0, 50, 153, 0, 7, 4, 167, 0, 4, 3, 133] := bts_of (by decide +kernel)
theorem bc_Edict_holds_2 : bts prog_4_method_3_code 64 [129, 55, 4, 167, 0, 65, 21, 7, 16, 253, 160, 0, 12, 22, 4, 10, 131, 55, 4, 167, 0, 49, 22, 4, 10, 127, 55, 8, 22, 4, 4, 125] := bts_of (by decide +kernel)
theorem bc_Edict_holds_3 : bts prog_4_method_3_code 96 [10, 127, 55, 10, 21, 7, 2, 160, 0, 11, 22, 10, 22, 8, 127, 167, 0, 8, 22, 10, 22, 8, 129, 55, 12, 22, 4, 5, 125, 4, 121, 22] := bts_of (by decide +kernel)
theorem bc_Edict_holds_4 : bts prog_4_method_3_code 128 [12, 129, 55, 4, 132, 6, 1, 167, 255, 136, 22, 4, 10, 127, 10, 148, 154, 0, 7, 4, 167, 0, 4, 3, 172] := bts_of (by decide +kernel)
theorem hd_Edict_holds : Y_Edict_holds.1.cls = RX2 ∧ Y_Edict_holds.1.cls ≠ "java/lang/invoke/MethodHandle" ∧ Y_Edict_holds.1.cls ≠ "java/lang/invoke/VarHandle" ∧ (parseMethodDescriptor Y_Edict_holds.1.desc).map (fun d => d.parameters.length) = some 3 := by decide +kernel
def Edict_holds_J138 (x4 : Int64) (M : Mm) : Option (Int32 × Mm) :=
  if (x4 &&& 1) = 1 then (
    some (1, M))
  else (
    some (0, M))
set_option maxRecDepth 100000 in
set_option maxHeartbeats 4000000 in
theorem e_Edict_holds_J138 {G : Gx} (x4 : Int64) (M : Mm) : EJ G Y_Edict_holds cvI 2 138 [(4, .long x4)] [] M (Edict_holds_J138 x4 M) := by
  unfold Edict_holds_J138
  refine EJ_lload 140 0 (dk_22 (bt bc_Edict_holds_4 10 rfl) (bt bc_Edict_holds_4 11 rfl)) rfl rfl ?_
  refine EJ_lconst 141 (dk_10 (bt bc_Edict_holds_4 12 rfl)) rfl (v := 1) (by decide) ?_
  refine EJ_land 142 (dk_127 (bt bc_Edict_holds_4 13 rfl)) rfl ?_
  refine EJ_lconst 143 (dk_10 (bt bc_Edict_holds_4 14 rfl)) rfl (v := 1) (by decide) ?_
  refine EJ_lcmp_ne 151 147 (dk_148 (bt bc_Edict_holds_4 15 rfl)) (dk_154 (bt bc_Edict_holds_4 16 rfl) (bt bc_Edict_holds_4 17 rfl) (bt bc_Edict_holds_4 18 rfl) (n := 7) rfl) (by decide) rfl (fun _ => ?_) (fun _ => ?_)
  · refine EJ_iconst 152 (dk_3 (bt bc_Edict_holds_4 23 rfl)) rfl (v := 0) kI_0 ?_
    exact EJ_zret rfl (by decide) (dk_172 (bt bc_Edict_holds_4 24 rfl))
  · refine EJ_iconst 148 (dk_4 (bt bc_Edict_holds_4 19 rfl)) rfl (v := 1) kI_1 ?_
    refine EJ_goto 152 (dk_167 (bt bc_Edict_holds_4 20 rfl) (bt bc_Edict_holds_4 21 rfl) (bt bc_Edict_holds_4 22 rfl) (n := 4) rfl) (by decide) ?_
    exact EJ_zret rfl (by decide) (dk_172 (bt bc_Edict_holds_4 24 rfl))
def Edict_holds_J132 (k15 : Nat → Int32 → Nat → Int64 → Int32 → Mm → Option (Int32 × Mm)) (x0 : Nat) (x2 : Int32) (x3 : Nat) (x4 : Int64) (x6 : Int32) (M : Mm) : Option (Int32 × Mm) :=
  let v10 : Int32 := x6 + 1
  k15 x0 x2 x3 x4 v10 M
set_option maxRecDepth 100000 in
set_option maxHeartbeats 4000000 in
theorem e_Edict_holds_J132 {G : Gx} (k15 : Nat → Int32 → Nat → Int64 → Int32 → Mm → Option (Int32 × Mm)) (hk15 : ∀ (x0 : Nat) (x2 : Int32) (x3 : Nat) (x4 : Int64) (x6 : Int32) (M : Mm), EJ G Y_Edict_holds cvI 2 15 [(0, .ref x0), (2, .int x2), (3, .ref x3), (4, .long x4), (6, .int x6)] [] M (k15 x0 x2 x3 x4 x6 M)) (x0 : Nat) (x2 : Int32) (x3 : Nat) (x4 : Int64) (x6 : Int32) (M : Mm) : EJ G Y_Edict_holds cvI 2 132 [(0, .ref x0), (2, .int x2), (3, .ref x3), (4, .long x4), (6, .int x6)] [] M (Edict_holds_J132 k15 x0 x2 x3 x4 x6 M) := by
  unfold Edict_holds_J132
  refine EJ_iinc 135 4 (lv2 := [(6, .int _), (0, .ref _), (2, .int _), (3, .ref _), (4, .long _)]) (dk_132 (bt bc_Edict_holds_4 4 rfl) (bt bc_Edict_holds_4 5 rfl) (bt bc_Edict_holds_4 6 rfl) (n := 1) rfl) rfl (by decide) rfl (v := 1) kI_1 rfl ?_
  refine EJ_goto 15 (dk_167 (bt bc_Edict_holds_4 7 rfl) (bt bc_Edict_holds_4 8 rfl) (bt bc_Edict_holds_4 9 rfl) (n := -120) rfl) (by decide) ?_
  exact EJ_pick (lv2 := [(0, .ref _), (2, .int _), (3, .ref _), (4, .long _), (6, .int _)]) [1, 2, 3, 4, 0] rfl (hk15 _ _ _ _ _ _)
def Edict_holds_J119 (k15 : Nat → Int32 → Nat → Int64 → Int32 → Mm → Option (Int32 × Mm)) (x0 : Nat) (x2 : Int32) (x3 : Nat) (x4 : Int64) (x6 : Int32) (s0 : Int64) (M : Mm) : Option (Int32 × Mm) :=
  let v9 : Int64 := ((us x4 2) <<< (Int32.toInt64 1 &&& 63)) ||| s0
  Edict_holds_J132 k15 x0 x2 x3 v9 x6 M
set_option maxRecDepth 100000 in
set_option maxHeartbeats 4000000 in
theorem e_Edict_holds_J119 {G : Gx} (k15 : Nat → Int32 → Nat → Int64 → Int32 → Mm → Option (Int32 × Mm)) (hk15 : ∀ (x0 : Nat) (x2 : Int32) (x3 : Nat) (x4 : Int64) (x6 : Int32) (M : Mm), EJ G Y_Edict_holds cvI 2 15 [(0, .ref x0), (2, .int x2), (3, .ref x3), (4, .long x4), (6, .int x6)] [] M (k15 x0 x2 x3 x4 x6 M)) (x0 : Nat) (x2 : Int32) (x3 : Nat) (x4 : Int64) (x6 : Int32) (s0 : Int64) (M : Mm) : EJ G Y_Edict_holds cvI 2 119 [(0, .ref x0), (2, .int x2), (3, .ref x3), (4, .long x4), (6, .int x6)] [.long s0] M (Edict_holds_J119 k15 x0 x2 x3 x4 x6 s0 M) := by
  unfold Edict_holds_J119
  refine EJ_lstore 121 (lv2 := [(12, .long _), (0, .ref _), (2, .int _), (3, .ref _), (4, .long _), (6, .int _)]) (dk_55 (bt bc_Edict_holds_3 23 rfl) (bt bc_Edict_holds_3 24 rfl)) rfl (by decide) rfl ?_
  refine EJ_lload 123 4 (dk_22 (bt bc_Edict_holds_3 25 rfl) (bt bc_Edict_holds_3 26 rfl)) rfl rfl ?_
  refine EJ_iconst 124 (dk_5 (bt bc_Edict_holds_3 27 rfl)) rfl (v := 2) kI_2 ?_
  refine EJ_lushr 125 (dk_125 (bt bc_Edict_holds_3 28 rfl)) rfl ?_
  refine EJ_iconst 126 (dk_4 (bt bc_Edict_holds_3 29 rfl)) rfl (v := 1) kI_1 ?_
  refine EJ_lshl 127 (dk_121 (bt bc_Edict_holds_3 30 rfl)) rfl ?_
  refine EJ_lload 129 0 (dk_22 (bt bc_Edict_holds_3 31 rfl) (bt bc_Edict_holds_4 0 rfl)) rfl rfl ?_
  refine EJ_lor 130 (dk_129 (bt bc_Edict_holds_4 1 rfl)) rfl ?_
  refine EJ_lstore 132 (lv2 := [(4, .long _), (12, .long _), (0, .ref _), (2, .int _), (3, .ref _), (6, .int _)]) (dk_55 (bt bc_Edict_holds_4 2 rfl) (bt bc_Edict_holds_4 3 rfl)) rfl (by decide) rfl ?_
  exact EJ_pick (lv2 := [(0, .ref _), (2, .int _), (3, .ref _), (4, .long _), (6, .int _)]) [2, 3, 4, 0, 5] rfl (e_Edict_holds_J132 k15 hk15 _ _ _ _ _ _)
def Edict_holds_J63 (k15 : Nat → Int32 → Nat → Int64 → Int32 → Mm → Option (Int32 × Mm)) (x0 : Nat) (x2 : Int32) (x3 : Nat) (x6 : Int32) (s0 : Int32) (s1 : Int64) (M : Mm) : Option (Int32 × Mm) :=
  let v14 : Int64 := s1 ||| (Int32.toInt64 s0)
  Edict_holds_J132 k15 x0 x2 x3 v14 x6 M
set_option maxRecDepth 100000 in
set_option maxHeartbeats 4000000 in
theorem e_Edict_holds_J63 {G : Gx} (k15 : Nat → Int32 → Nat → Int64 → Int32 → Mm → Option (Int32 × Mm)) (hk15 : ∀ (x0 : Nat) (x2 : Int32) (x3 : Nat) (x4 : Int64) (x6 : Int32) (M : Mm), EJ G Y_Edict_holds cvI 2 15 [(0, .ref x0), (2, .int x2), (3, .ref x3), (4, .long x4), (6, .int x6)] [] M (k15 x0 x2 x3 x4 x6 M)) (x0 : Nat) (x2 : Int32) (x3 : Nat) (x6 : Int32) (s0 : Int32) (s1 : Int64) (M : Mm) : EJ G Y_Edict_holds cvI 2 63 [(0, .ref x0), (2, .int x2), (3, .ref x3), (6, .int x6)] [.int s0, .long s1] M (Edict_holds_J63 k15 x0 x2 x3 x6 s0 s1 M) := by
  unfold Edict_holds_J63
  refine EJ_i2l 64 (dk_133 (bt bc_Edict_holds_1 31 rfl)) rfl ?_
  refine EJ_lor 65 (dk_129 (bt bc_Edict_holds_2 0 rfl)) rfl ?_
  refine EJ_lstore 67 (lv2 := [(4, .long _), (0, .ref _), (2, .int _), (3, .ref _), (6, .int _)]) (dk_55 (bt bc_Edict_holds_2 1 rfl) (bt bc_Edict_holds_2 2 rfl)) rfl (by decide) rfl ?_
  refine EJ_goto 132 (dk_167 (bt bc_Edict_holds_2 3 rfl) (bt bc_Edict_holds_2 4 rfl) (bt bc_Edict_holds_2 5 rfl) (n := 65) rfl) (by decide) ?_
  exact EJ_pick (lv2 := [(0, .ref _), (2, .int _), (3, .ref _), (4, .long _), (6, .int _)]) [1, 2, 3, 0, 4] rfl (e_Edict_holds_J132 k15 hk15 _ _ _ _ _ _)
def Edict_holds_B15 (k15 : Nat → Int32 → Nat → Int64 → Int32 → Mm → Option (Int32 × Mm)) (x0 : Nat) (x2 : Int32) (x3 : Nat) (x4 : Int64) (x6 : Int32) (M : Mm) : Option (Int32 × Mm) :=
  if x2 ≤ x6 then (
    Edict_holds_J138 x4 M)
  else (
    ck (kO M x0 2 5) (
    nn (mR M x0 4) (fun b2 =>
    ck (kT M b2 20) (
    if (ln M b2) ≤ x6 then (
      Edict_holds_J138 x4 M)
    else (
      nn (mR M x0 4) (fun b4 =>
      ck (kA M b4 20 x6) (
      let v6 : Int32 := mI M b4 (ix x6)
      if v6 < 0 then (
        if v6 = (-3) then (
          let v11 : Int64 := x4 ^^^ 1
          Edict_holds_J132 k15 x0 x2 x3 v11 x6 M)
        else (
          let v7 : Int64 := x4 &&& 1
          let v8 : Int64 := (us x4 1) &&& 1
          if v6 = (-1) then (
            Edict_holds_J119 k15 x0 x2 x3 x4 x6 (v8 &&& v7) M)
          else (
            Edict_holds_J119 k15 x0 x2 x3 x4 x6 (v8 ||| v7) M)))
      else (
        bd (Edict_isFact M v6 x3) (fun r12 M13 =>
        if r12 = 0 then (
          Edict_holds_J63 k15 x0 x2 x3 x6 0 (x4 <<< (Int32.toInt64 1 &&& 63)) M13)
        else (
          Edict_holds_J63 k15 x0 x2 x3 x6 1 (x4 <<< (Int32.toInt64 1 &&& 63)) M13))))))))))
set_option maxRecDepth 100000 in
set_option maxHeartbeats 4000000 in
theorem e_Edict_holds_B15 {G : Gx} (k15 : Nat → Int32 → Nat → Int64 → Int32 → Mm → Option (Int32 × Mm)) (hk15 : ∀ (x0 : Nat) (x2 : Int32) (x3 : Nat) (x4 : Int64) (x6 : Int32) (M : Mm), EJ G Y_Edict_holds cvI 2 15 [(0, .ref x0), (2, .int x2), (3, .ref x3), (4, .long x4), (6, .int x6)] [] M (k15 x0 x2 x3 x4 x6 M)) (x0 : Nat) (x2 : Int32) (x3 : Nat) (x4 : Int64) (x6 : Int32) (M : Mm) : EJ G Y_Edict_holds cvI 2 15 [(0, .ref x0), (2, .int x2), (3, .ref x3), (4, .long x4), (6, .int x6)] [] M (Edict_holds_B15 k15 x0 x2 x3 x4 x6 M) := by
  unfold Edict_holds_B15
  refine EJ_iload 17 4 (dk_21 (bt bc_Edict_holds_0 15 rfl) (bt bc_Edict_holds_0 16 rfl)) rfl rfl ?_
  refine EJ_iload_n 18 1 (dk_28 (bt bc_Edict_holds_0 17 rfl)) rfl rfl ?_
  refine EJ_icmp_ge 138 21 (dk_162 (bt bc_Edict_holds_0 18 rfl) (bt bc_Edict_holds_0 19 rfl) (bt bc_Edict_holds_0 20 rfl) (n := 120) rfl) (by decide) rfl (fun _ => ?_) (fun _ => ?_)
  · exact EJ_pick (lv2 := [(4, .long _)]) [3] rfl (e_Edict_holds_J138 _ _)
  · refine EJ_iload 23 4 (dk_21 (bt bc_Edict_holds_0 21 rfl) (bt bc_Edict_holds_0 22 rfl)) rfl rfl ?_
    refine EJ_aload_n 24 0 (dk_42 (bt bc_Edict_holds_0 23 rfl)) rfl rfl ?_
    refine EJ_ck (fun h1 => ?_)
    refine EJ_getR cf2 4 (by decide) 27 tw_782 (fun _ _ _ => rfl) (dk_180 (bt bc_Edict_holds_0 24 rfl) (bt bc_Edict_holds_0 25 rfl) (bt bc_Edict_holds_0 26 rfl) (n := 45) rfl) rfl (of_decide_eq_true h1) (fun b2 => ?_)
    refine EJ_ck (fun h3 => ?_)
    refine EJ_alen 0 28 (by decide) h3 (dk_190 (bt bc_Edict_holds_0 27 rfl)) rfl ?_
    refine EJ_icmp_ge 138 31 (dk_162 (bt bc_Edict_holds_0 28 rfl) (bt bc_Edict_holds_0 29 rfl) (bt bc_Edict_holds_0 30 rfl) (n := 110) rfl) (by decide) rfl (fun _ => ?_) (fun _ => ?_)
    · exact EJ_pick (lv2 := [(4, .long _)]) [3] rfl (e_Edict_holds_J138 _ _)
    · refine EJ_aload_n 32 0 (dk_42 (bt bc_Edict_holds_0 31 rfl)) rfl rfl ?_
      refine EJ_getR cf2 4 (by decide) 35 tw_782 (fun _ _ _ => rfl) (dk_180 (bt bc_Edict_holds_1 0 rfl) (bt bc_Edict_holds_1 1 rfl) (bt bc_Edict_holds_1 2 rfl) (n := 45) rfl) rfl (of_decide_eq_true h1) (fun b4 => ?_)
      refine EJ_iload 37 4 (dk_21 (bt bc_Edict_holds_1 3 rfl) (bt bc_Edict_holds_1 4 rfl)) rfl rfl ?_
      refine EJ_ck (fun h5 => ?_)
      refine EJ_iald 38 h5 (dk_46 (bt bc_Edict_holds_1 5 rfl)) rfl ?_
      refine EJ_istore 40 (lv2 := [(7, .int _), (0, .ref _), (2, .int _), (3, .ref _), (4, .long _), (6, .int _)]) (dk_54 (bt bc_Edict_holds_1 6 rfl) (bt bc_Edict_holds_1 7 rfl)) rfl (by decide) rfl ?_
      refine EJ_iload 42 0 (dk_21 (bt bc_Edict_holds_1 8 rfl) (bt bc_Edict_holds_1 9 rfl)) rfl rfl ?_
      refine EJ_if_lt 70 45 (dk_155 (bt bc_Edict_holds_1 10 rfl) (bt bc_Edict_holds_1 11 rfl) (bt bc_Edict_holds_1 12 rfl) (n := 28) rfl) (by decide) rfl (fun _ => ?_) (fun _ => ?_)
      · refine EJ_iload 72 0 (dk_21 (bt bc_Edict_holds_2 6 rfl) (bt bc_Edict_holds_2 7 rfl)) rfl rfl ?_
        refine EJ_bipush 74 (dk_16 (bt bc_Edict_holds_2 8 rfl) (bt bc_Edict_holds_2 9 rfl) (n := -3) rfl) rfl (v := (-3)) kB_m3 ?_
        refine EJ_icmp_ne 86 77 (dk_160 (bt bc_Edict_holds_2 10 rfl) (bt bc_Edict_holds_2 11 rfl) (bt bc_Edict_holds_2 12 rfl) (n := 12) rfl) (by decide) rfl (fun _ => ?_) (fun _ => ?_)
        · refine EJ_lload 88 4 (dk_22 (bt bc_Edict_holds_2 22 rfl) (bt bc_Edict_holds_2 23 rfl)) rfl rfl ?_
          refine EJ_lconst 89 (dk_10 (bt bc_Edict_holds_2 24 rfl)) rfl (v := 1) (by decide) ?_
          refine EJ_land 90 (dk_127 (bt bc_Edict_holds_2 25 rfl)) rfl ?_
          refine EJ_lstore 92 (lv2 := [(8, .long _), (7, .int _), (0, .ref _), (2, .int _), (3, .ref _), (4, .long _), (6, .int _)]) (dk_55 (bt bc_Edict_holds_2 26 rfl) (bt bc_Edict_holds_2 27 rfl)) rfl (by decide) rfl ?_
          refine EJ_lload 94 5 (dk_22 (bt bc_Edict_holds_2 28 rfl) (bt bc_Edict_holds_2 29 rfl)) rfl rfl ?_
          refine EJ_iconst 95 (dk_4 (bt bc_Edict_holds_2 30 rfl)) rfl (v := 1) kI_1 ?_
          refine EJ_lushr 96 (dk_125 (bt bc_Edict_holds_2 31 rfl)) rfl ?_
          refine EJ_lconst 97 (dk_10 (bt bc_Edict_holds_3 0 rfl)) rfl (v := 1) (by decide) ?_
          refine EJ_land 98 (dk_127 (bt bc_Edict_holds_3 1 rfl)) rfl ?_
          refine EJ_lstore 100 (lv2 := [(10, .long _), (8, .long _), (7, .int _), (0, .ref _), (2, .int _), (3, .ref _), (4, .long _), (6, .int _)]) (dk_55 (bt bc_Edict_holds_3 2 rfl) (bt bc_Edict_holds_3 3 rfl)) rfl (by decide) rfl ?_
          refine EJ_iload 102 2 (dk_21 (bt bc_Edict_holds_3 4 rfl) (bt bc_Edict_holds_3 5 rfl)) rfl rfl ?_
          refine EJ_iconst 103 (dk_2 (bt bc_Edict_holds_3 6 rfl)) rfl (v := (-1)) kI_m1 ?_
          refine EJ_icmp_ne 114 106 (dk_160 (bt bc_Edict_holds_3 7 rfl) (bt bc_Edict_holds_3 8 rfl) (bt bc_Edict_holds_3 9 rfl) (n := 11) rfl) (by decide) rfl (fun _ => ?_) (fun _ => ?_)
          · refine EJ_lload 116 0 (dk_22 (bt bc_Edict_holds_3 18 rfl) (bt bc_Edict_holds_3 19 rfl)) rfl rfl ?_
            refine EJ_lload 118 1 (dk_22 (bt bc_Edict_holds_3 20 rfl) (bt bc_Edict_holds_3 21 rfl)) rfl rfl ?_
            refine EJ_lor 119 (dk_129 (bt bc_Edict_holds_3 22 rfl)) rfl ?_
            exact EJ_pick (lv2 := [(0, .ref _), (2, .int _), (3, .ref _), (4, .long _), (6, .int _)]) [3, 4, 5, 6, 7] rfl (e_Edict_holds_J119 k15 hk15 _ _ _ _ _ _ _)
          · refine EJ_lload 108 0 (dk_22 (bt bc_Edict_holds_3 10 rfl) (bt bc_Edict_holds_3 11 rfl)) rfl rfl ?_
            refine EJ_lload 110 1 (dk_22 (bt bc_Edict_holds_3 12 rfl) (bt bc_Edict_holds_3 13 rfl)) rfl rfl ?_
            refine EJ_land 111 (dk_127 (bt bc_Edict_holds_3 14 rfl)) rfl ?_
            refine EJ_goto 119 (dk_167 (bt bc_Edict_holds_3 15 rfl) (bt bc_Edict_holds_3 16 rfl) (bt bc_Edict_holds_3 17 rfl) (n := 8) rfl) (by decide) ?_
            exact EJ_pick (lv2 := [(0, .ref _), (2, .int _), (3, .ref _), (4, .long _), (6, .int _)]) [3, 4, 5, 6, 7] rfl (e_Edict_holds_J119 k15 hk15 _ _ _ _ _ _ _)
        · refine EJ_lload 79 4 (dk_22 (bt bc_Edict_holds_2 13 rfl) (bt bc_Edict_holds_2 14 rfl)) rfl rfl ?_
          refine EJ_lconst 80 (dk_10 (bt bc_Edict_holds_2 15 rfl)) rfl (v := 1) (by decide) ?_
          refine EJ_lxor 81 (dk_131 (bt bc_Edict_holds_2 16 rfl)) rfl ?_
          refine EJ_lstore 83 (lv2 := [(4, .long _), (7, .int _), (0, .ref _), (2, .int _), (3, .ref _), (6, .int _)]) (dk_55 (bt bc_Edict_holds_2 17 rfl) (bt bc_Edict_holds_2 18 rfl)) rfl (by decide) rfl ?_
          refine EJ_goto 132 (dk_167 (bt bc_Edict_holds_2 19 rfl) (bt bc_Edict_holds_2 20 rfl) (bt bc_Edict_holds_2 21 rfl) (n := 49) rfl) (by decide) ?_
          exact EJ_pick (lv2 := [(0, .ref _), (2, .int _), (3, .ref _), (4, .long _), (6, .int _)]) [2, 3, 4, 0, 5] rfl (e_Edict_holds_J132 k15 hk15 _ _ _ _ _ _)
      · refine EJ_lload 47 4 (dk_22 (bt bc_Edict_holds_1 13 rfl) (bt bc_Edict_holds_1 14 rfl)) rfl rfl ?_
        refine EJ_iconst 48 (dk_4 (bt bc_Edict_holds_1 15 rfl)) rfl (v := 1) kI_1 ?_
        refine EJ_lshl 49 (dk_121 (bt bc_Edict_holds_1 16 rfl)) rfl ?_
        refine EJ_iload 51 0 (dk_21 (bt bc_Edict_holds_1 17 rfl) (bt bc_Edict_holds_1 18 rfl)) rfl rfl ?_
        refine EJ_aload_n 52 3 (dk_45 (bt bc_Edict_holds_1 19 rfl)) rfl rfl ?_
        refine EJ_callSi (Y2 := Y_Edict_isFact) 55 (s_Edict_isFact G _ _ _) rfl (dk_184 (bt bc_Edict_holds_1 20 rfl) (bt bc_Edict_holds_1 21 rfl) (bt bc_Edict_holds_1 22 rfl) (n := 50) rfl) rfl tw_536 tw_537 tw_12 tw_538 hd_Edict_isFact rfl (by decide) (Nat.le_of_ble_eq_true rfl) (fun r12 M13 => ?_)
        refine EJ_if_eq 62 58 (dk_153 (bt bc_Edict_holds_1 23 rfl) (bt bc_Edict_holds_1 24 rfl) (bt bc_Edict_holds_1 25 rfl) (n := 7) rfl) (by decide) rfl (fun _ => ?_) (fun _ => ?_)
        · refine EJ_iconst 63 (dk_3 (bt bc_Edict_holds_1 30 rfl)) rfl (v := 0) kI_0 ?_
          exact EJ_pick (lv2 := [(0, .ref _), (2, .int _), (3, .ref _), (6, .int _)]) [1, 2, 3, 5] rfl (e_Edict_holds_J63 k15 hk15 _ _ _ _ _ _ _)
        · refine EJ_iconst 59 (dk_4 (bt bc_Edict_holds_1 26 rfl)) rfl (v := 1) kI_1 ?_
          refine EJ_goto 63 (dk_167 (bt bc_Edict_holds_1 27 rfl) (bt bc_Edict_holds_1 28 rfl) (bt bc_Edict_holds_1 29 rfl) (n := 4) rfl) (by decide) ?_
          exact EJ_pick (lv2 := [(0, .ref _), (2, .int _), (3, .ref _), (6, .int _)]) [1, 2, 3, 5] rfl (e_Edict_holds_J63 k15 hk15 _ _ _ _ _ _ _)
def Edict_holds_L15 (n : Nat) : Nat → Int32 → Nat → Int64 → Int32 → Mm → Option (Int32 × Mm) :=
  match n with
  | 0 => fun _ _ _ _ _ _ => none
  | n + 1 => Edict_holds_B15 (Edict_holds_L15 n)
theorem e_Edict_holds_L15 {G : Gx} : ∀ (n : Nat) (x0 : Nat) (x2 : Int32) (x3 : Nat) (x4 : Int64) (x6 : Int32) (M : Mm), EJ G Y_Edict_holds cvI 2 15 [(0, .ref x0), (2, .int x2), (3, .ref x3), (4, .long x4), (6, .int x6)] [] M (Edict_holds_L15 n x0 x2 x3 x4 x6 M) := by
  intro n
  induction n with
  | zero => intros; exact EJ_none
  | succ n ih => intro x0 x2 x3 x4 x6 M; exact e_Edict_holds_B15 _ ih x0 x2 x3 x4 x6 M
def Edict_holds_J10 (x0 : Nat) (x1 : Int32) (x2 : Int32) (x3 : Nat) (s0 : Int64) (M : Mm) : Option (Int32 × Mm) :=
  Edict_holds_L15 fu x0 x2 x3 s0 x1 M
set_option maxRecDepth 100000 in
set_option maxHeartbeats 4000000 in
theorem e_Edict_holds_J10 {G : Gx} (x0 : Nat) (x1 : Int32) (x2 : Int32) (x3 : Nat) (s0 : Int64) (M : Mm) : EJ G Y_Edict_holds cvI 2 10 [(0, .ref x0), (1, .int x1), (2, .int x2), (3, .ref x3)] [.long s0] M (Edict_holds_J10 x0 x1 x2 x3 s0 M) := by
  unfold Edict_holds_J10
  refine EJ_lstore 12 (lv2 := [(4, .long _), (0, .ref _), (1, .int _), (2, .int _), (3, .ref _)]) (dk_55 (bt bc_Edict_holds_0 10 rfl) (bt bc_Edict_holds_0 11 rfl)) rfl (by decide) rfl ?_
  refine EJ_iload_n 13 2 (dk_27 (bt bc_Edict_holds_0 12 rfl)) rfl rfl ?_
  refine EJ_istore 15 (lv2 := [(6, .int _), (4, .long _), (0, .ref _), (1, .int _), (2, .int _), (3, .ref _)]) (dk_54 (bt bc_Edict_holds_0 13 rfl) (bt bc_Edict_holds_0 14 rfl)) rfl (by decide) rfl ?_
  exact EJ_pick (lv2 := [(0, .ref _), (2, .int _), (3, .ref _), (4, .long _), (6, .int _)]) [2, 4, 5, 1, 0] rfl (e_Edict_holds_L15 fu _ _ _ _ _ _)
def Edict_holds (M : Mm) (a0 : Nat) (a1 : Int32) (a2 : Int32) (a3 : Nat) : Option (Int32 × Mm) :=
  if a1 = a2 then (
    Edict_holds_J10 a0 a1 a2 a3 1 M)
  else (
    Edict_holds_J10 a0 a1 a2 a3 0 M)
set_option maxRecDepth 100000 in
set_option maxHeartbeats 4000000 in
theorem s_Edict_holds (G : Gx) (M : Mm) (a0 : Nat) (a1 : Int32) (a2 : Int32) (a3 : Nat) : FnS G Y_Edict_holds cvI 2 [.ref a0, .int a1, .int a2, .ref a3] M (Edict_holds M a0 a1 a2 a3) := by
  refine FnS.ofE (by decide) (Nat.le_of_ble_eq_true rfl) ?_
  show EJ G Y_Edict_holds cvI 2 0 [(0, .ref a0), (1, .int a1), (2, .int a2), (3, .ref a3)] [] M _
  unfold Edict_holds
  refine EJ_iload_n 1 1 (dk_27 (bt bc_Edict_holds_0 0 rfl)) rfl rfl ?_
  refine EJ_iload_n 2 2 (dk_28 (bt bc_Edict_holds_0 1 rfl)) rfl rfl ?_
  refine EJ_icmp_ne 9 5 (dk_160 (bt bc_Edict_holds_0 2 rfl) (bt bc_Edict_holds_0 3 rfl) (bt bc_Edict_holds_0 4 rfl) (n := 7) rfl) (by decide) rfl (fun _ => ?_) (fun _ => ?_)
  · refine EJ_lconst 10 (dk_9 (bt bc_Edict_holds_0 9 rfl)) rfl (v := 0) (by decide) ?_
    exact EJ_pick (lv2 := [(0, .ref _), (1, .int _), (2, .int _), (3, .ref _)]) [0, 1, 2, 3] rfl (e_Edict_holds_J10 _ _ _ _ _ _)
  · refine EJ_lconst 6 (dk_10 (bt bc_Edict_holds_0 5 rfl)) rfl (v := 1) (by decide) ?_
    refine EJ_goto 10 (dk_167 (bt bc_Edict_holds_0 6 rfl) (bt bc_Edict_holds_0 7 rfl) (bt bc_Edict_holds_0 8 rfl) (n := 4) rfl) (by decide) ?_
    exact EJ_pick (lv2 := [(0, .ref _), (1, .int _), (2, .int _), (3, .ref _)]) [0, 1, 2, 3] rfl (e_Edict_holds_J10 _ _ _ _ _ _)
abbrev Y_Edict_lastThatHolds : Ym := (⟨"RiceHall$Edict", "lastThatHolds", "(I[I)I"⟩, prog_4_method_2_code, 4, (some FieldType.int))
theorem bc_Edict_lastThatHolds_0 : bts prog_4_method_2_code 0 [42, 180, 0, 30, 190, 4, 100, 62, 29, 155, 0, 51, 42, 180, 0, 30, 29, 46, 27, 160, 0, 35, 42, 29, 154, 0, 7, 3, 167, 0, 11, 42] := bts_of (by decide +kernel)
theorem bc_Edict_lastThatHolds_1 : bts prog_4_method_2_code 32 [180, 0, 38, 29, 4, 100, 46, 42, 180, 0, 38, 29, 46, 44, 182, 0, 46, 153, 0, 5, 29, 172, 132, 3, 255, 167, 255, 207, 2, 172] := bts_of (by decide +kernel)
theorem hd_Edict_lastThatHolds : Y_Edict_lastThatHolds.1.cls = RX2 ∧ Y_Edict_lastThatHolds.1.cls ≠ "java/lang/invoke/MethodHandle" ∧ Y_Edict_lastThatHolds.1.cls ≠ "java/lang/invoke/VarHandle" ∧ (parseMethodDescriptor Y_Edict_lastThatHolds.1.desc).map (fun d => d.parameters.length) = some 2 := by decide +kernel
def Edict_lastThatHolds_J54 (k8 : Nat → Int32 → Nat → Int32 → Mm → Option (Int32 × Mm)) (x0 : Nat) (x1 : Int32) (x2 : Nat) (x3 : Int32) (M : Mm) : Option (Int32 × Mm) :=
  let v8 : Int32 := x3 + (-1)
  k8 x0 x1 x2 v8 M
set_option maxRecDepth 100000 in
set_option maxHeartbeats 4000000 in
theorem e_Edict_lastThatHolds_J54 {G : Gx} (k8 : Nat → Int32 → Nat → Int32 → Mm → Option (Int32 × Mm)) (hk8 : ∀ (x0 : Nat) (x1 : Int32) (x2 : Nat) (x3 : Int32) (M : Mm), EJ G Y_Edict_lastThatHolds cvI 3 8 [(0, .ref x0), (1, .int x1), (2, .ref x2), (3, .int x3)] [] M (k8 x0 x1 x2 x3 M)) (x0 : Nat) (x1 : Int32) (x2 : Nat) (x3 : Int32) (M : Mm) : EJ G Y_Edict_lastThatHolds cvI 3 54 [(0, .ref x0), (1, .int x1), (2, .ref x2), (3, .int x3)] [] M (Edict_lastThatHolds_J54 k8 x0 x1 x2 x3 M) := by
  unfold Edict_lastThatHolds_J54
  refine EJ_iinc 57 3 (lv2 := [(3, .int _), (0, .ref _), (1, .int _), (2, .ref _)]) (dk_132 (bt bc_Edict_lastThatHolds_1 22 rfl) (bt bc_Edict_lastThatHolds_1 23 rfl) (bt bc_Edict_lastThatHolds_1 24 rfl) (n := -1) rfl) rfl (by decide) rfl (v := (-1)) kI_m1 rfl ?_
  refine EJ_goto 8 (dk_167 (bt bc_Edict_lastThatHolds_1 25 rfl) (bt bc_Edict_lastThatHolds_1 26 rfl) (bt bc_Edict_lastThatHolds_1 27 rfl) (n := -49) rfl) (by decide) ?_
  exact EJ_pick (lv2 := [(0, .ref _), (1, .int _), (2, .ref _), (3, .int _)]) [1, 2, 3, 0] rfl (hk8 _ _ _ _ _)
def Edict_lastThatHolds_J39 (k8 : Nat → Int32 → Nat → Int32 → Mm → Option (Int32 × Mm)) (x0 : Nat) (x1 : Int32) (x2 : Nat) (x3 : Int32) (s0 : Int32) (s1 : Nat) (M : Mm) : Option (Int32 × Mm) :=
  ck (kO M x0 2 5) (
  nn (mR M x0 3) (fun b12 =>
  ck (kA M b12 20 x3) (
  ck (kO M s1 2 5) (
  bd (Edict_holds M s1 s0 (mI M b12 (ix x3)) x2) (fun r15 M16 =>
  if r15 = 0 then (
    Edict_lastThatHolds_J54 k8 x0 x1 x2 x3 M16)
  else (
    some (x3, M16)))))))
set_option maxRecDepth 100000 in
set_option maxHeartbeats 4000000 in
theorem e_Edict_lastThatHolds_J39 {G : Gx} (k8 : Nat → Int32 → Nat → Int32 → Mm → Option (Int32 × Mm)) (hk8 : ∀ (x0 : Nat) (x1 : Int32) (x2 : Nat) (x3 : Int32) (M : Mm), EJ G Y_Edict_lastThatHolds cvI 3 8 [(0, .ref x0), (1, .int x1), (2, .ref x2), (3, .int x3)] [] M (k8 x0 x1 x2 x3 M)) (x0 : Nat) (x1 : Int32) (x2 : Nat) (x3 : Int32) (s0 : Int32) (s1 : Nat) (M : Mm) : EJ G Y_Edict_lastThatHolds cvI 3 39 [(0, .ref x0), (1, .int x1), (2, .ref x2), (3, .int x3)] [.int s0, .ref s1] M (Edict_lastThatHolds_J39 k8 x0 x1 x2 x3 s0 s1 M) := by
  unfold Edict_lastThatHolds_J39
  refine EJ_aload_n 40 0 (dk_42 (bt bc_Edict_lastThatHolds_1 7 rfl)) rfl rfl ?_
  refine EJ_ck (fun h11 => ?_)
  refine EJ_getR cf2 3 (by decide) 43 tw_781 (fun _ _ _ => rfl) (dk_180 (bt bc_Edict_lastThatHolds_1 8 rfl) (bt bc_Edict_lastThatHolds_1 9 rfl) (bt bc_Edict_lastThatHolds_1 10 rfl) (n := 38) rfl) rfl (of_decide_eq_true h11) (fun b12 => ?_)
  refine EJ_iload_n 44 3 (dk_29 (bt bc_Edict_lastThatHolds_1 11 rfl)) rfl rfl ?_
  refine EJ_ck (fun h13 => ?_)
  refine EJ_iald 45 h13 (dk_46 (bt bc_Edict_lastThatHolds_1 12 rfl)) rfl ?_
  refine EJ_aload_n 46 2 (dk_44 (bt bc_Edict_lastThatHolds_1 13 rfl)) rfl rfl ?_
  refine EJ_ck (fun h14 => ?_)
  refine EJ_callVi (Y2 := Y_Edict_holds) 49 cf2 (s_Edict_holds G _ _ _ _ _) (of_decide_eq_true h14) rfl (dk_182 (bt bc_Edict_lastThatHolds_1 14 rfl) (bt bc_Edict_lastThatHolds_1 15 rfl) (bt bc_Edict_lastThatHolds_1 16 rfl) (n := 46) rfl) rfl tw_531 tw_533 ts_12 tw_535 hd_Edict_holds rfl (by decide) (Nat.le_of_ble_eq_true rfl) (fun r15 M16 => ?_)
  refine EJ_if_eq 54 52 (dk_153 (bt bc_Edict_lastThatHolds_1 17 rfl) (bt bc_Edict_lastThatHolds_1 18 rfl) (bt bc_Edict_lastThatHolds_1 19 rfl) (n := 5) rfl) (by decide) rfl (fun _ => ?_) (fun _ => ?_)
  · exact EJ_pick (lv2 := [(0, .ref _), (1, .int _), (2, .ref _), (3, .int _)]) [0, 1, 2, 3] rfl (e_Edict_lastThatHolds_J54 k8 hk8 _ _ _ _ _)
  · refine EJ_iload_n 53 3 (dk_29 (bt bc_Edict_lastThatHolds_1 20 rfl)) rfl rfl ?_
    exact EJ_iret rfl (dk_172 (bt bc_Edict_lastThatHolds_1 21 rfl))
def Edict_lastThatHolds_B8 (k8 : Nat → Int32 → Nat → Int32 → Mm → Option (Int32 × Mm)) (x0 : Nat) (x1 : Int32) (x2 : Nat) (x3 : Int32) (M : Mm) : Option (Int32 × Mm) :=
  if x3 < 0 then (
    some ((-1), M))
  else (
    ck (kO M x0 2 5) (
    nn (mR M x0 1) (fun b6 =>
    ck (kA M b6 20 x3) (
    if (mI M b6 (ix x3)) = x1 then (
      if x3 = 0 then (
        Edict_lastThatHolds_J39 k8 x0 x1 x2 x3 0 x0 M)
      else (
        nn (mR M x0 3) (fun b9 =>
        ck (kA M b9 20 (x3 - 1)) (
        Edict_lastThatHolds_J39 k8 x0 x1 x2 x3 (mI M b9 (ix (x3 - 1))) x0 M))))
    else (
      Edict_lastThatHolds_J54 k8 x0 x1 x2 x3 M)))))
set_option maxRecDepth 100000 in
set_option maxHeartbeats 4000000 in
theorem e_Edict_lastThatHolds_B8 {G : Gx} (k8 : Nat → Int32 → Nat → Int32 → Mm → Option (Int32 × Mm)) (hk8 : ∀ (x0 : Nat) (x1 : Int32) (x2 : Nat) (x3 : Int32) (M : Mm), EJ G Y_Edict_lastThatHolds cvI 3 8 [(0, .ref x0), (1, .int x1), (2, .ref x2), (3, .int x3)] [] M (k8 x0 x1 x2 x3 M)) (x0 : Nat) (x1 : Int32) (x2 : Nat) (x3 : Int32) (M : Mm) : EJ G Y_Edict_lastThatHolds cvI 3 8 [(0, .ref x0), (1, .int x1), (2, .ref x2), (3, .int x3)] [] M (Edict_lastThatHolds_B8 k8 x0 x1 x2 x3 M) := by
  unfold Edict_lastThatHolds_B8
  refine EJ_iload_n 9 3 (dk_29 (bt bc_Edict_lastThatHolds_0 8 rfl)) rfl rfl ?_
  refine EJ_if_lt 60 12 (dk_155 (bt bc_Edict_lastThatHolds_0 9 rfl) (bt bc_Edict_lastThatHolds_0 10 rfl) (bt bc_Edict_lastThatHolds_0 11 rfl) (n := 51) rfl) (by decide) rfl (fun _ => ?_) (fun _ => ?_)
  · refine EJ_iconst 61 (dk_2 (bt bc_Edict_lastThatHolds_1 28 rfl)) rfl (v := (-1)) kI_m1 ?_
    exact EJ_iret rfl (dk_172 (bt bc_Edict_lastThatHolds_1 29 rfl))
  · refine EJ_aload_n 13 0 (dk_42 (bt bc_Edict_lastThatHolds_0 12 rfl)) rfl rfl ?_
    refine EJ_ck (fun h5 => ?_)
    refine EJ_getR cf2 1 (by decide) 16 tw_778 (fun _ _ _ => rfl) (dk_180 (bt bc_Edict_lastThatHolds_0 13 rfl) (bt bc_Edict_lastThatHolds_0 14 rfl) (bt bc_Edict_lastThatHolds_0 15 rfl) (n := 30) rfl) rfl (of_decide_eq_true h5) (fun b6 => ?_)
    refine EJ_iload_n 17 3 (dk_29 (bt bc_Edict_lastThatHolds_0 16 rfl)) rfl rfl ?_
    refine EJ_ck (fun h7 => ?_)
    refine EJ_iald 18 h7 (dk_46 (bt bc_Edict_lastThatHolds_0 17 rfl)) rfl ?_
    refine EJ_iload_n 19 1 (dk_27 (bt bc_Edict_lastThatHolds_0 18 rfl)) rfl rfl ?_
    refine EJ_icmp_ne 54 22 (dk_160 (bt bc_Edict_lastThatHolds_0 19 rfl) (bt bc_Edict_lastThatHolds_0 20 rfl) (bt bc_Edict_lastThatHolds_0 21 rfl) (n := 35) rfl) (by decide) rfl (fun _ => ?_) (fun _ => ?_)
    · exact EJ_pick (lv2 := [(0, .ref _), (1, .int _), (2, .ref _), (3, .int _)]) [0, 1, 2, 3] rfl (e_Edict_lastThatHolds_J54 k8 hk8 _ _ _ _ _)
    · refine EJ_aload_n 23 0 (dk_42 (bt bc_Edict_lastThatHolds_0 22 rfl)) rfl rfl ?_
      refine EJ_iload_n 24 3 (dk_29 (bt bc_Edict_lastThatHolds_0 23 rfl)) rfl rfl ?_
      refine EJ_if_ne 31 27 (dk_154 (bt bc_Edict_lastThatHolds_0 24 rfl) (bt bc_Edict_lastThatHolds_0 25 rfl) (bt bc_Edict_lastThatHolds_0 26 rfl) (n := 7) rfl) (by decide) rfl (fun _ => ?_) (fun _ => ?_)
      · refine EJ_aload_n 32 0 (dk_42 (bt bc_Edict_lastThatHolds_0 31 rfl)) rfl rfl ?_
        refine EJ_getR cf2 3 (by decide) 35 tw_781 (fun _ _ _ => rfl) (dk_180 (bt bc_Edict_lastThatHolds_1 0 rfl) (bt bc_Edict_lastThatHolds_1 1 rfl) (bt bc_Edict_lastThatHolds_1 2 rfl) (n := 38) rfl) rfl (of_decide_eq_true h5) (fun b9 => ?_)
        refine EJ_iload_n 36 3 (dk_29 (bt bc_Edict_lastThatHolds_1 3 rfl)) rfl rfl ?_
        refine EJ_iconst 37 (dk_4 (bt bc_Edict_lastThatHolds_1 4 rfl)) rfl (v := 1) kI_1 ?_
        refine EJ_isub 38 (dk_100 (bt bc_Edict_lastThatHolds_1 5 rfl)) rfl ?_
        refine EJ_ck (fun h10 => ?_)
        refine EJ_iald 39 h10 (dk_46 (bt bc_Edict_lastThatHolds_1 6 rfl)) rfl ?_
        exact EJ_pick (lv2 := [(0, .ref _), (1, .int _), (2, .ref _), (3, .int _)]) [0, 1, 2, 3] rfl (e_Edict_lastThatHolds_J39 k8 hk8 _ _ _ _ _ _ _)
      · refine EJ_iconst 28 (dk_3 (bt bc_Edict_lastThatHolds_0 27 rfl)) rfl (v := 0) kI_0 ?_
        refine EJ_goto 39 (dk_167 (bt bc_Edict_lastThatHolds_0 28 rfl) (bt bc_Edict_lastThatHolds_0 29 rfl) (bt bc_Edict_lastThatHolds_0 30 rfl) (n := 11) rfl) (by decide) ?_
        exact EJ_pick (lv2 := [(0, .ref _), (1, .int _), (2, .ref _), (3, .int _)]) [0, 1, 2, 3] rfl (e_Edict_lastThatHolds_J39 k8 hk8 _ _ _ _ _ _ _)
def Edict_lastThatHolds_L8 (n : Nat) : Nat → Int32 → Nat → Int32 → Mm → Option (Int32 × Mm) :=
  match n with
  | 0 => fun _ _ _ _ _ => none
  | n + 1 => Edict_lastThatHolds_B8 (Edict_lastThatHolds_L8 n)
theorem e_Edict_lastThatHolds_L8 {G : Gx} : ∀ (n : Nat) (x0 : Nat) (x1 : Int32) (x2 : Nat) (x3 : Int32) (M : Mm), EJ G Y_Edict_lastThatHolds cvI 3 8 [(0, .ref x0), (1, .int x1), (2, .ref x2), (3, .int x3)] [] M (Edict_lastThatHolds_L8 n x0 x1 x2 x3 M) := by
  intro n
  induction n with
  | zero => intros; exact EJ_none
  | succ n ih => intro x0 x1 x2 x3 M; exact e_Edict_lastThatHolds_B8 _ ih x0 x1 x2 x3 M
def Edict_lastThatHolds (M : Mm) (a0 : Nat) (a1 : Int32) (a2 : Nat) : Option (Int32 × Mm) :=
  ck (kO M a0 2 5) (
  nn (mR M a0 1) (fun b2 =>
  ck (kT M b2 20) (
  let v4 : Int32 := (ln M b2) - 1
  Edict_lastThatHolds_L8 fu a0 a1 a2 v4 M)))
set_option maxRecDepth 100000 in
set_option maxHeartbeats 4000000 in
theorem s_Edict_lastThatHolds (G : Gx) (M : Mm) (a0 : Nat) (a1 : Int32) (a2 : Nat) : FnS G Y_Edict_lastThatHolds cvI 3 [.ref a0, .int a1, .ref a2] M (Edict_lastThatHolds M a0 a1 a2) := by
  refine FnS.ofE (by decide) (Nat.le_of_ble_eq_true rfl) ?_
  show EJ G Y_Edict_lastThatHolds cvI 3 0 [(0, .ref a0), (1, .int a1), (2, .ref a2)] [] M _
  unfold Edict_lastThatHolds
  refine EJ_aload_n 1 0 (dk_42 (bt bc_Edict_lastThatHolds_0 0 rfl)) rfl rfl ?_
  refine EJ_ck (fun h1 => ?_)
  refine EJ_getR cf2 1 (by decide) 4 tw_778 (fun _ _ _ => rfl) (dk_180 (bt bc_Edict_lastThatHolds_0 1 rfl) (bt bc_Edict_lastThatHolds_0 2 rfl) (bt bc_Edict_lastThatHolds_0 3 rfl) (n := 30) rfl) rfl (of_decide_eq_true h1) (fun b2 => ?_)
  refine EJ_ck (fun h3 => ?_)
  refine EJ_alen 0 5 (by decide) h3 (dk_190 (bt bc_Edict_lastThatHolds_0 4 rfl)) rfl ?_
  refine EJ_iconst 6 (dk_4 (bt bc_Edict_lastThatHolds_0 5 rfl)) rfl (v := 1) kI_1 ?_
  refine EJ_isub 7 (dk_100 (bt bc_Edict_lastThatHolds_0 6 rfl)) rfl ?_
  refine EJ_istore_n 8 (lv2 := [(3, .int _), (0, .ref _), (1, .int _), (2, .ref _)]) (dk_62 (bt bc_Edict_lastThatHolds_0 7 rfl)) rfl (by decide) rfl ?_
  exact EJ_pick (lv2 := [(0, .ref _), (1, .int _), (2, .ref _), (3, .int _)]) [1, 2, 3, 0] rfl (e_Edict_lastThatHolds_L8 fu _ _ _ _ _)
abbrev Y_Edict_new : Ym := (⟨"RiceHall$Edict", "<init>", "(LRiceHall$Scribe;I)V"⟩, prog_4_method_1_code, 3, none)
theorem bc_Edict_new_0 : bts prog_4_method_1_code 0 [42, 183, 0, 3, 42, 28, 181, 0, 9, 42, 43, 180, 0, 15, 43, 180, 0, 21, 184, 0, 24, 181, 0, 30, 42, 43, 180, 0, 31, 43, 180, 0] := bts_of (by decide +kernel)
theorem bc_Edict_new_1 : bts prog_4_method_1_code 32 [21, 184, 0, 24, 181, 0, 34, 42, 43, 180, 0, 35, 43, 180, 0, 21, 184, 0, 24, 181, 0, 38, 42, 43, 180, 0, 39, 43, 180, 0, 42, 184] := bts_of (by decide +kernel)
theorem bc_Edict_new_2 : bts prog_4_method_1_code 64 [0, 24, 181, 0, 45, 177] := bts_of (by decide +kernel)
theorem hd_Edict_new : Y_Edict_new.1.cls ≠ "java/lang/invoke/MethodHandle" ∧ Y_Edict_new.1.cls ≠ "java/lang/invoke/VarHandle" ∧ (parseMethodDescriptor Y_Edict_new.1.desc).map (fun d => d.parameters.length) = some 2 := by decide +kernel
def Edict_new (M : Mm) (a0 : Nat) (a1 : Nat) (a2 : Int32) : Option (Unit × Mm) :=
  ck (kO M a0 2 5) (
  let M2 := sI M a0 0 a2
  ck (kO M2 a1 8 11) (
  nn (mR M2 a1 0) (fun b4 =>
  bd (Arr_copyOf M2 b4 (mI M2 a1 4)) (fun r5 M6 =>
  ck (kO M6 a0 2 5) (
  let M8 := sR M6 a0 1 (some r5)
  ck (kO M8 a1 8 11) (
  nn (mR M8 a1 1) (fun b10 =>
  bd (Arr_copyOf M8 b10 (mI M8 a1 4)) (fun r11 M12 =>
  ck (kO M12 a0 2 5) (
  let M14 := sR M12 a0 2 (some r11)
  ck (kO M14 a1 8 11) (
  nn (mR M14 a1 2) (fun b16 =>
  bd (Arr_copyOf M14 b16 (mI M14 a1 4)) (fun r17 M18 =>
  ck (kO M18 a0 2 5) (
  let M20 := sR M18 a0 3 (some r17)
  ck (kO M20 a1 8 11) (
  nn (mR M20 a1 3) (fun b22 =>
  bd (Arr_copyOf M20 b22 (mI M20 a1 5)) (fun r23 M24 =>
  ck (kO M24 a0 2 5) (
  let M26 := sR M24 a0 4 (some r23)
  some ((), M26))))))))))))))))))
set_option maxRecDepth 100000 in
set_option maxHeartbeats 4000000 in
theorem s_Edict_new (G : Gx) (M : Mm) (a0 : Nat) (a1 : Nat) (a2 : Int32) : FnS G Y_Edict_new cvV 4 [.ref a0, .ref a1, .int a2] M (Edict_new M a0 a1 a2) := by
  refine FnS.ofE (by decide) (Nat.le_of_ble_eq_true rfl) ?_
  show EJ G Y_Edict_new cvV 4 0 [(0, .ref a0), (1, .ref a1), (2, .int a2)] [] M _
  unfold Edict_new
  refine EJ_aload_n 1 0 (dk_42 (bt bc_Edict_new_0 0 rfl)) rfl rfl ?_
  refine EJ_obj 4 (dk_183 (bt bc_Edict_new_0 1 rfl) (bt bc_Edict_new_0 2 rfl) (bt bc_Edict_new_0 3 rfl) (n := 3) rfl) rfl tw_761 tw_27 tw_28 (by decide) (Nat.le_of_ble_eq_true rfl) ?_
  refine EJ_aload_n 5 0 (dk_42 (bt bc_Edict_new_0 4 rfl)) rfl rfl ?_
  refine EJ_iload_n 6 2 (dk_28 (bt bc_Edict_new_0 5 rfl)) rfl rfl ?_
  refine EJ_ck (fun h1 => ?_)
  refine EJ_putI cf2 0 (by decide) 9 tw_776 rfl (Or.inr ⟨rfl, rfl⟩) (dk_181 (bt bc_Edict_new_0 6 rfl) (bt bc_Edict_new_0 7 rfl) (bt bc_Edict_new_0 8 rfl) (n := 9) rfl) rfl (of_decide_eq_true h1) ?_
  refine EJ_aload_n 10 0 (dk_42 (bt bc_Edict_new_0 9 rfl)) rfl rfl ?_
  refine EJ_aload_n 11 1 (dk_43 (bt bc_Edict_new_0 10 rfl)) rfl rfl ?_
  refine EJ_ck (fun h3 => ?_)
  refine EJ_getR cf8 0 (by decide) 14 tw_80 (fun _ _ _ => rfl) (dk_180 (bt bc_Edict_new_0 11 rfl) (bt bc_Edict_new_0 12 rfl) (bt bc_Edict_new_0 13 rfl) (n := 15) rfl) rfl (of_decide_eq_true h3) (fun b4 => ?_)
  refine EJ_aload_n 15 1 (dk_43 (bt bc_Edict_new_0 14 rfl)) rfl rfl ?_
  refine EJ_getI cf8 4 (by decide) 18 tw_87 (fun _ _ _ => rfl) (dk_180 (bt bc_Edict_new_0 15 rfl) (bt bc_Edict_new_0 16 rfl) (bt bc_Edict_new_0 17 rfl) (n := 21) rfl) rfl (of_decide_eq_true h3) ?_
  refine EJ_callSr (Y2 := Y_Arr_copyOf) 21 (s_Arr_copyOf G _ _ _) rfl (dk_184 (bt bc_Edict_new_0 18 rfl) (bt bc_Edict_new_0 19 rfl) (bt bc_Edict_new_0 20 rfl) (n := 24) rfl) rfl tw_762 tw_763 tw_3 tw_764 hd_Arr_copyOf rfl (by decide) (Nat.le_of_ble_eq_true rfl) (fun r5 M6 => ?_)
  refine EJ_ck (fun h7 => ?_)
  refine EJ_putR cf2 1 (by decide) 24 tw_778 (fun _ _ _ => rfl) (fun _ => rfl) (fun _ => rfl) (Or.inr ⟨rfl, rfl⟩) (dk_181 (bt bc_Edict_new_0 21 rfl) (bt bc_Edict_new_0 22 rfl) (bt bc_Edict_new_0 23 rfl) (n := 30) rfl) rfl (of_decide_eq_true h7) ?_
  refine EJ_aload_n 25 0 (dk_42 (bt bc_Edict_new_0 24 rfl)) rfl rfl ?_
  refine EJ_aload_n 26 1 (dk_43 (bt bc_Edict_new_0 25 rfl)) rfl rfl ?_
  refine EJ_ck (fun h9 => ?_)
  refine EJ_getR cf8 1 (by decide) 29 tw_82 (fun _ _ _ => rfl) (dk_180 (bt bc_Edict_new_0 26 rfl) (bt bc_Edict_new_0 27 rfl) (bt bc_Edict_new_0 28 rfl) (n := 31) rfl) rfl (of_decide_eq_true h9) (fun b10 => ?_)
  refine EJ_aload_n 30 1 (dk_43 (bt bc_Edict_new_0 29 rfl)) rfl rfl ?_
  refine EJ_getI cf8 4 (by decide) 33 tw_87 (fun _ _ _ => rfl) (dk_180 (bt bc_Edict_new_0 30 rfl) (bt bc_Edict_new_0 31 rfl) (bt bc_Edict_new_1 0 rfl) (n := 21) rfl) rfl (of_decide_eq_true h9) ?_
  refine EJ_callSr (Y2 := Y_Arr_copyOf) 36 (s_Arr_copyOf G _ _ _) rfl (dk_184 (bt bc_Edict_new_1 1 rfl) (bt bc_Edict_new_1 2 rfl) (bt bc_Edict_new_1 3 rfl) (n := 24) rfl) rfl tw_762 tw_763 tw_3 tw_764 hd_Arr_copyOf rfl (by decide) (Nat.le_of_ble_eq_true rfl) (fun r11 M12 => ?_)
  refine EJ_ck (fun h13 => ?_)
  refine EJ_putR cf2 2 (by decide) 39 tw_779 (fun _ _ _ => rfl) (fun _ => rfl) (fun _ => rfl) (Or.inr ⟨rfl, rfl⟩) (dk_181 (bt bc_Edict_new_1 4 rfl) (bt bc_Edict_new_1 5 rfl) (bt bc_Edict_new_1 6 rfl) (n := 34) rfl) rfl (of_decide_eq_true h13) ?_
  refine EJ_aload_n 40 0 (dk_42 (bt bc_Edict_new_1 7 rfl)) rfl rfl ?_
  refine EJ_aload_n 41 1 (dk_43 (bt bc_Edict_new_1 8 rfl)) rfl rfl ?_
  refine EJ_ck (fun h15 => ?_)
  refine EJ_getR cf8 2 (by decide) 44 tw_84 (fun _ _ _ => rfl) (dk_180 (bt bc_Edict_new_1 9 rfl) (bt bc_Edict_new_1 10 rfl) (bt bc_Edict_new_1 11 rfl) (n := 35) rfl) rfl (of_decide_eq_true h15) (fun b16 => ?_)
  refine EJ_aload_n 45 1 (dk_43 (bt bc_Edict_new_1 12 rfl)) rfl rfl ?_
  refine EJ_getI cf8 4 (by decide) 48 tw_87 (fun _ _ _ => rfl) (dk_180 (bt bc_Edict_new_1 13 rfl) (bt bc_Edict_new_1 14 rfl) (bt bc_Edict_new_1 15 rfl) (n := 21) rfl) rfl (of_decide_eq_true h15) ?_
  refine EJ_callSr (Y2 := Y_Arr_copyOf) 51 (s_Arr_copyOf G _ _ _) rfl (dk_184 (bt bc_Edict_new_1 16 rfl) (bt bc_Edict_new_1 17 rfl) (bt bc_Edict_new_1 18 rfl) (n := 24) rfl) rfl tw_762 tw_763 tw_3 tw_764 hd_Arr_copyOf rfl (by decide) (Nat.le_of_ble_eq_true rfl) (fun r17 M18 => ?_)
  refine EJ_ck (fun h19 => ?_)
  refine EJ_putR cf2 3 (by decide) 54 tw_781 (fun _ _ _ => rfl) (fun _ => rfl) (fun _ => rfl) (Or.inr ⟨rfl, rfl⟩) (dk_181 (bt bc_Edict_new_1 19 rfl) (bt bc_Edict_new_1 20 rfl) (bt bc_Edict_new_1 21 rfl) (n := 38) rfl) rfl (of_decide_eq_true h19) ?_
  refine EJ_aload_n 55 0 (dk_42 (bt bc_Edict_new_1 22 rfl)) rfl rfl ?_
  refine EJ_aload_n 56 1 (dk_43 (bt bc_Edict_new_1 23 rfl)) rfl rfl ?_
  refine EJ_ck (fun h21 => ?_)
  refine EJ_getR cf8 3 (by decide) 59 tw_86 (fun _ _ _ => rfl) (dk_180 (bt bc_Edict_new_1 24 rfl) (bt bc_Edict_new_1 25 rfl) (bt bc_Edict_new_1 26 rfl) (n := 39) rfl) rfl (of_decide_eq_true h21) (fun b22 => ?_)
  refine EJ_aload_n 60 1 (dk_43 (bt bc_Edict_new_1 27 rfl)) rfl rfl ?_
  refine EJ_getI cf8 5 (by decide) 63 tw_89 (fun _ _ _ => rfl) (dk_180 (bt bc_Edict_new_1 28 rfl) (bt bc_Edict_new_1 29 rfl) (bt bc_Edict_new_1 30 rfl) (n := 42) rfl) rfl (of_decide_eq_true h21) ?_
  refine EJ_callSr (Y2 := Y_Arr_copyOf) 66 (s_Arr_copyOf G _ _ _) rfl (dk_184 (bt bc_Edict_new_1 31 rfl) (bt bc_Edict_new_2 0 rfl) (bt bc_Edict_new_2 1 rfl) (n := 24) rfl) rfl tw_762 tw_763 tw_3 tw_764 hd_Arr_copyOf rfl (by decide) (Nat.le_of_ble_eq_true rfl) (fun r23 M24 => ?_)
  refine EJ_ck (fun h25 => ?_)
  refine EJ_putR cf2 4 (by decide) 69 tw_782 (fun _ _ _ => rfl) (fun _ => rfl) (fun _ => rfl) (Or.inr ⟨rfl, rfl⟩) (dk_181 (bt bc_Edict_new_2 2 rfl) (bt bc_Edict_new_2 3 rfl) (bt bc_Edict_new_2 4 rfl) (n := 45) rfl) rfl (of_decide_eq_true h25) ?_
  exact EJ_vret rfl (dk_177 (bt bc_Edict_new_2 5 rfl))
abbrev Y_Person_new : Ym := (⟨"RiceHall$Person", "<init>", "(I)V"⟩, prog_8_method_1_code, 2, none)
theorem bc_Person_new_0 : bts prog_8_method_1_code 0 [42, 183, 0, 3, 42, 27, 181, 0, 9, 42, 7, 188, 10, 181, 0, 15, 42, 16, 16, 188, 10, 181, 0, 19, 42, 2, 181, 0, 22, 177] := bts_of (by decide +kernel)
theorem hd_Person_new : Y_Person_new.1.cls ≠ "java/lang/invoke/MethodHandle" ∧ Y_Person_new.1.cls ≠ "java/lang/invoke/VarHandle" ∧ (parseMethodDescriptor Y_Person_new.1.desc).map (fun d => d.parameters.length) = some 1 := by decide +kernel
def Person_new (M : Mm) (a0 : Nat) (a1 : Int32) : Option (Unit × Mm) :=
  ck (kO M a0 6 9) (
  let M2 := sI M a0 0 a1
  let M3 := nw M2 20 4
  ck (kO M3 a0 6 9) (
  let M5 := sR M3 a0 1 (some (mZ M2))
  let M6 := nw M5 20 16
  ck (kO M6 a0 6 9) (
  let M8 := sR M6 a0 2 (some (mZ M5))
  let M9 := sI M8 a0 6 (-1)
  some ((), M9))))
set_option maxRecDepth 100000 in
set_option maxHeartbeats 4000000 in
theorem s_Person_new (G : Gx) (M : Mm) (a0 : Nat) (a1 : Int32) : FnS G Y_Person_new cvV 1 [.ref a0, .int a1] M (Person_new M a0 a1) := by
  refine FnS.ofE (by decide) (Nat.le_of_ble_eq_true rfl) ?_
  show EJ G Y_Person_new cvV 1 0 [(0, .ref a0), (1, .int a1)] [] M _
  unfold Person_new
  refine EJ_aload_n 1 0 (dk_42 (bt bc_Person_new_0 0 rfl)) rfl rfl ?_
  refine EJ_obj 4 (dk_183 (bt bc_Person_new_0 1 rfl) (bt bc_Person_new_0 2 rfl) (bt bc_Person_new_0 3 rfl) (n := 3) rfl) rfl tw_336 tw_27 tw_28 (by decide) (Nat.le_of_ble_eq_true rfl) ?_
  refine EJ_aload_n 5 0 (dk_42 (bt bc_Person_new_0 4 rfl)) rfl rfl ?_
  refine EJ_iload_n 6 1 (dk_27 (bt bc_Person_new_0 5 rfl)) rfl rfl ?_
  refine EJ_ck (fun h1 => ?_)
  refine EJ_putI cf6 0 (by decide) 9 tw_337 rfl (Or.inr ⟨rfl, rfl⟩) (dk_181 (bt bc_Person_new_0 6 rfl) (bt bc_Person_new_0 7 rfl) (bt bc_Person_new_0 8 rfl) (n := 9) rfl) rfl (of_decide_eq_true h1) ?_
  refine EJ_aload_n 10 0 (dk_42 (bt bc_Person_new_0 9 rfl)) rfl rfl ?_
  refine EJ_iconst 11 (dk_7 (bt bc_Person_new_0 10 rfl)) rfl (v := 4) kI_4 ?_
  refine EJ_newa' 0 13 (c := 20) (N := 4) (by decide) rfl tw_61 rfl (by decide) (by decide) (dk_188_10 (bt bc_Person_new_0 11 rfl) (bt bc_Person_new_0 12 rfl)) rfl ?_
  refine EJ_ck (fun h4 => ?_)
  refine EJ_putR cf6 1 (by decide) 16 tw_339 (fun _ _ _ => rfl) (fun _ => rfl) (fun _ => rfl) (Or.inr ⟨rfl, rfl⟩) (dk_181 (bt bc_Person_new_0 13 rfl) (bt bc_Person_new_0 14 rfl) (bt bc_Person_new_0 15 rfl) (n := 15) rfl) rfl (of_decide_eq_true h4) ?_
  refine EJ_aload_n 17 0 (dk_42 (bt bc_Person_new_0 16 rfl)) rfl rfl ?_
  refine EJ_bipush 19 (dk_16 (bt bc_Person_new_0 17 rfl) (bt bc_Person_new_0 18 rfl) (n := 16) rfl) rfl (v := 16) kB_16 ?_
  refine EJ_newa' 0 21 (c := 20) (N := 16) (by decide) rfl tw_61 rfl (by decide) (by decide) (dk_188_10 (bt bc_Person_new_0 19 rfl) (bt bc_Person_new_0 20 rfl)) rfl ?_
  refine EJ_ck (fun h7 => ?_)
  refine EJ_putR cf6 2 (by decide) 24 tw_342 (fun _ _ _ => rfl) (fun _ => rfl) (fun _ => rfl) (Or.inr ⟨rfl, rfl⟩) (dk_181 (bt bc_Person_new_0 21 rfl) (bt bc_Person_new_0 22 rfl) (bt bc_Person_new_0 23 rfl) (n := 19) rfl) rfl (of_decide_eq_true h7) ?_
  refine EJ_aload_n 25 0 (dk_42 (bt bc_Person_new_0 24 rfl)) rfl rfl ?_
  refine EJ_iconst 26 (dk_2 (bt bc_Person_new_0 25 rfl)) rfl (v := (-1)) kI_m1 ?_
  refine EJ_putI cf6 6 (by decide) 29 tw_353 rfl (Or.inl rfl) (dk_181 (bt bc_Person_new_0 26 rfl) (bt bc_Person_new_0 27 rfl) (bt bc_Person_new_0 28 rfl) (n := 22) rfl) rfl (kp_R (of_decide_eq_true h7)) ?_
  exact EJ_vret rfl (dk_177 (bt bc_Person_new_0 29 rfl))
abbrev Y_Person_need : Ym := (⟨"RiceHall$Person", "need", "(I)J"⟩, prog_8_method_2_code, 2, (some FieldType.long))
theorem bc_Person_need_0 : bts prog_8_method_2_code 0 [27, 133, 42, 180, 0, 25, 184, 0, 28, 133, 105, 173] := bts_of (by decide +kernel)
theorem hd_Person_need : Y_Person_need.1.cls = RX6 ∧ Y_Person_need.1.cls ≠ "java/lang/invoke/MethodHandle" ∧ Y_Person_need.1.cls ≠ "java/lang/invoke/VarHandle" ∧ (parseMethodDescriptor Y_Person_need.1.desc).map (fun d => d.parameters.length) = some 1 := by decide +kernel
def Person_need (M : Mm) (a0 : Nat) (a1 : Int32) : Option (Int64 × Mm) :=
  ck (kO M a0 6 9) (
  bd (Math_abs_I M (mI M a0 4)) (fun r2 M3 =>
  some ((Int32.toInt64 a1) * (Int32.toInt64 r2), M3)))
set_option maxRecDepth 100000 in
set_option maxHeartbeats 4000000 in
theorem s_Person_need (G : Gx) (M : Mm) (a0 : Nat) (a1 : Int32) : FnS G Y_Person_need cvL 2 [.ref a0, .int a1] M (Person_need M a0 a1) := by
  refine FnS.ofE (by decide) (Nat.le_of_ble_eq_true rfl) ?_
  show EJ G Y_Person_need cvL 2 0 [(0, .ref a0), (1, .int a1)] [] M _
  unfold Person_need
  refine EJ_iload_n 1 1 (dk_27 (bt bc_Person_need_0 0 rfl)) rfl rfl ?_
  refine EJ_i2l 2 (dk_133 (bt bc_Person_need_0 1 rfl)) rfl ?_
  refine EJ_aload_n 3 0 (dk_42 (bt bc_Person_need_0 2 rfl)) rfl rfl ?_
  refine EJ_ck (fun h1 => ?_)
  refine EJ_getI cf6 4 (by decide) 6 tw_348 (fun _ _ _ => rfl) (dk_180 (bt bc_Person_need_0 3 rfl) (bt bc_Person_need_0 4 rfl) (bt bc_Person_need_0 5 rfl) (n := 25) rfl) rfl (of_decide_eq_true h1) ?_
  refine EJ_callSi (Y2 := Y_Math_abs_I) 9 (s_Math_abs_I G _ _) rfl (dk_184 (bt bc_Person_need_0 6 rfl) (bt bc_Person_need_0 7 rfl) (bt bc_Person_need_0 8 rfl) (n := 28) rfl) rfl tw_587 tw_588 tw_9 tw_589 hd_Math_abs_I rfl (by decide) (Nat.le_of_ble_eq_true rfl) (fun r2 M3 => ?_)
  refine EJ_i2l 10 (dk_133 (bt bc_Person_need_0 9 rfl)) rfl ?_
  refine EJ_lmul 11 (dk_105 (bt bc_Person_need_0 10 rfl)) rfl ?_
  exact EJ_lret rfl (dk_173 (bt bc_Person_need_0 11 rfl))
abbrev Y_Scribe_take : Ym := (⟨"RiceHall$Scribe", "take", "(I)Z"⟩, prog_10_method_12_code, 2, (some FieldType.boolean))
theorem bc_Scribe_take_0 : bts prog_10_method_12_code 0 [42, 180, 0, 43, 42, 180, 0, 40, 162, 0, 16, 42, 180, 0, 24, 42, 180, 0, 43, 46, 27, 159, 0, 5, 3, 172, 42, 89, 180, 0, 43, 4] := bts_of (by decide +kernel)
theorem bc_Scribe_take_1 : bts prog_10_method_12_code 32 [96, 181, 0, 43, 4, 172] := bts_of (by decide +kernel)
theorem hd_Scribe_take : Y_Scribe_take.1.cls = RX8 ∧ Y_Scribe_take.1.cls ≠ "java/lang/invoke/MethodHandle" ∧ Y_Scribe_take.1.cls ≠ "java/lang/invoke/VarHandle" ∧ (parseMethodDescriptor Y_Scribe_take.1.desc).map (fun d => d.parameters.length) = some 1 := by decide +kernel
def Scribe_take (M : Mm) (a0 : Nat) (a1 : Int32) : Option (Int32 × Mm) :=
  ck (kO M a0 8 11) (
  if (mI M a0 9) ≤ (mI M a0 10) then (
    some (0, M))
  else (
    nn (mR M a0 6) (fun b2 =>
    ck (kA M b2 20 (mI M a0 10)) (
    if (mI M b2 (ix (mI M a0 10))) = a1 then (
      let M4 := sI M a0 10 ((mI M a0 10) + 1)
      some (1, M4))
    else (
      some (0, M))))))
set_option maxRecDepth 100000 in
set_option maxHeartbeats 4000000 in
theorem s_Scribe_take (G : Gx) (M : Mm) (a0 : Nat) (a1 : Int32) : FnS G Y_Scribe_take cvI 1 [.ref a0, .int a1] M (Scribe_take M a0 a1) := by
  refine FnS.ofE (by decide) (Nat.le_of_ble_eq_true rfl) ?_
  show EJ G Y_Scribe_take cvI 1 0 [(0, .ref a0), (1, .int a1)] [] M _
  unfold Scribe_take
  refine EJ_aload_n 1 0 (dk_42 (bt bc_Scribe_take_0 0 rfl)) rfl rfl ?_
  refine EJ_ck (fun h1 => ?_)
  refine EJ_getI cf8 10 (by decide) 4 tw_95 (fun _ _ _ => rfl) (dk_180 (bt bc_Scribe_take_0 1 rfl) (bt bc_Scribe_take_0 2 rfl) (bt bc_Scribe_take_0 3 rfl) (n := 43) rfl) rfl (of_decide_eq_true h1) ?_
  refine EJ_aload_n 5 0 (dk_42 (bt bc_Scribe_take_0 4 rfl)) rfl rfl ?_
  refine EJ_getI cf8 9 (by decide) 8 tw_94 (fun _ _ _ => rfl) (dk_180 (bt bc_Scribe_take_0 5 rfl) (bt bc_Scribe_take_0 6 rfl) (bt bc_Scribe_take_0 7 rfl) (n := 40) rfl) rfl (of_decide_eq_true h1) ?_
  refine EJ_icmp_ge 24 11 (dk_162 (bt bc_Scribe_take_0 8 rfl) (bt bc_Scribe_take_0 9 rfl) (bt bc_Scribe_take_0 10 rfl) (n := 16) rfl) (by decide) rfl (fun _ => ?_) (fun _ => ?_)
  · refine EJ_iconst 25 (dk_3 (bt bc_Scribe_take_0 24 rfl)) rfl (v := 0) kI_0 ?_
    exact EJ_zret rfl (by decide) (dk_172 (bt bc_Scribe_take_0 25 rfl))
  · refine EJ_aload_n 12 0 (dk_42 (bt bc_Scribe_take_0 11 rfl)) rfl rfl ?_
    refine EJ_getR cf8 6 (by decide) 15 tw_91 (fun _ _ _ => rfl) (dk_180 (bt bc_Scribe_take_0 12 rfl) (bt bc_Scribe_take_0 13 rfl) (bt bc_Scribe_take_0 14 rfl) (n := 24) rfl) rfl (of_decide_eq_true h1) (fun b2 => ?_)
    refine EJ_aload_n 16 0 (dk_42 (bt bc_Scribe_take_0 15 rfl)) rfl rfl ?_
    refine EJ_getI cf8 10 (by decide) 19 tw_95 (fun _ _ _ => rfl) (dk_180 (bt bc_Scribe_take_0 16 rfl) (bt bc_Scribe_take_0 17 rfl) (bt bc_Scribe_take_0 18 rfl) (n := 43) rfl) rfl (of_decide_eq_true h1) ?_
    refine EJ_ck (fun h3 => ?_)
    refine EJ_iald 20 h3 (dk_46 (bt bc_Scribe_take_0 19 rfl)) rfl ?_
    refine EJ_iload_n 21 1 (dk_27 (bt bc_Scribe_take_0 20 rfl)) rfl rfl ?_
    refine EJ_icmp_eq 26 24 (dk_159 (bt bc_Scribe_take_0 21 rfl) (bt bc_Scribe_take_0 22 rfl) (bt bc_Scribe_take_0 23 rfl) (n := 5) rfl) (by decide) rfl (fun _ => ?_) (fun _ => ?_)
    · refine EJ_aload_n 27 0 (dk_42 (bt bc_Scribe_take_0 26 rfl)) rfl rfl ?_
      refine EJ_dup 28 (dk_89 (bt bc_Scribe_take_0 27 rfl)) rfl rfl ?_
      refine EJ_getI cf8 10 (by decide) 31 tw_95 (fun _ _ _ => rfl) (dk_180 (bt bc_Scribe_take_0 28 rfl) (bt bc_Scribe_take_0 29 rfl) (bt bc_Scribe_take_0 30 rfl) (n := 43) rfl) rfl (of_decide_eq_true h1) ?_
      refine EJ_iconst 32 (dk_4 (bt bc_Scribe_take_0 31 rfl)) rfl (v := 1) kI_1 ?_
      refine EJ_iadd 33 (dk_96 (bt bc_Scribe_take_1 0 rfl)) rfl ?_
      refine EJ_putI cf8 10 (by decide) 36 tw_95 rfl (Or.inl rfl) (dk_181 (bt bc_Scribe_take_1 1 rfl) (bt bc_Scribe_take_1 2 rfl) (bt bc_Scribe_take_1 3 rfl) (n := 43) rfl) rfl (of_decide_eq_true h1) ?_
      refine EJ_iconst 37 (dk_4 (bt bc_Scribe_take_1 4 rfl)) rfl (v := 1) kI_1 ?_
      exact EJ_zret rfl (by decide) (dk_172 (bt bc_Scribe_take_1 5 rfl))
    · refine EJ_iconst 25 (dk_3 (bt bc_Scribe_take_0 24 rfl)) rfl (v := 0) kI_0 ?_
      exact EJ_zret rfl (by decide) (dk_172 (bt bc_Scribe_take_0 25 rfl))
abbrev Y_Scribe_put : Ym := (⟨"RiceHall$Scribe", "put", "(I)Z"⟩, prog_10_method_21_code, 2, (some FieldType.boolean))
theorem bc_Scribe_put_0 : bts prog_10_method_21_code 0 [42, 180, 0, 37, 42, 180, 0, 21, 190, 161, 0, 5, 3, 172, 42, 180, 0, 21, 42, 180, 0, 37, 27, 79, 42, 89, 180, 0, 37, 4, 96, 181] := bts_of (by decide +kernel)
theorem bc_Scribe_put_1 : bts prog_10_method_21_code 32 [0, 37, 4, 172] := bts_of (by decide +kernel)
theorem hd_Scribe_put : Y_Scribe_put.1.cls = RX8 ∧ Y_Scribe_put.1.cls ≠ "java/lang/invoke/MethodHandle" ∧ Y_Scribe_put.1.cls ≠ "java/lang/invoke/VarHandle" ∧ (parseMethodDescriptor Y_Scribe_put.1.desc).map (fun d => d.parameters.length) = some 1 := by decide +kernel
def Scribe_put (M : Mm) (a0 : Nat) (a1 : Int32) : Option (Int32 × Mm) :=
  ck (kO M a0 8 11) (
  nn (mR M a0 3) (fun b2 =>
  ck (kT M b2 20) (
  if (mI M a0 5) < (ln M b2) then (
    nn (mR M a0 3) (fun b4 =>
    ck (kA M b4 20 (mI M a0 5)) (
    let M6 := sI M b4 (ix (mI M a0 5)) a1
    let M7 := sI M6 a0 5 ((mI M6 a0 5) + 1)
    some (1, M7))))
  else (
    some (0, M)))))
set_option maxRecDepth 100000 in
set_option maxHeartbeats 4000000 in
theorem s_Scribe_put (G : Gx) (M : Mm) (a0 : Nat) (a1 : Int32) : FnS G Y_Scribe_put cvI 1 [.ref a0, .int a1] M (Scribe_put M a0 a1) := by
  refine FnS.ofE (by decide) (Nat.le_of_ble_eq_true rfl) ?_
  show EJ G Y_Scribe_put cvI 1 0 [(0, .ref a0), (1, .int a1)] [] M _
  unfold Scribe_put
  refine EJ_aload_n 1 0 (dk_42 (bt bc_Scribe_put_0 0 rfl)) rfl rfl ?_
  refine EJ_ck (fun h1 => ?_)
  refine EJ_getI cf8 5 (by decide) 4 tw_90 (fun _ _ _ => rfl) (dk_180 (bt bc_Scribe_put_0 1 rfl) (bt bc_Scribe_put_0 2 rfl) (bt bc_Scribe_put_0 3 rfl) (n := 37) rfl) rfl (of_decide_eq_true h1) ?_
  refine EJ_aload_n 5 0 (dk_42 (bt bc_Scribe_put_0 4 rfl)) rfl rfl ?_
  refine EJ_getR cf8 3 (by decide) 8 tw_85 (fun _ _ _ => rfl) (dk_180 (bt bc_Scribe_put_0 5 rfl) (bt bc_Scribe_put_0 6 rfl) (bt bc_Scribe_put_0 7 rfl) (n := 21) rfl) rfl (of_decide_eq_true h1) (fun b2 => ?_)
  refine EJ_ck (fun h3 => ?_)
  refine EJ_alen 0 9 (by decide) h3 (dk_190 (bt bc_Scribe_put_0 8 rfl)) rfl ?_
  refine EJ_icmp_lt 14 12 (dk_161 (bt bc_Scribe_put_0 9 rfl) (bt bc_Scribe_put_0 10 rfl) (bt bc_Scribe_put_0 11 rfl) (n := 5) rfl) (by decide) rfl (fun _ => ?_) (fun _ => ?_)
  · refine EJ_aload_n 15 0 (dk_42 (bt bc_Scribe_put_0 14 rfl)) rfl rfl ?_
    refine EJ_getR cf8 3 (by decide) 18 tw_85 (fun _ _ _ => rfl) (dk_180 (bt bc_Scribe_put_0 15 rfl) (bt bc_Scribe_put_0 16 rfl) (bt bc_Scribe_put_0 17 rfl) (n := 21) rfl) rfl (of_decide_eq_true h1) (fun b4 => ?_)
    refine EJ_aload_n 19 0 (dk_42 (bt bc_Scribe_put_0 18 rfl)) rfl rfl ?_
    refine EJ_getI cf8 5 (by decide) 22 tw_90 (fun _ _ _ => rfl) (dk_180 (bt bc_Scribe_put_0 19 rfl) (bt bc_Scribe_put_0 20 rfl) (bt bc_Scribe_put_0 21 rfl) (n := 37) rfl) rfl (of_decide_eq_true h1) ?_
    refine EJ_iload_n 23 1 (dk_27 (bt bc_Scribe_put_0 22 rfl)) rfl rfl ?_
    refine EJ_ck (fun h5 => ?_)
    refine EJ_iast 24 h5 (dk_79 (bt bc_Scribe_put_0 23 rfl)) rfl ?_
    refine EJ_aload_n 25 0 (dk_42 (bt bc_Scribe_put_0 24 rfl)) rfl rfl ?_
    refine EJ_dup 26 (dk_89 (bt bc_Scribe_put_0 25 rfl)) rfl rfl ?_
    refine EJ_getI cf8 5 (by decide) 29 tw_90 (fun _ _ _ => rfl) (dk_180 (bt bc_Scribe_put_0 26 rfl) (bt bc_Scribe_put_0 27 rfl) (bt bc_Scribe_put_0 28 rfl) (n := 37) rfl) rfl (kp_I (of_decide_eq_true h1)) ?_
    refine EJ_iconst 30 (dk_4 (bt bc_Scribe_put_0 29 rfl)) rfl (v := 1) kI_1 ?_
    refine EJ_iadd 31 (dk_96 (bt bc_Scribe_put_0 30 rfl)) rfl ?_
    refine EJ_putI cf8 5 (by decide) 34 tw_90 rfl (Or.inl rfl) (dk_181 (bt bc_Scribe_put_0 31 rfl) (bt bc_Scribe_put_1 0 rfl) (bt bc_Scribe_put_1 1 rfl) (n := 37) rfl) rfl (kp_I (of_decide_eq_true h1)) ?_
    refine EJ_iconst 35 (dk_4 (bt bc_Scribe_put_1 2 rfl)) rfl (v := 1) kI_1 ?_
    exact EJ_zret rfl (by decide) (dk_172 (bt bc_Scribe_put_1 3 rfl))
  · refine EJ_iconst 13 (dk_3 (bt bc_Scribe_put_0 12 rfl)) rfl (v := 0) kI_0 ?_
    exact EJ_zret rfl (by decide) (dk_172 (bt bc_Scribe_put_0 13 rfl))
abbrev Y_Scribe_takeOf : Ym := (⟨"RiceHall$Scribe", "takeOf", "(II)I"⟩, prog_10_method_13_code, 3, (some FieldType.int))
theorem bc_Scribe_takeOf_0 : bts prog_10_method_13_code 0 [42, 180, 0, 43, 42, 180, 0, 40, 162, 0, 29, 42, 180, 0, 24, 42, 180, 0, 43, 46, 27, 161, 0, 16, 42, 180, 0, 24, 42, 180, 0, 43] := bts_of (by decide +kernel)
theorem bc_Scribe_takeOf_1 : bts prog_10_method_13_code 32 [46, 28, 164, 0, 5, 2, 172, 42, 89, 180, 0, 43, 4, 96, 181, 0, 43, 42, 180, 0, 24, 42, 180, 0, 43, 4, 100, 46, 27, 100, 172] := bts_of (by decide +kernel)
theorem hd_Scribe_takeOf : Y_Scribe_takeOf.1.cls = RX8 ∧ Y_Scribe_takeOf.1.cls ≠ "java/lang/invoke/MethodHandle" ∧ Y_Scribe_takeOf.1.cls ≠ "java/lang/invoke/VarHandle" ∧ (parseMethodDescriptor Y_Scribe_takeOf.1.desc).map (fun d => d.parameters.length) = some 2 := by decide +kernel
def Scribe_takeOf (M : Mm) (a0 : Nat) (a1 : Int32) (a2 : Int32) : Option (Int32 × Mm) :=
  ck (kO M a0 8 11) (
  if (mI M a0 9) ≤ (mI M a0 10) then (
    some ((-1), M))
  else (
    nn (mR M a0 6) (fun b2 =>
    ck (kA M b2 20 (mI M a0 10)) (
    if (mI M b2 (ix (mI M a0 10))) < a1 then (
      some ((-1), M))
    else (
      nn (mR M a0 6) (fun b4 =>
      ck (kA M b4 20 (mI M a0 10)) (
      if (mI M b4 (ix (mI M a0 10))) ≤ a2 then (
        let M6 := sI M a0 10 ((mI M a0 10) + 1)
        nn (mR M6 a0 6) (fun b7 =>
        ck (kA M6 b7 20 ((mI M6 a0 10) - 1)) (
        some ((mI M6 b7 (ix ((mI M6 a0 10) - 1))) - a1, M6))))
      else (
        some ((-1), M)))))))))
set_option maxRecDepth 100000 in
set_option maxHeartbeats 4000000 in
theorem s_Scribe_takeOf (G : Gx) (M : Mm) (a0 : Nat) (a1 : Int32) (a2 : Int32) : FnS G Y_Scribe_takeOf cvI 1 [.ref a0, .int a1, .int a2] M (Scribe_takeOf M a0 a1 a2) := by
  refine FnS.ofE (by decide) (Nat.le_of_ble_eq_true rfl) ?_
  show EJ G Y_Scribe_takeOf cvI 1 0 [(0, .ref a0), (1, .int a1), (2, .int a2)] [] M _
  unfold Scribe_takeOf
  refine EJ_aload_n 1 0 (dk_42 (bt bc_Scribe_takeOf_0 0 rfl)) rfl rfl ?_
  refine EJ_ck (fun h1 => ?_)
  refine EJ_getI cf8 10 (by decide) 4 tw_95 (fun _ _ _ => rfl) (dk_180 (bt bc_Scribe_takeOf_0 1 rfl) (bt bc_Scribe_takeOf_0 2 rfl) (bt bc_Scribe_takeOf_0 3 rfl) (n := 43) rfl) rfl (of_decide_eq_true h1) ?_
  refine EJ_aload_n 5 0 (dk_42 (bt bc_Scribe_takeOf_0 4 rfl)) rfl rfl ?_
  refine EJ_getI cf8 9 (by decide) 8 tw_94 (fun _ _ _ => rfl) (dk_180 (bt bc_Scribe_takeOf_0 5 rfl) (bt bc_Scribe_takeOf_0 6 rfl) (bt bc_Scribe_takeOf_0 7 rfl) (n := 40) rfl) rfl (of_decide_eq_true h1) ?_
  refine EJ_icmp_ge 37 11 (dk_162 (bt bc_Scribe_takeOf_0 8 rfl) (bt bc_Scribe_takeOf_0 9 rfl) (bt bc_Scribe_takeOf_0 10 rfl) (n := 29) rfl) (by decide) rfl (fun _ => ?_) (fun _ => ?_)
  · refine EJ_iconst 38 (dk_2 (bt bc_Scribe_takeOf_1 5 rfl)) rfl (v := (-1)) kI_m1 ?_
    exact EJ_iret rfl (dk_172 (bt bc_Scribe_takeOf_1 6 rfl))
  · refine EJ_aload_n 12 0 (dk_42 (bt bc_Scribe_takeOf_0 11 rfl)) rfl rfl ?_
    refine EJ_getR cf8 6 (by decide) 15 tw_91 (fun _ _ _ => rfl) (dk_180 (bt bc_Scribe_takeOf_0 12 rfl) (bt bc_Scribe_takeOf_0 13 rfl) (bt bc_Scribe_takeOf_0 14 rfl) (n := 24) rfl) rfl (of_decide_eq_true h1) (fun b2 => ?_)
    refine EJ_aload_n 16 0 (dk_42 (bt bc_Scribe_takeOf_0 15 rfl)) rfl rfl ?_
    refine EJ_getI cf8 10 (by decide) 19 tw_95 (fun _ _ _ => rfl) (dk_180 (bt bc_Scribe_takeOf_0 16 rfl) (bt bc_Scribe_takeOf_0 17 rfl) (bt bc_Scribe_takeOf_0 18 rfl) (n := 43) rfl) rfl (of_decide_eq_true h1) ?_
    refine EJ_ck (fun h3 => ?_)
    refine EJ_iald 20 h3 (dk_46 (bt bc_Scribe_takeOf_0 19 rfl)) rfl ?_
    refine EJ_iload_n 21 1 (dk_27 (bt bc_Scribe_takeOf_0 20 rfl)) rfl rfl ?_
    refine EJ_icmp_lt 37 24 (dk_161 (bt bc_Scribe_takeOf_0 21 rfl) (bt bc_Scribe_takeOf_0 22 rfl) (bt bc_Scribe_takeOf_0 23 rfl) (n := 16) rfl) (by decide) rfl (fun _ => ?_) (fun _ => ?_)
    · refine EJ_iconst 38 (dk_2 (bt bc_Scribe_takeOf_1 5 rfl)) rfl (v := (-1)) kI_m1 ?_
      exact EJ_iret rfl (dk_172 (bt bc_Scribe_takeOf_1 6 rfl))
    · refine EJ_aload_n 25 0 (dk_42 (bt bc_Scribe_takeOf_0 24 rfl)) rfl rfl ?_
      refine EJ_getR cf8 6 (by decide) 28 tw_91 (fun _ _ _ => rfl) (dk_180 (bt bc_Scribe_takeOf_0 25 rfl) (bt bc_Scribe_takeOf_0 26 rfl) (bt bc_Scribe_takeOf_0 27 rfl) (n := 24) rfl) rfl (of_decide_eq_true h1) (fun b4 => ?_)
      refine EJ_aload_n 29 0 (dk_42 (bt bc_Scribe_takeOf_0 28 rfl)) rfl rfl ?_
      refine EJ_getI cf8 10 (by decide) 32 tw_95 (fun _ _ _ => rfl) (dk_180 (bt bc_Scribe_takeOf_0 29 rfl) (bt bc_Scribe_takeOf_0 30 rfl) (bt bc_Scribe_takeOf_0 31 rfl) (n := 43) rfl) rfl (of_decide_eq_true h1) ?_
      refine EJ_ck (fun h5 => ?_)
      refine EJ_iald 33 h5 (dk_46 (bt bc_Scribe_takeOf_1 0 rfl)) rfl ?_
      refine EJ_iload_n 34 2 (dk_28 (bt bc_Scribe_takeOf_1 1 rfl)) rfl rfl ?_
      refine EJ_icmp_le 39 37 (dk_164 (bt bc_Scribe_takeOf_1 2 rfl) (bt bc_Scribe_takeOf_1 3 rfl) (bt bc_Scribe_takeOf_1 4 rfl) (n := 5) rfl) (by decide) rfl (fun _ => ?_) (fun _ => ?_)
      · refine EJ_aload_n 40 0 (dk_42 (bt bc_Scribe_takeOf_1 7 rfl)) rfl rfl ?_
        refine EJ_dup 41 (dk_89 (bt bc_Scribe_takeOf_1 8 rfl)) rfl rfl ?_
        refine EJ_getI cf8 10 (by decide) 44 tw_95 (fun _ _ _ => rfl) (dk_180 (bt bc_Scribe_takeOf_1 9 rfl) (bt bc_Scribe_takeOf_1 10 rfl) (bt bc_Scribe_takeOf_1 11 rfl) (n := 43) rfl) rfl (of_decide_eq_true h1) ?_
        refine EJ_iconst 45 (dk_4 (bt bc_Scribe_takeOf_1 12 rfl)) rfl (v := 1) kI_1 ?_
        refine EJ_iadd 46 (dk_96 (bt bc_Scribe_takeOf_1 13 rfl)) rfl ?_
        refine EJ_putI cf8 10 (by decide) 49 tw_95 rfl (Or.inl rfl) (dk_181 (bt bc_Scribe_takeOf_1 14 rfl) (bt bc_Scribe_takeOf_1 15 rfl) (bt bc_Scribe_takeOf_1 16 rfl) (n := 43) rfl) rfl (of_decide_eq_true h1) ?_
        refine EJ_aload_n 50 0 (dk_42 (bt bc_Scribe_takeOf_1 17 rfl)) rfl rfl ?_
        refine EJ_getR cf8 6 (by decide) 53 tw_91 (fun _ _ _ => rfl) (dk_180 (bt bc_Scribe_takeOf_1 18 rfl) (bt bc_Scribe_takeOf_1 19 rfl) (bt bc_Scribe_takeOf_1 20 rfl) (n := 24) rfl) rfl (kp_I (of_decide_eq_true h1)) (fun b7 => ?_)
        refine EJ_aload_n 54 0 (dk_42 (bt bc_Scribe_takeOf_1 21 rfl)) rfl rfl ?_
        refine EJ_getI cf8 10 (by decide) 57 tw_95 (fun _ _ _ => rfl) (dk_180 (bt bc_Scribe_takeOf_1 22 rfl) (bt bc_Scribe_takeOf_1 23 rfl) (bt bc_Scribe_takeOf_1 24 rfl) (n := 43) rfl) rfl (kp_I (of_decide_eq_true h1)) ?_
        refine EJ_iconst 58 (dk_4 (bt bc_Scribe_takeOf_1 25 rfl)) rfl (v := 1) kI_1 ?_
        refine EJ_isub 59 (dk_100 (bt bc_Scribe_takeOf_1 26 rfl)) rfl ?_
        refine EJ_ck (fun h8 => ?_)
        refine EJ_iald 60 h8 (dk_46 (bt bc_Scribe_takeOf_1 27 rfl)) rfl ?_
        refine EJ_iload_n 61 1 (dk_27 (bt bc_Scribe_takeOf_1 28 rfl)) rfl rfl ?_
        refine EJ_isub 62 (dk_100 (bt bc_Scribe_takeOf_1 29 rfl)) rfl ?_
        exact EJ_iret rfl (dk_172 (bt bc_Scribe_takeOf_1 30 rfl))
      · refine EJ_iconst 38 (dk_2 (bt bc_Scribe_takeOf_1 5 rfl)) rfl (v := (-1)) kI_m1 ?_
        exact EJ_iret rfl (dk_172 (bt bc_Scribe_takeOf_1 6 rfl))
