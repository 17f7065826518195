abbrev Y_House_partOf : Ym := (⟨"RiceHall$House", "partOf", "(IJJJ)J"⟩, prog_5_method_11_code, 13, (some FieldType.long))
theorem bc_House_partOf_0 : bts prog_5_method_11_code 0 [9, 55, 8, 9, 55, 10, 16, 62, 54, 12, 21, 12, 155, 0, 81, 22, 8, 4, 121, 55, 8, 22, 10, 4, 121, 55, 10, 22, 10, 22, 6, 148] := bts_of (by decide +kernel)
theorem bc_House_partOf_1 : bts prog_5_method_11_code 32 [155, 0, 16, 22, 10, 22, 6, 101, 55, 10, 22, 8, 10, 97, 55, 8, 32, 21, 12, 123, 10, 127, 10, 148, 154, 0, 10, 22, 10, 22, 4, 97] := bts_of (by decide +kernel)
theorem bc_House_partOf_2 : bts prog_5_method_11_code 64 [55, 10, 22, 10, 22, 6, 148, 155, 0, 16, 22, 10, 22, 6, 101, 55, 10, 22, 8, 10, 97, 55, 8, 132, 12, 255, 167, 255, 176, 42, 180, 0] := bts_of (by decide +kernel)
theorem bc_House_partOf_3 : bts prog_5_method_11_code 96 [15, 27, 22, 10, 80, 22, 8, 173] := bts_of (by decide +kernel)
theorem hd_House_partOf : Y_House_partOf.1.cls = RX3 ∧ Y_House_partOf.1.cls ≠ "java/lang/invoke/MethodHandle" ∧ Y_House_partOf.1.cls ≠ "java/lang/invoke/VarHandle" ∧ (parseMethodDescriptor Y_House_partOf.1.desc).map (fun d => d.parameters.length) = some 4 := by decide +kernel
def House_partOf_J87 (k10 : Nat → Int32 → Int64 → Int64 → Int64 → Int64 → Int64 → Int32 → Mm → Option (Int64 × Mm)) (x0 : Nat) (x1 : Int32) (x2 : Int64) (x4 : Int64) (x6 : Int64) (x8 : Int64) (x10 : Int64) (x12 : Int32) (M : Mm) : Option (Int64 × Mm) :=
  let v7 : Int32 := x12 + (-1)
  k10 x0 x1 x2 x4 x6 x8 x10 v7 M
set_option maxRecDepth 100000 in
set_option maxHeartbeats 4000000 in
theorem e_House_partOf_J87 {G : Gx} (k10 : Nat → Int32 → Int64 → Int64 → Int64 → Int64 → Int64 → Int32 → Mm → Option (Int64 × Mm)) (hk10 : ∀ (x0 : Nat) (x1 : Int32) (x2 : Int64) (x4 : Int64) (x6 : Int64) (x8 : Int64) (x10 : Int64) (x12 : Int32) (M : Mm), EJ G Y_House_partOf cvL 1 10 [(0, .ref x0), (1, .int x1), (2, .long x2), (4, .long x4), (6, .long x6), (8, .long x8), (10, .long x10), (12, .int x12)] [] M (k10 x0 x1 x2 x4 x6 x8 x10 x12 M)) (x0 : Nat) (x1 : Int32) (x2 : Int64) (x4 : Int64) (x6 : Int64) (x8 : Int64) (x10 : Int64) (x12 : Int32) (M : Mm) : EJ G Y_House_partOf cvL 1 87 [(0, .ref x0), (1, .int x1), (2, .long x2), (4, .long x4), (6, .long x6), (8, .long x8), (10, .long x10), (12, .int x12)] [] M (House_partOf_J87 k10 x0 x1 x2 x4 x6 x8 x10 x12 M) := by
  unfold House_partOf_J87
  refine EJ_iinc 90 7 (lv2 := [(12, .int _), (0, .ref _), (1, .int _), (2, .long _), (4, .long _), (6, .long _), (8, .long _), (10, .long _)]) (dk_132 (bt bc_House_partOf_2 23 rfl) (bt bc_House_partOf_2 24 rfl) (bt bc_House_partOf_2 25 rfl) (n := -1) rfl) rfl (by decide) rfl (v := (-1)) kI_m1 rfl ?_
  refine EJ_goto 10 (dk_167 (bt bc_House_partOf_2 26 rfl) (bt bc_House_partOf_2 27 rfl) (bt bc_House_partOf_2 28 rfl) (n := -80) rfl) (by decide) ?_
  exact EJ_pick (lv2 := [(0, .ref _), (1, .int _), (2, .long _), (4, .long _), (6, .long _), (8, .long _), (10, .long _), (12, .int _)]) [1, 2, 3, 4, 5, 6, 7, 0] rfl (hk10 _ _ _ _ _ _ _ _ _)
def House_partOf_J66 (k10 : Nat → Int32 → Int64 → Int64 → Int64 → Int64 → Int64 → Int32 → Mm → Option (Int64 × Mm)) (x0 : Nat) (x1 : Int32) (x2 : Int64) (x4 : Int64) (x6 : Int64) (x8 : Int64) (x10 : Int64) (x12 : Int32) (M : Mm) : Option (Int64 × Mm) :=
  if x10 < x6 then (
    House_partOf_J87 k10 x0 x1 x2 x4 x6 x8 x10 x12 M)
  else (
    let v8 : Int64 := x10 - x6
    let v9 : Int64 := x8 + 1
    House_partOf_J87 k10 x0 x1 x2 x4 x6 v9 v8 x12 M)
set_option maxRecDepth 100000 in
set_option maxHeartbeats 4000000 in
theorem e_House_partOf_J66 {G : Gx} (k10 : Nat → Int32 → Int64 → Int64 → Int64 → Int64 → Int64 → Int32 → Mm → Option (Int64 × Mm)) (hk10 : ∀ (x0 : Nat) (x1 : Int32) (x2 : Int64) (x4 : Int64) (x6 : Int64) (x8 : Int64) (x10 : Int64) (x12 : Int32) (M : Mm), EJ G Y_House_partOf cvL 1 10 [(0, .ref x0), (1, .int x1), (2, .long x2), (4, .long x4), (6, .long x6), (8, .long x8), (10, .long x10), (12, .int x12)] [] M (k10 x0 x1 x2 x4 x6 x8 x10 x12 M)) (x0 : Nat) (x1 : Int32) (x2 : Int64) (x4 : Int64) (x6 : Int64) (x8 : Int64) (x10 : Int64) (x12 : Int32) (M : Mm) : EJ G Y_House_partOf cvL 1 66 [(0, .ref x0), (1, .int x1), (2, .long x2), (4, .long x4), (6, .long x6), (8, .long x8), (10, .long x10), (12, .int x12)] [] M (House_partOf_J66 k10 x0 x1 x2 x4 x6 x8 x10 x12 M) := by
  unfold House_partOf_J66
  refine EJ_lload 68 6 (dk_22 (bt bc_House_partOf_2 2 rfl) (bt bc_House_partOf_2 3 rfl)) rfl rfl ?_
  refine EJ_lload 70 4 (dk_22 (bt bc_House_partOf_2 4 rfl) (bt bc_House_partOf_2 5 rfl)) rfl rfl ?_
  refine EJ_lcmp_lt 87 74 (dk_148 (bt bc_House_partOf_2 6 rfl)) (dk_155 (bt bc_House_partOf_2 7 rfl) (bt bc_House_partOf_2 8 rfl) (bt bc_House_partOf_2 9 rfl) (n := 16) rfl) (by decide) rfl (fun _ => ?_) (fun _ => ?_)
  · exact EJ_pick (lv2 := [(0, .ref _), (1, .int _), (2, .long _), (4, .long _), (6, .long _), (8, .long _), (10, .long _), (12, .int _)]) [0, 1, 2, 3, 4, 5, 6, 7] rfl (e_House_partOf_J87 k10 hk10 _ _ _ _ _ _ _ _ _)
  · refine EJ_lload 76 6 (dk_22 (bt bc_House_partOf_2 10 rfl) (bt bc_House_partOf_2 11 rfl)) rfl rfl ?_
    refine EJ_lload 78 4 (dk_22 (bt bc_House_partOf_2 12 rfl) (bt bc_House_partOf_2 13 rfl)) rfl rfl ?_
    refine EJ_lsub 79 (dk_101 (bt bc_House_partOf_2 14 rfl)) rfl ?_
    refine EJ_lstore 81 (lv2 := [(10, .long _), (0, .ref _), (1, .int _), (2, .long _), (4, .long _), (6, .long _), (8, .long _), (12, .int _)]) (dk_55 (bt bc_House_partOf_2 15 rfl) (bt bc_House_partOf_2 16 rfl)) rfl (by decide) rfl ?_
    refine EJ_lload 83 6 (dk_22 (bt bc_House_partOf_2 17 rfl) (bt bc_House_partOf_2 18 rfl)) rfl rfl ?_
    refine EJ_lconst 84 (dk_10 (bt bc_House_partOf_2 19 rfl)) rfl (v := 1) (by decide) ?_
    refine EJ_ladd 85 (dk_97 (bt bc_House_partOf_2 20 rfl)) rfl ?_
    refine EJ_lstore 87 (lv2 := [(8, .long _), (10, .long _), (0, .ref _), (1, .int _), (2, .long _), (4, .long _), (6, .long _), (12, .int _)]) (dk_55 (bt bc_House_partOf_2 21 rfl) (bt bc_House_partOf_2 22 rfl)) rfl (by decide) rfl ?_
    exact EJ_pick (lv2 := [(0, .ref _), (1, .int _), (2, .long _), (4, .long _), (6, .long _), (8, .long _), (10, .long _), (12, .int _)]) [2, 3, 4, 5, 6, 0, 1, 7] rfl (e_House_partOf_J87 k10 hk10 _ _ _ _ _ _ _ _ _)
def House_partOf_J48 (k10 : Nat → Int32 → Int64 → Int64 → Int64 → Int64 → Int64 → Int32 → Mm → Option (Int64 × Mm)) (x0 : Nat) (x1 : Int32) (x2 : Int64) (x4 : Int64) (x6 : Int64) (x8 : Int64) (x10 : Int64) (x12 : Int32) (M : Mm) : Option (Int64 × Mm) :=
  if ((x2 >>> (Int32.toInt64 x12 &&& 63)) &&& 1) = 1 then (
    let v10 : Int64 := x10 + x4
    House_partOf_J66 k10 x0 x1 x2 x4 x6 x8 v10 x12 M)
  else (
    House_partOf_J66 k10 x0 x1 x2 x4 x6 x8 x10 x12 M)
set_option maxRecDepth 100000 in
set_option maxHeartbeats 4000000 in
theorem e_House_partOf_J48 {G : Gx} (k10 : Nat → Int32 → Int64 → Int64 → Int64 → Int64 → Int64 → Int32 → Mm → Option (Int64 × Mm)) (hk10 : ∀ (x0 : Nat) (x1 : Int32) (x2 : Int64) (x4 : Int64) (x6 : Int64) (x8 : Int64) (x10 : Int64) (x12 : Int32) (M : Mm), EJ G Y_House_partOf cvL 1 10 [(0, .ref x0), (1, .int x1), (2, .long x2), (4, .long x4), (6, .long x6), (8, .long x8), (10, .long x10), (12, .int x12)] [] M (k10 x0 x1 x2 x4 x6 x8 x10 x12 M)) (x0 : Nat) (x1 : Int32) (x2 : Int64) (x4 : Int64) (x6 : Int64) (x8 : Int64) (x10 : Int64) (x12 : Int32) (M : Mm) : EJ G Y_House_partOf cvL 1 48 [(0, .ref x0), (1, .int x1), (2, .long x2), (4, .long x4), (6, .long x6), (8, .long x8), (10, .long x10), (12, .int x12)] [] M (House_partOf_J48 k10 x0 x1 x2 x4 x6 x8 x10 x12 M) := by
  unfold House_partOf_J48
  refine EJ_lload_n 49 2 (dk_32 (bt bc_House_partOf_1 16 rfl)) rfl rfl ?_
  refine EJ_iload 51 7 (dk_21 (bt bc_House_partOf_1 17 rfl) (bt bc_House_partOf_1 18 rfl)) rfl rfl ?_
  refine EJ_lshr 52 (dk_123 (bt bc_House_partOf_1 19 rfl)) rfl ?_
  refine EJ_lconst 53 (dk_10 (bt bc_House_partOf_1 20 rfl)) rfl (v := 1) (by decide) ?_
  refine EJ_land 54 (dk_127 (bt bc_House_partOf_1 21 rfl)) rfl ?_
  refine EJ_lconst 55 (dk_10 (bt bc_House_partOf_1 22 rfl)) rfl (v := 1) (by decide) ?_
  refine EJ_lcmp_ne 66 59 (dk_148 (bt bc_House_partOf_1 23 rfl)) (dk_154 (bt bc_House_partOf_1 24 rfl) (bt bc_House_partOf_1 25 rfl) (bt bc_House_partOf_1 26 rfl) (n := 10) rfl) (by decide) rfl (fun _ => ?_) (fun _ => ?_)
  · exact EJ_pick (lv2 := [(0, .ref _), (1, .int _), (2, .long _), (4, .long _), (6, .long _), (8, .long _), (10, .long _), (12, .int _)]) [0, 1, 2, 3, 4, 5, 6, 7] rfl (e_House_partOf_J66 k10 hk10 _ _ _ _ _ _ _ _ _)
  · refine EJ_lload 61 6 (dk_22 (bt bc_House_partOf_1 27 rfl) (bt bc_House_partOf_1 28 rfl)) rfl rfl ?_
    refine EJ_lload 63 3 (dk_22 (bt bc_House_partOf_1 29 rfl) (bt bc_House_partOf_1 30 rfl)) rfl rfl ?_
    refine EJ_ladd 64 (dk_97 (bt bc_House_partOf_1 31 rfl)) rfl ?_
    refine EJ_lstore 66 (lv2 := [(10, .long _), (0, .ref _), (1, .int _), (2, .long _), (4, .long _), (6, .long _), (8, .long _), (12, .int _)]) (dk_55 (bt bc_House_partOf_2 0 rfl) (bt bc_House_partOf_2 1 rfl)) rfl (by decide) rfl ?_
    exact EJ_pick (lv2 := [(0, .ref _), (1, .int _), (2, .long _), (4, .long _), (6, .long _), (8, .long _), (10, .long _), (12, .int _)]) [1, 2, 3, 4, 5, 6, 0, 7] rfl (e_House_partOf_J66 k10 hk10 _ _ _ _ _ _ _ _ _)
def House_partOf_B10 (k10 : Nat → Int32 → Int64 → Int64 → Int64 → Int64 → Int64 → Int32 → Mm → Option (Int64 × Mm)) (x0 : Nat) (x1 : Int32) (x2 : Int64) (x4 : Int64) (x6 : Int64) (x8 : Int64) (x10 : Int64) (x12 : Int32) (M : Mm) : Option (Int64 × Mm) :=
  if x12 < 0 then (
    ck (kO M x0 3 7) (
    nn (mR M x0 1) (fun b2 =>
    ck (kA M b2 23 x1) (
    let M4 := sL M b2 (ix x1) x10
    some (x8, M4)))))
  else (
    let v5 : Int64 := x8 <<< (Int32.toInt64 1 &&& 63)
    let v6 : Int64 := x10 <<< (Int32.toInt64 1 &&& 63)
    if v6 < x6 then (
      House_partOf_J48 k10 x0 x1 x2 x4 x6 v5 v6 x12 M)
    else (
      let v11 : Int64 := v6 - x6
      let v12 : Int64 := v5 + 1
      House_partOf_J48 k10 x0 x1 x2 x4 x6 v12 v11 x12 M))
set_option maxRecDepth 100000 in
set_option maxHeartbeats 4000000 in
theorem e_House_partOf_B10 {G : Gx} (k10 : Nat → Int32 → Int64 → Int64 → Int64 → Int64 → Int64 → Int32 → Mm → Option (Int64 × Mm)) (hk10 : ∀ (x0 : Nat) (x1 : Int32) (x2 : Int64) (x4 : Int64) (x6 : Int64) (x8 : Int64) (x10 : Int64) (x12 : Int32) (M : Mm), EJ G Y_House_partOf cvL 1 10 [(0, .ref x0), (1, .int x1), (2, .long x2), (4, .long x4), (6, .long x6), (8, .long x8), (10, .long x10), (12, .int x12)] [] M (k10 x0 x1 x2 x4 x6 x8 x10 x12 M)) (x0 : Nat) (x1 : Int32) (x2 : Int64) (x4 : Int64) (x6 : Int64) (x8 : Int64) (x10 : Int64) (x12 : Int32) (M : Mm) : EJ G Y_House_partOf cvL 1 10 [(0, .ref x0), (1, .int x1), (2, .long x2), (4, .long x4), (6, .long x6), (8, .long x8), (10, .long x10), (12, .int x12)] [] M (House_partOf_B10 k10 x0 x1 x2 x4 x6 x8 x10 x12 M) := by
  unfold House_partOf_B10
  refine EJ_iload 12 7 (dk_21 (bt bc_House_partOf_0 10 rfl) (bt bc_House_partOf_0 11 rfl)) rfl rfl ?_
  refine EJ_if_lt 93 15 (dk_155 (bt bc_House_partOf_0 12 rfl) (bt bc_House_partOf_0 13 rfl) (bt bc_House_partOf_0 14 rfl) (n := 81) rfl) (by decide) rfl (fun _ => ?_) (fun _ => ?_)
  · refine EJ_aload_n 94 0 (dk_42 (bt bc_House_partOf_2 29 rfl)) rfl rfl ?_
    refine EJ_ck (fun h1 => ?_)
    refine EJ_getR cf3 1 (by decide) 97 tw_147 (fun _ _ _ => rfl) (dk_180 (bt bc_House_partOf_2 30 rfl) (bt bc_House_partOf_2 31 rfl) (bt bc_House_partOf_3 0 rfl) (n := 15) rfl) rfl (of_decide_eq_true h1) (fun b2 => ?_)
    refine EJ_iload_n 98 1 (dk_27 (bt bc_House_partOf_3 1 rfl)) rfl rfl ?_
    refine EJ_lload 100 6 (dk_22 (bt bc_House_partOf_3 2 rfl) (bt bc_House_partOf_3 3 rfl)) rfl rfl ?_
    refine EJ_ck (fun h3 => ?_)
    refine EJ_last 101 h3 (dk_80 (bt bc_House_partOf_3 4 rfl)) rfl ?_
    refine EJ_lload 103 5 (dk_22 (bt bc_House_partOf_3 5 rfl) (bt bc_House_partOf_3 6 rfl)) rfl rfl ?_
    exact EJ_lret rfl (dk_173 (bt bc_House_partOf_3 7 rfl))
  · refine EJ_lload 17 5 (dk_22 (bt bc_House_partOf_0 15 rfl) (bt bc_House_partOf_0 16 rfl)) rfl rfl ?_
    refine EJ_iconst 18 (dk_4 (bt bc_House_partOf_0 17 rfl)) rfl (v := 1) kI_1 ?_
    refine EJ_lshl 19 (dk_121 (bt bc_House_partOf_0 18 rfl)) rfl ?_
    refine EJ_lstore 21 (lv2 := [(8, .long _), (0, .ref _), (1, .int _), (2, .long _), (4, .long _), (6, .long _), (10, .long _), (12, .int _)]) (dk_55 (bt bc_House_partOf_0 19 rfl) (bt bc_House_partOf_0 20 rfl)) rfl (by decide) rfl ?_
    refine EJ_lload 23 6 (dk_22 (bt bc_House_partOf_0 21 rfl) (bt bc_House_partOf_0 22 rfl)) rfl rfl ?_
    refine EJ_iconst 24 (dk_4 (bt bc_House_partOf_0 23 rfl)) rfl (v := 1) kI_1 ?_
    refine EJ_lshl 25 (dk_121 (bt bc_House_partOf_0 24 rfl)) rfl ?_
    refine EJ_lstore 27 (lv2 := [(10, .long _), (8, .long _), (0, .ref _), (1, .int _), (2, .long _), (4, .long _), (6, .long _), (12, .int _)]) (dk_55 (bt bc_House_partOf_0 25 rfl) (bt bc_House_partOf_0 26 rfl)) rfl (by decide) rfl ?_
    refine EJ_lload 29 0 (dk_22 (bt bc_House_partOf_0 27 rfl) (bt bc_House_partOf_0 28 rfl)) rfl rfl ?_
    refine EJ_lload 31 6 (dk_22 (bt bc_House_partOf_0 29 rfl) (bt bc_House_partOf_0 30 rfl)) rfl rfl ?_
    refine EJ_lcmp_lt 48 35 (dk_148 (bt bc_House_partOf_0 31 rfl)) (dk_155 (bt bc_House_partOf_1 0 rfl) (bt bc_House_partOf_1 1 rfl) (bt bc_House_partOf_1 2 rfl) (n := 16) rfl) (by decide) rfl (fun _ => ?_) (fun _ => ?_)
    · exact EJ_pick (lv2 := [(0, .ref _), (1, .int _), (2, .long _), (4, .long _), (6, .long _), (8, .long _), (10, .long _), (12, .int _)]) [2, 3, 4, 5, 6, 1, 0, 7] rfl (e_House_partOf_J48 k10 hk10 _ _ _ _ _ _ _ _ _)
    · refine EJ_lload 37 0 (dk_22 (bt bc_House_partOf_1 3 rfl) (bt bc_House_partOf_1 4 rfl)) rfl rfl ?_
      refine EJ_lload 39 6 (dk_22 (bt bc_House_partOf_1 5 rfl) (bt bc_House_partOf_1 6 rfl)) rfl rfl ?_
      refine EJ_lsub 40 (dk_101 (bt bc_House_partOf_1 7 rfl)) rfl ?_
      refine EJ_lstore 42 (lv2 := [(10, .long _), (8, .long _), (0, .ref _), (1, .int _), (2, .long _), (4, .long _), (6, .long _), (12, .int _)]) (dk_55 (bt bc_House_partOf_1 8 rfl) (bt bc_House_partOf_1 9 rfl)) rfl (by decide) rfl ?_
      refine EJ_lload 44 1 (dk_22 (bt bc_House_partOf_1 10 rfl) (bt bc_House_partOf_1 11 rfl)) rfl rfl ?_
      refine EJ_lconst 45 (dk_10 (bt bc_House_partOf_1 12 rfl)) rfl (v := 1) (by decide) ?_
      refine EJ_ladd 46 (dk_97 (bt bc_House_partOf_1 13 rfl)) rfl ?_
      refine EJ_lstore 48 (lv2 := [(8, .long _), (10, .long _), (0, .ref _), (1, .int _), (2, .long _), (4, .long _), (6, .long _), (12, .int _)]) (dk_55 (bt bc_House_partOf_1 14 rfl) (bt bc_House_partOf_1 15 rfl)) rfl (by decide) rfl ?_
      exact EJ_pick (lv2 := [(0, .ref _), (1, .int _), (2, .long _), (4, .long _), (6, .long _), (8, .long _), (10, .long _), (12, .int _)]) [2, 3, 4, 5, 6, 0, 1, 7] rfl (e_House_partOf_J48 k10 hk10 _ _ _ _ _ _ _ _ _)
def House_partOf_L10 (n : Nat) : Nat → Int32 → Int64 → Int64 → Int64 → Int64 → Int64 → Int32 → Mm → Option (Int64 × Mm) :=
  match n with
  | 0 => fun _ _ _ _ _ _ _ _ _ => none
  | n + 1 => House_partOf_B10 (House_partOf_L10 n)
theorem e_House_partOf_L10 {G : Gx} : ∀ (n : Nat) (x0 : Nat) (x1 : Int32) (x2 : Int64) (x4 : Int64) (x6 : Int64) (x8 : Int64) (x10 : Int64) (x12 : Int32) (M : Mm), EJ G Y_House_partOf cvL 1 10 [(0, .ref x0), (1, .int x1), (2, .long x2), (4, .long x4), (6, .long x6), (8, .long x8), (10, .long x10), (12, .int x12)] [] M (House_partOf_L10 n x0 x1 x2 x4 x6 x8 x10 x12 M) := by
  intro n
  induction n with
  | zero => intros; exact EJ_none
  | succ n ih => intro x0 x1 x2 x4 x6 x8 x10 x12 M; exact e_House_partOf_B10 _ ih x0 x1 x2 x4 x6 x8 x10 x12 M
def House_partOf (M : Mm) (a0 : Nat) (a1 : Int32) (a2 : Int64) (a3 : Int64) (a4 : Int64) : Option (Int64 × Mm) :=
  House_partOf_L10 fu a0 a1 a2 a3 a4 0 0 62 M
set_option maxRecDepth 100000 in
set_option maxHeartbeats 4000000 in
theorem s_House_partOf (G : Gx) (M : Mm) (a0 : Nat) (a1 : Int32) (a2 : Int64) (a3 : Int64) (a4 : Int64) : FnS G Y_House_partOf cvL 1 [.ref a0, .int a1, .long a2, .long a3, .long a4] M (House_partOf M a0 a1 a2 a3 a4) := by
  refine FnS.ofE (by decide) (Nat.le_of_ble_eq_true rfl) ?_
  show EJ G Y_House_partOf cvL 1 0 [(0, .ref a0), (1, .int a1), (2, .long a2), (4, .long a3), (6, .long a4)] [] M _
  unfold House_partOf
  refine EJ_lconst 1 (dk_9 (bt bc_House_partOf_0 0 rfl)) rfl (v := 0) (by decide) ?_
  refine EJ_lstore 3 (lv2 := [(8, .long _), (0, .ref _), (1, .int _), (2, .long _), (4, .long _), (6, .long _)]) (dk_55 (bt bc_House_partOf_0 1 rfl) (bt bc_House_partOf_0 2 rfl)) rfl (by decide) rfl ?_
  refine EJ_lconst 4 (dk_9 (bt bc_House_partOf_0 3 rfl)) rfl (v := 0) (by decide) ?_
  refine EJ_lstore 6 (lv2 := [(10, .long _), (8, .long _), (0, .ref _), (1, .int _), (2, .long _), (4, .long _), (6, .long _)]) (dk_55 (bt bc_House_partOf_0 4 rfl) (bt bc_House_partOf_0 5 rfl)) rfl (by decide) rfl ?_
  refine EJ_bipush 8 (dk_16 (bt bc_House_partOf_0 6 rfl) (bt bc_House_partOf_0 7 rfl) (n := 62) rfl) rfl (v := 62) kB_62 ?_
  refine EJ_istore 10 (lv2 := [(12, .int _), (10, .long _), (8, .long _), (0, .ref _), (1, .int _), (2, .long _), (4, .long _), (6, .long _)]) (dk_54 (bt bc_House_partOf_0 8 rfl) (bt bc_House_partOf_0 9 rfl)) rfl (by decide) rfl ?_
  exact EJ_pick (lv2 := [(0, .ref _), (1, .int _), (2, .long _), (4, .long _), (6, .long _), (8, .long _), (10, .long _), (12, .int _)]) [3, 4, 5, 6, 7, 2, 1, 0] rfl (e_House_partOf_L10 fu _ _ _ _ _ _ _ _ _)
abbrev Y_House_greatestRemainder : Ym := (⟨"RiceHall$House", "greatestRemainder", "(I)I"⟩, prog_5_method_12_code, 4, (some FieldType.int))
theorem bc_House_greatestRemainder_0 : bts prog_5_method_12_code 0 [3, 61, 4, 62, 29, 27, 162, 0, 27, 42, 180, 0, 15, 29, 47, 42, 180, 0, 15, 28, 47, 148, 158, 0, 5, 29, 61, 132, 3, 1, 167, 255] := bts_of (by decide +kernel)
theorem bc_House_greatestRemainder_1 : bts prog_5_method_12_code 32 [230, 28, 172] := bts_of (by decide +kernel)
theorem hd_House_greatestRemainder : Y_House_greatestRemainder.1.cls = RX3 ∧ Y_House_greatestRemainder.1.cls ≠ "java/lang/invoke/MethodHandle" ∧ Y_House_greatestRemainder.1.cls ≠ "java/lang/invoke/VarHandle" ∧ (parseMethodDescriptor Y_House_greatestRemainder.1.desc).map (fun d => d.parameters.length) = some 1 := by decide +kernel
def House_greatestRemainder_J27 (k4 : Nat → Int32 → Int32 → Int32 → Mm → Option (Int32 × Mm)) (x0 : Nat) (x1 : Int32) (x2 : Int32) (x3 : Int32) (M : Mm) : Option (Int32 × Mm) :=
  let v6 : Int32 := x3 + 1
  k4 x0 x1 x2 v6 M
set_option maxRecDepth 100000 in
set_option maxHeartbeats 4000000 in
theorem e_House_greatestRemainder_J27 {G : Gx} (k4 : Nat → Int32 → Int32 → Int32 → Mm → Option (Int32 × Mm)) (hk4 : ∀ (x0 : Nat) (x1 : Int32) (x2 : Int32) (x3 : Int32) (M : Mm), EJ G Y_House_greatestRemainder cvI 1 4 [(0, .ref x0), (1, .int x1), (2, .int x2), (3, .int x3)] [] M (k4 x0 x1 x2 x3 M)) (x0 : Nat) (x1 : Int32) (x2 : Int32) (x3 : Int32) (M : Mm) : EJ G Y_House_greatestRemainder cvI 1 27 [(0, .ref x0), (1, .int x1), (2, .int x2), (3, .int x3)] [] M (House_greatestRemainder_J27 k4 x0 x1 x2 x3 M) := by
  unfold House_greatestRemainder_J27
  refine EJ_iinc 30 3 (lv2 := [(3, .int _), (0, .ref _), (1, .int _), (2, .int _)]) (dk_132 (bt bc_House_greatestRemainder_0 27 rfl) (bt bc_House_greatestRemainder_0 28 rfl) (bt bc_House_greatestRemainder_0 29 rfl) (n := 1) rfl) rfl (by decide) rfl (v := 1) kI_1 rfl ?_
  refine EJ_goto 4 (dk_167 (bt bc_House_greatestRemainder_0 30 rfl) (bt bc_House_greatestRemainder_0 31 rfl) (bt bc_House_greatestRemainder_1 0 rfl) (n := -26) rfl) (by decide) ?_
  exact EJ_pick (lv2 := [(0, .ref _), (1, .int _), (2, .int _), (3, .int _)]) [1, 2, 3, 0] rfl (hk4 _ _ _ _ _)
def House_greatestRemainder_B4 (k4 : Nat → Int32 → Int32 → Int32 → Mm → Option (Int32 × Mm)) (x0 : Nat) (x1 : Int32) (x2 : Int32) (x3 : Int32) (M : Mm) : Option (Int32 × Mm) :=
  if x1 ≤ x3 then (
    some (x2, M))
  else (
    ck (kO M x0 3 7) (
    nn (mR M x0 1) (fun b2 =>
    ck (kA M b2 23 x3) (
    nn (mR M x0 1) (fun b4 =>
    ck (kA M b4 23 x2) (
    if (mL M b2 (ix x3)) ≤ (mL M b4 (ix x2)) then (
      House_greatestRemainder_J27 k4 x0 x1 x2 x3 M)
    else (
      House_greatestRemainder_J27 k4 x0 x1 x3 x3 M)))))))
set_option maxRecDepth 100000 in
set_option maxHeartbeats 4000000 in
theorem e_House_greatestRemainder_B4 {G : Gx} (k4 : Nat → Int32 → Int32 → Int32 → Mm → Option (Int32 × Mm)) (hk4 : ∀ (x0 : Nat) (x1 : Int32) (x2 : Int32) (x3 : Int32) (M : Mm), EJ G Y_House_greatestRemainder cvI 1 4 [(0, .ref x0), (1, .int x1), (2, .int x2), (3, .int x3)] [] M (k4 x0 x1 x2 x3 M)) (x0 : Nat) (x1 : Int32) (x2 : Int32) (x3 : Int32) (M : Mm) : EJ G Y_House_greatestRemainder cvI 1 4 [(0, .ref x0), (1, .int x1), (2, .int x2), (3, .int x3)] [] M (House_greatestRemainder_B4 k4 x0 x1 x2 x3 M) := by
  unfold House_greatestRemainder_B4
  refine EJ_iload_n 5 3 (dk_29 (bt bc_House_greatestRemainder_0 4 rfl)) rfl rfl ?_
  refine EJ_iload_n 6 1 (dk_27 (bt bc_House_greatestRemainder_0 5 rfl)) rfl rfl ?_
  refine EJ_icmp_ge 33 9 (dk_162 (bt bc_House_greatestRemainder_0 6 rfl) (bt bc_House_greatestRemainder_0 7 rfl) (bt bc_House_greatestRemainder_0 8 rfl) (n := 27) rfl) (by decide) rfl (fun _ => ?_) (fun _ => ?_)
  · refine EJ_iload_n 34 2 (dk_28 (bt bc_House_greatestRemainder_1 1 rfl)) rfl rfl ?_
    exact EJ_iret rfl (dk_172 (bt bc_House_greatestRemainder_1 2 rfl))
  · refine EJ_aload_n 10 0 (dk_42 (bt bc_House_greatestRemainder_0 9 rfl)) rfl rfl ?_
    refine EJ_ck (fun h1 => ?_)
    refine EJ_getR cf3 1 (by decide) 13 tw_147 (fun _ _ _ => rfl) (dk_180 (bt bc_House_greatestRemainder_0 10 rfl) (bt bc_House_greatestRemainder_0 11 rfl) (bt bc_House_greatestRemainder_0 12 rfl) (n := 15) rfl) rfl (of_decide_eq_true h1) (fun b2 => ?_)
    refine EJ_iload_n 14 3 (dk_29 (bt bc_House_greatestRemainder_0 13 rfl)) rfl rfl ?_
    refine EJ_ck (fun h3 => ?_)
    refine EJ_lald 15 h3 (dk_47 (bt bc_House_greatestRemainder_0 14 rfl)) rfl ?_
    refine EJ_aload_n 16 0 (dk_42 (bt bc_House_greatestRemainder_0 15 rfl)) rfl rfl ?_
    refine EJ_getR cf3 1 (by decide) 19 tw_147 (fun _ _ _ => rfl) (dk_180 (bt bc_House_greatestRemainder_0 16 rfl) (bt bc_House_greatestRemainder_0 17 rfl) (bt bc_House_greatestRemainder_0 18 rfl) (n := 15) rfl) rfl (of_decide_eq_true h1) (fun b4 => ?_)
    refine EJ_iload_n 20 2 (dk_28 (bt bc_House_greatestRemainder_0 19 rfl)) rfl rfl ?_
    refine EJ_ck (fun h5 => ?_)
    refine EJ_lald 21 h5 (dk_47 (bt bc_House_greatestRemainder_0 20 rfl)) rfl ?_
    refine EJ_lcmp_le 27 25 (dk_148 (bt bc_House_greatestRemainder_0 21 rfl)) (dk_158 (bt bc_House_greatestRemainder_0 22 rfl) (bt bc_House_greatestRemainder_0 23 rfl) (bt bc_House_greatestRemainder_0 24 rfl) (n := 5) rfl) (by decide) rfl (fun _ => ?_) (fun _ => ?_)
    · exact EJ_pick (lv2 := [(0, .ref _), (1, .int _), (2, .int _), (3, .int _)]) [0, 1, 2, 3] rfl (e_House_greatestRemainder_J27 k4 hk4 _ _ _ _ _)
    · refine EJ_iload_n 26 3 (dk_29 (bt bc_House_greatestRemainder_0 25 rfl)) rfl rfl ?_
      refine EJ_istore_n 27 (lv2 := [(2, .int _), (0, .ref _), (1, .int _), (3, .int _)]) (dk_61 (bt bc_House_greatestRemainder_0 26 rfl)) rfl (by decide) rfl ?_
      exact EJ_pick (lv2 := [(0, .ref _), (1, .int _), (2, .int _), (3, .int _)]) [1, 2, 0, 3] rfl (e_House_greatestRemainder_J27 k4 hk4 _ _ _ _ _)
def House_greatestRemainder_L4 (n : Nat) : Nat → Int32 → Int32 → Int32 → Mm → Option (Int32 × Mm) :=
  match n with
  | 0 => fun _ _ _ _ _ => none
  | n + 1 => House_greatestRemainder_B4 (House_greatestRemainder_L4 n)
theorem e_House_greatestRemainder_L4 {G : Gx} : ∀ (n : Nat) (x0 : Nat) (x1 : Int32) (x2 : Int32) (x3 : Int32) (M : Mm), EJ G Y_House_greatestRemainder cvI 1 4 [(0, .ref x0), (1, .int x1), (2, .int x2), (3, .int x3)] [] M (House_greatestRemainder_L4 n x0 x1 x2 x3 M) := by
  intro n
  induction n with
  | zero => intros; exact EJ_none
  | succ n ih => intro x0 x1 x2 x3 M; exact e_House_greatestRemainder_B4 _ ih x0 x1 x2 x3 M
def House_greatestRemainder (M : Mm) (a0 : Nat) (a1 : Int32) : Option (Int32 × Mm) :=
  House_greatestRemainder_L4 fu a0 a1 0 1 M
set_option maxRecDepth 100000 in
set_option maxHeartbeats 4000000 in
theorem s_House_greatestRemainder (G : Gx) (M : Mm) (a0 : Nat) (a1 : Int32) : FnS G Y_House_greatestRemainder cvI 1 [.ref a0, .int a1] M (House_greatestRemainder M a0 a1) := by
  refine FnS.ofE (by decide) (Nat.le_of_ble_eq_true rfl) ?_
  show EJ G Y_House_greatestRemainder cvI 1 0 [(0, .ref a0), (1, .int a1)] [] M _
  unfold House_greatestRemainder
  refine EJ_iconst 1 (dk_3 (bt bc_House_greatestRemainder_0 0 rfl)) rfl (v := 0) kI_0 ?_
  refine EJ_istore_n 2 (lv2 := [(2, .int _), (0, .ref _), (1, .int _)]) (dk_61 (bt bc_House_greatestRemainder_0 1 rfl)) rfl (by decide) rfl ?_
  refine EJ_iconst 3 (dk_4 (bt bc_House_greatestRemainder_0 2 rfl)) rfl (v := 1) kI_1 ?_
  refine EJ_istore_n 4 (lv2 := [(3, .int _), (2, .int _), (0, .ref _), (1, .int _)]) (dk_62 (bt bc_House_greatestRemainder_0 3 rfl)) rfl (by decide) rfl ?_
  exact EJ_pick (lv2 := [(0, .ref _), (1, .int _), (2, .int _), (3, .int _)]) [2, 3, 1, 0] rfl (e_House_greatestRemainder_L4 fu _ _ _ _ _)
abbrev Y_House_partTheLack : Ym := (⟨"RiceHall$House", "partTheLack", "([LRiceHall$Person;I)V"⟩, prog_5_method_10_code, 12, none)
theorem bc_House_partTheLack_0 : bts prog_5_method_10_code 0 [9, 66, 3, 54, 5, 21, 5, 28, 162, 0, 23, 33, 9, 43, 21, 5, 50, 180, 0, 27, 184, 0, 93, 97, 66, 132, 5, 1, 167, 255, 233, 42] := bts_of (by decide +kernel)
theorem bc_House_partTheLack_1 : bts prog_5_method_10_code 32 [180, 0, 23, 9, 148, 156, 0, 9, 33, 9, 148, 157, 0, 4, 177, 42, 180, 0, 23, 117, 33, 184, 0, 96, 55, 5, 22, 5, 55, 7, 3, 54] := bts_of (by decide +kernel)
theorem bc_House_partTheLack_2 : bts prog_5_method_10_code 64 [9, 21, 9, 28, 162, 0, 52, 42, 21, 9, 9, 43, 21, 9, 50, 180, 0, 27, 184, 0, 93, 22, 5, 33, 182, 0, 99, 55, 10, 43, 21, 9] := bts_of (by decide +kernel)
theorem bc_House_partTheLack_3 : bts prog_5_method_10_code 96 [50, 89, 180, 0, 27, 22, 10, 101, 181, 0, 27, 22, 7, 22, 10, 101, 55, 7, 132, 9, 1, 167, 255, 204, 3, 54, 9, 21, 9, 28, 162, 0] := bts_of (by decide +kernel)
theorem bc_House_partTheLack_4 : bts prog_5_method_10_code 128 [50, 22, 7, 9, 148, 158, 0, 43, 42, 28, 182, 0, 103, 54, 10, 43, 21, 10, 50, 89, 180, 0, 27, 10, 101, 181, 0, 27, 42, 180, 0, 15] := bts_of (by decide +kernel)
theorem bc_House_partTheLack_5 : bts prog_5_method_10_code 160 [21, 10, 9, 80, 22, 7, 10, 101, 55, 7, 132, 9, 1, 167, 255, 206, 42, 89, 180, 0, 23, 22, 5, 97, 181, 0, 23, 177] := bts_of (by decide +kernel)
theorem hd_House_partTheLack : Y_House_partTheLack.1.cls = RX3 ∧ Y_House_partTheLack.1.cls ≠ "java/lang/invoke/MethodHandle" ∧ Y_House_partTheLack.1.cls ≠ "java/lang/invoke/VarHandle" ∧ (parseMethodDescriptor Y_House_partTheLack.1.desc).map (fun d => d.parameters.length) = some 2 := by decide +kernel
def House_partTheLack_J176 (x0 : Nat) (x5 : Int64) (M : Mm) : Option (Unit × Mm) :=
  ck (kO M x0 3 7) (
  let M5 := sL M x0 4 ((mL M x0 4) + x5)
  some ((), M5))
set_option maxRecDepth 100000 in
set_option maxHeartbeats 4000000 in
theorem e_House_partTheLack_J176 {G : Gx} (x0 : Nat) (x5 : Int64) (M : Mm) : EJ G Y_House_partTheLack cvV 2 176 [(0, .ref x0), (5, .long x5)] [] M (House_partTheLack_J176 x0 x5 M) := by
  unfold House_partTheLack_J176
  refine EJ_aload_n 177 0 (dk_42 (bt bc_House_partTheLack_5 16 rfl)) rfl rfl ?_
  refine EJ_dup 178 (dk_89 (bt bc_House_partTheLack_5 17 rfl)) rfl rfl ?_
  refine EJ_ck (fun h4 => ?_)
  refine EJ_getL cf3 4 (by decide) 181 tw_152 (fun _ _ _ => rfl) (dk_180 (bt bc_House_partTheLack_5 18 rfl) (bt bc_House_partTheLack_5 19 rfl) (bt bc_House_partTheLack_5 20 rfl) (n := 23) rfl) rfl (of_decide_eq_true h4) ?_
  refine EJ_lload 183 1 (dk_22 (bt bc_House_partTheLack_5 21 rfl) (bt bc_House_partTheLack_5 22 rfl)) rfl rfl ?_
  refine EJ_ladd 184 (dk_97 (bt bc_House_partTheLack_5 23 rfl)) rfl ?_
  refine EJ_putL cf3 4 (by decide) 187 tw_152 rfl (Or.inl rfl) (dk_181 (bt bc_House_partTheLack_5 24 rfl) (bt bc_House_partTheLack_5 25 rfl) (bt bc_House_partTheLack_5 26 rfl) (n := 23) rfl) rfl (of_decide_eq_true h4) ?_
  exact EJ_vret rfl (dk_177 (bt bc_House_partTheLack_5 27 rfl))
def House_partTheLack_B123 (k123 : Nat → Nat → Int32 → Int64 → Int64 → Int32 → Mm → Option (Unit × Mm)) (x0 : Nat) (x1 : Nat) (x2 : Int32) (x5 : Int64) (x7 : Int64) (x9 : Int32) (M : Mm) : Option (Unit × Mm) :=
  if x2 ≤ x9 then (
    House_partTheLack_J176 x0 x5 M)
  else (
    if x7 ≤ 0 then (
      House_partTheLack_J176 x0 x5 M)
    else (
      ck (kO M x0 3 7) (
      bd (House_greatestRemainder M x0 x2) (fun r7 M8 =>
      ck (kA M8 x1 24 r7) (
      nn (mR M8 x1 (ix r7)) (fun b10 =>
      ck (kO M8 b10 6 9) (
      let M12 := sL M8 b10 3 ((mL M8 b10 3) - 1)
      ck (kO M12 x0 3 7) (
      nn (mR M12 x0 1) (fun b14 =>
      ck (kA M12 b14 23 r7) (
      let M16 := sL M12 b14 (ix r7) 0
      let v17 : Int64 := x7 - 1
      let v18 : Int32 := x9 + 1
      k123 x0 x1 x2 x5 v17 v18 M16))))))))))
set_option maxRecDepth 100000 in
set_option maxHeartbeats 4000000 in
theorem e_House_partTheLack_B123 {G : Gx} (k123 : Nat → Nat → Int32 → Int64 → Int64 → Int32 → Mm → Option (Unit × Mm)) (hk123 : ∀ (x0 : Nat) (x1 : Nat) (x2 : Int32) (x5 : Int64) (x7 : Int64) (x9 : Int32) (M : Mm), EJ G Y_House_partTheLack cvV 2 123 [(0, .ref x0), (1, .ref x1), (2, .int x2), (5, .long x5), (7, .long x7), (9, .int x9)] [] M (k123 x0 x1 x2 x5 x7 x9 M)) (x0 : Nat) (x1 : Nat) (x2 : Int32) (x5 : Int64) (x7 : Int64) (x9 : Int32) (M : Mm) : EJ G Y_House_partTheLack cvV 2 123 [(0, .ref x0), (1, .ref x1), (2, .int x2), (5, .long x5), (7, .long x7), (9, .int x9)] [] M (House_partTheLack_B123 k123 x0 x1 x2 x5 x7 x9 M) := by
  unfold House_partTheLack_B123
  refine EJ_iload 125 5 (dk_21 (bt bc_House_partTheLack_3 27 rfl) (bt bc_House_partTheLack_3 28 rfl)) rfl rfl ?_
  refine EJ_iload_n 126 2 (dk_28 (bt bc_House_partTheLack_3 29 rfl)) rfl rfl ?_
  refine EJ_icmp_ge 176 129 (dk_162 (bt bc_House_partTheLack_3 30 rfl) (bt bc_House_partTheLack_3 31 rfl) (bt bc_House_partTheLack_4 0 rfl) (n := 50) rfl) (by decide) rfl (fun _ => ?_) (fun _ => ?_)
  · exact EJ_pick (lv2 := [(0, .ref _), (5, .long _)]) [0, 3] rfl (e_House_partTheLack_J176 _ _ _)
  · refine EJ_lload 131 4 (dk_22 (bt bc_House_partTheLack_4 1 rfl) (bt bc_House_partTheLack_4 2 rfl)) rfl rfl ?_
    refine EJ_lconst 132 (dk_9 (bt bc_House_partTheLack_4 3 rfl)) rfl (v := 0) (by decide) ?_
    refine EJ_lcmp_le 176 136 (dk_148 (bt bc_House_partTheLack_4 4 rfl)) (dk_158 (bt bc_House_partTheLack_4 5 rfl) (bt bc_House_partTheLack_4 6 rfl) (bt bc_House_partTheLack_4 7 rfl) (n := 43) rfl) (by decide) rfl (fun _ => ?_) (fun _ => ?_)
    · exact EJ_pick (lv2 := [(0, .ref _), (5, .long _)]) [0, 3] rfl (e_House_partTheLack_J176 _ _ _)
    · refine EJ_aload_n 137 0 (dk_42 (bt bc_House_partTheLack_4 8 rfl)) rfl rfl ?_
      refine EJ_iload_n 138 2 (dk_28 (bt bc_House_partTheLack_4 9 rfl)) rfl rfl ?_
      refine EJ_ck (fun h6 => ?_)
      refine EJ_callVi (Y2 := Y_House_greatestRemainder) 141 cf3 (s_House_greatestRemainder G _ _ _) (of_decide_eq_true h6) rfl (dk_182 (bt bc_House_partTheLack_4 10 rfl) (bt bc_House_partTheLack_4 11 rfl) (bt bc_House_partTheLack_4 12 rfl) (n := 103) rfl) rfl tw_1088 tw_1090 ts_30 tw_1091 hd_House_greatestRemainder rfl (by decide) (Nat.le_of_ble_eq_true rfl) (fun r7 M8 => ?_)
      refine EJ_istore 143 (lv2 := [(10, .int _), (0, .ref _), (1, .ref _), (2, .int _), (5, .long _), (7, .long _), (9, .int _)]) (dk_54 (bt bc_House_partTheLack_4 13 rfl) (bt bc_House_partTheLack_4 14 rfl)) rfl (by decide) rfl ?_
      refine EJ_aload_n 144 2 (dk_43 (bt bc_House_partTheLack_4 15 rfl)) rfl rfl ?_
      refine EJ_iload 146 0 (dk_21 (bt bc_House_partTheLack_4 16 rfl) (bt bc_House_partTheLack_4 17 rfl)) rfl rfl ?_
      refine EJ_ck (fun h9 => ?_)
      refine EJ_aald 4 147 (by decide) (by decide) rfl h9 (dk_50 (bt bc_House_partTheLack_4 18 rfl)) rfl (fun b10 => ?_)
      refine EJ_dup 148 (dk_89 (bt bc_House_partTheLack_4 19 rfl)) rfl rfl ?_
      refine EJ_ck (fun h11 => ?_)
      refine EJ_getL cf6 3 (by decide) 151 tw_346 (fun _ _ _ => rfl) (dk_180 (bt bc_House_partTheLack_4 20 rfl) (bt bc_House_partTheLack_4 21 rfl) (bt bc_House_partTheLack_4 22 rfl) (n := 27) rfl) rfl (of_decide_eq_true h11) ?_
      refine EJ_lconst 152 (dk_10 (bt bc_House_partTheLack_4 23 rfl)) rfl (v := 1) (by decide) ?_
      refine EJ_lsub 153 (dk_101 (bt bc_House_partTheLack_4 24 rfl)) rfl ?_
      refine EJ_putL cf6 3 (by decide) 156 tw_346 rfl (Or.inl rfl) (dk_181 (bt bc_House_partTheLack_4 25 rfl) (bt bc_House_partTheLack_4 26 rfl) (bt bc_House_partTheLack_4 27 rfl) (n := 27) rfl) rfl (of_decide_eq_true h11) ?_
      refine EJ_aload_n 157 1 (dk_42 (bt bc_House_partTheLack_4 28 rfl)) rfl rfl ?_
      refine EJ_ck (fun h13 => ?_)
      refine EJ_getR cf3 1 (by decide) 160 tw_147 (fun _ _ _ => rfl) (dk_180 (bt bc_House_partTheLack_4 29 rfl) (bt bc_House_partTheLack_4 30 rfl) (bt bc_House_partTheLack_4 31 rfl) (n := 15) rfl) rfl (of_decide_eq_true h13) (fun b14 => ?_)
      refine EJ_iload 162 0 (dk_21 (bt bc_House_partTheLack_5 0 rfl) (bt bc_House_partTheLack_5 1 rfl)) rfl rfl ?_
      refine EJ_lconst 163 (dk_9 (bt bc_House_partTheLack_5 2 rfl)) rfl (v := 0) (by decide) ?_
      refine EJ_ck (fun h15 => ?_)
      refine EJ_last 164 h15 (dk_80 (bt bc_House_partTheLack_5 3 rfl)) rfl ?_
      refine EJ_lload 166 5 (dk_22 (bt bc_House_partTheLack_5 4 rfl) (bt bc_House_partTheLack_5 5 rfl)) rfl rfl ?_
      refine EJ_lconst 167 (dk_10 (bt bc_House_partTheLack_5 6 rfl)) rfl (v := 1) (by decide) ?_
      refine EJ_lsub 168 (dk_101 (bt bc_House_partTheLack_5 7 rfl)) rfl ?_
      refine EJ_lstore 170 (lv2 := [(7, .long _), (10, .int _), (0, .ref _), (1, .ref _), (2, .int _), (5, .long _), (9, .int _)]) (dk_55 (bt bc_House_partTheLack_5 8 rfl) (bt bc_House_partTheLack_5 9 rfl)) rfl (by decide) rfl ?_
      refine EJ_iinc 173 6 (lv2 := [(9, .int _), (7, .long _), (10, .int _), (0, .ref _), (1, .ref _), (2, .int _), (5, .long _)]) (dk_132 (bt bc_House_partTheLack_5 10 rfl) (bt bc_House_partTheLack_5 11 rfl) (bt bc_House_partTheLack_5 12 rfl) (n := 1) rfl) rfl (by decide) rfl (v := 1) kI_1 rfl ?_
      refine EJ_goto 123 (dk_167 (bt bc_House_partTheLack_5 13 rfl) (bt bc_House_partTheLack_5 14 rfl) (bt bc_House_partTheLack_5 15 rfl) (n := -50) rfl) (by decide) ?_
      exact EJ_pick (lv2 := [(0, .ref _), (1, .ref _), (2, .int _), (5, .long _), (7, .long _), (9, .int _)]) [3, 4, 5, 6, 1, 0] rfl (hk123 _ _ _ _ _ _ _)
def House_partTheLack_L123 (n : Nat) : Nat → Nat → Int32 → Int64 → Int64 → Int32 → Mm → Option (Unit × Mm) :=
  match n with
  | 0 => fun _ _ _ _ _ _ _ => none
  | n + 1 => House_partTheLack_B123 (House_partTheLack_L123 n)
theorem e_House_partTheLack_L123 {G : Gx} : ∀ (n : Nat) (x0 : Nat) (x1 : Nat) (x2 : Int32) (x5 : Int64) (x7 : Int64) (x9 : Int32) (M : Mm), EJ G Y_House_partTheLack cvV 2 123 [(0, .ref x0), (1, .ref x1), (2, .int x2), (5, .long x5), (7, .long x7), (9, .int x9)] [] M (House_partTheLack_L123 n x0 x1 x2 x5 x7 x9 M) := by
  intro n
  induction n with
  | zero => intros; exact EJ_none
  | succ n ih => intro x0 x1 x2 x5 x7 x9 M; exact e_House_partTheLack_B123 _ ih x0 x1 x2 x5 x7 x9 M
def House_partTheLack_B65 (k65 : Nat → Nat → Int32 → Int64 → Int64 → Int64 → Int32 → Mm → Option (Unit × Mm)) (x0 : Nat) (x1 : Nat) (x2 : Int32) (x3 : Int64) (x5 : Int64) (x7 : Int64) (x9 : Int32) (M : Mm) : Option (Unit × Mm) :=
  if x2 ≤ x9 then (
    House_partTheLack_L123 fu x0 x1 x2 x5 x7 0 M)
  else (
    ck (kA M x1 24 x9) (
    nn (mR M x1 (ix x9)) (fun b20 =>
    ck (kO M b20 6 9) (
    bd (Math_max_L M 0 (mL M b20 3)) (fun r22 M23 =>
    ck (kO M23 x0 3 7) (
    bd (House_partOf M23 x0 x9 r22 x5 x3) (fun r25 M26 =>
    ck (kA M26 x1 24 x9) (
    nn (mR M26 x1 (ix x9)) (fun b28 =>
    ck (kO M26 b28 6 9) (
    let M30 := sL M26 b28 3 ((mL M26 b28 3) - r25)
    let v31 : Int64 := x7 - r25
    let v32 : Int32 := x9 + 1
    k65 x0 x1 x2 x3 x5 v31 v32 M30))))))))))
set_option maxRecDepth 100000 in
set_option maxHeartbeats 4000000 in
theorem e_House_partTheLack_B65 {G : Gx} (k65 : Nat → Nat → Int32 → Int64 → Int64 → Int64 → Int32 → Mm → Option (Unit × Mm)) (hk65 : ∀ (x0 : Nat) (x1 : Nat) (x2 : Int32) (x3 : Int64) (x5 : Int64) (x7 : Int64) (x9 : Int32) (M : Mm), EJ G Y_House_partTheLack cvV 2 65 [(0, .ref x0), (1, .ref x1), (2, .int x2), (3, .long x3), (5, .long x5), (7, .long x7), (9, .int x9)] [] M (k65 x0 x1 x2 x3 x5 x7 x9 M)) (x0 : Nat) (x1 : Nat) (x2 : Int32) (x3 : Int64) (x5 : Int64) (x7 : Int64) (x9 : Int32) (M : Mm) : EJ G Y_House_partTheLack cvV 2 65 [(0, .ref x0), (1, .ref x1), (2, .int x2), (3, .long x3), (5, .long x5), (7, .long x7), (9, .int x9)] [] M (House_partTheLack_B65 k65 x0 x1 x2 x3 x5 x7 x9 M) := by
  unfold House_partTheLack_B65
  refine EJ_iload 67 6 (dk_21 (bt bc_House_partTheLack_2 1 rfl) (bt bc_House_partTheLack_2 2 rfl)) rfl rfl ?_
  refine EJ_iload_n 68 2 (dk_28 (bt bc_House_partTheLack_2 3 rfl)) rfl rfl ?_
  refine EJ_icmp_ge 120 71 (dk_162 (bt bc_House_partTheLack_2 4 rfl) (bt bc_House_partTheLack_2 5 rfl) (bt bc_House_partTheLack_2 6 rfl) (n := 52) rfl) (by decide) rfl (fun _ => ?_) (fun _ => ?_)
  · refine EJ_iconst 121 (dk_3 (bt bc_House_partTheLack_3 24 rfl)) rfl (v := 0) kI_0 ?_
    refine EJ_istore 123 (lv2 := [(9, .int _), (0, .ref _), (1, .ref _), (2, .int _), (3, .long _), (5, .long _), (7, .long _)]) (dk_54 (bt bc_House_partTheLack_3 25 rfl) (bt bc_House_partTheLack_3 26 rfl)) rfl (by decide) rfl ?_
    exact EJ_pick (lv2 := [(0, .ref _), (1, .ref _), (2, .int _), (5, .long _), (7, .long _), (9, .int _)]) [1, 2, 3, 5, 6, 0] rfl (e_House_partTheLack_L123 fu _ _ _ _ _ _ _)
  · refine EJ_aload_n 72 0 (dk_42 (bt bc_House_partTheLack_2 7 rfl)) rfl rfl ?_
    refine EJ_iload 74 6 (dk_21 (bt bc_House_partTheLack_2 8 rfl) (bt bc_House_partTheLack_2 9 rfl)) rfl rfl ?_
    refine EJ_lconst 75 (dk_9 (bt bc_House_partTheLack_2 10 rfl)) rfl (v := 0) (by decide) ?_
    refine EJ_aload_n 76 1 (dk_43 (bt bc_House_partTheLack_2 11 rfl)) rfl rfl ?_
    refine EJ_iload 78 6 (dk_21 (bt bc_House_partTheLack_2 12 rfl) (bt bc_House_partTheLack_2 13 rfl)) rfl rfl ?_
    refine EJ_ck (fun h19 => ?_)
    refine EJ_aald 4 79 (by decide) (by decide) rfl h19 (dk_50 (bt bc_House_partTheLack_2 14 rfl)) rfl (fun b20 => ?_)
    refine EJ_ck (fun h21 => ?_)
    refine EJ_getL cf6 3 (by decide) 82 tw_346 (fun _ _ _ => rfl) (dk_180 (bt bc_House_partTheLack_2 15 rfl) (bt bc_House_partTheLack_2 16 rfl) (bt bc_House_partTheLack_2 17 rfl) (n := 27) rfl) rfl (of_decide_eq_true h21) ?_
    refine EJ_callSl (Y2 := Y_Math_max_L) 85 (s_Math_max_L G _ _ _) rfl (dk_184 (bt bc_House_partTheLack_2 18 rfl) (bt bc_House_partTheLack_2 19 rfl) (bt bc_House_partTheLack_2 20 rfl) (n := 93) rfl) rfl tw_1080 tw_1081 tw_9 tw_1082 hd_Math_max_L rfl (by decide) (Nat.le_of_ble_eq_true rfl) (fun r22 M23 => ?_)
    refine EJ_lload 87 4 (dk_22 (bt bc_House_partTheLack_2 21 rfl) (bt bc_House_partTheLack_2 22 rfl)) rfl rfl ?_
    refine EJ_lload_n 88 3 (dk_33 (bt bc_House_partTheLack_2 23 rfl)) rfl rfl ?_
    refine EJ_ck (fun h24 => ?_)
    refine EJ_callVl (Y2 := Y_House_partOf) 91 cf3 (s_House_partOf G _ _ _ _ _ _) (of_decide_eq_true h24) rfl (dk_182 (bt bc_House_partTheLack_2 24 rfl) (bt bc_House_partTheLack_2 25 rfl) (bt bc_House_partTheLack_2 26 rfl) (n := 99) rfl) rfl tw_1084 tw_1086 ts_29 tw_1087 hd_House_partOf rfl (by decide) (Nat.le_of_ble_eq_true rfl) (fun r25 M26 => ?_)
    refine EJ_lstore 93 (lv2 := [(10, .long _), (0, .ref _), (1, .ref _), (2, .int _), (3, .long _), (5, .long _), (7, .long _), (9, .int _)]) (dk_55 (bt bc_House_partTheLack_2 27 rfl) (bt bc_House_partTheLack_2 28 rfl)) rfl (by decide) rfl ?_
    refine EJ_aload_n 94 2 (dk_43 (bt bc_House_partTheLack_2 29 rfl)) rfl rfl ?_
    refine EJ_iload 96 7 (dk_21 (bt bc_House_partTheLack_2 30 rfl) (bt bc_House_partTheLack_2 31 rfl)) rfl rfl ?_
    refine EJ_ck (fun h27 => ?_)
    refine EJ_aald 4 97 (by decide) (by decide) rfl h27 (dk_50 (bt bc_House_partTheLack_3 0 rfl)) rfl (fun b28 => ?_)
    refine EJ_dup 98 (dk_89 (bt bc_House_partTheLack_3 1 rfl)) rfl rfl ?_
    refine EJ_ck (fun h29 => ?_)
    refine EJ_getL cf6 3 (by decide) 101 tw_346 (fun _ _ _ => rfl) (dk_180 (bt bc_House_partTheLack_3 2 rfl) (bt bc_House_partTheLack_3 3 rfl) (bt bc_House_partTheLack_3 4 rfl) (n := 27) rfl) rfl (of_decide_eq_true h29) ?_
    refine EJ_lload 103 0 (dk_22 (bt bc_House_partTheLack_3 5 rfl) (bt bc_House_partTheLack_3 6 rfl)) rfl rfl ?_
    refine EJ_lsub 104 (dk_101 (bt bc_House_partTheLack_3 7 rfl)) rfl ?_
    refine EJ_putL cf6 3 (by decide) 107 tw_346 rfl (Or.inl rfl) (dk_181 (bt bc_House_partTheLack_3 8 rfl) (bt bc_House_partTheLack_3 9 rfl) (bt bc_House_partTheLack_3 10 rfl) (n := 27) rfl) rfl (of_decide_eq_true h29) ?_
    refine EJ_lload 109 6 (dk_22 (bt bc_House_partTheLack_3 11 rfl) (bt bc_House_partTheLack_3 12 rfl)) rfl rfl ?_
    refine EJ_lload 111 0 (dk_22 (bt bc_House_partTheLack_3 13 rfl) (bt bc_House_partTheLack_3 14 rfl)) rfl rfl ?_
    refine EJ_lsub 112 (dk_101 (bt bc_House_partTheLack_3 15 rfl)) rfl ?_
    refine EJ_lstore 114 (lv2 := [(7, .long _), (10, .long _), (0, .ref _), (1, .ref _), (2, .int _), (3, .long _), (5, .long _), (9, .int _)]) (dk_55 (bt bc_House_partTheLack_3 16 rfl) (bt bc_House_partTheLack_3 17 rfl)) rfl (by decide) rfl ?_
    refine EJ_iinc 117 7 (lv2 := [(9, .int _), (7, .long _), (10, .long _), (0, .ref _), (1, .ref _), (2, .int _), (3, .long _), (5, .long _)]) (dk_132 (bt bc_House_partTheLack_3 18 rfl) (bt bc_House_partTheLack_3 19 rfl) (bt bc_House_partTheLack_3 20 rfl) (n := 1) rfl) rfl (by decide) rfl (v := 1) kI_1 rfl ?_
    refine EJ_goto 65 (dk_167 (bt bc_House_partTheLack_3 21 rfl) (bt bc_House_partTheLack_3 22 rfl) (bt bc_House_partTheLack_3 23 rfl) (n := -52) rfl) (by decide) ?_
    exact EJ_pick (lv2 := [(0, .ref _), (1, .ref _), (2, .int _), (3, .long _), (5, .long _), (7, .long _), (9, .int _)]) [3, 4, 5, 6, 7, 1, 0] rfl (hk65 _ _ _ _ _ _ _ _)
def House_partTheLack_L65 (n : Nat) : Nat → Nat → Int32 → Int64 → Int64 → Int64 → Int32 → Mm → Option (Unit × Mm) :=
  match n with
  | 0 => fun _ _ _ _ _ _ _ _ => none
  | n + 1 => House_partTheLack_B65 (House_partTheLack_L65 n)
theorem e_House_partTheLack_L65 {G : Gx} : ∀ (n : Nat) (x0 : Nat) (x1 : Nat) (x2 : Int32) (x3 : Int64) (x5 : Int64) (x7 : Int64) (x9 : Int32) (M : Mm), EJ G Y_House_partTheLack cvV 2 65 [(0, .ref x0), (1, .ref x1), (2, .int x2), (3, .long x3), (5, .long x5), (7, .long x7), (9, .int x9)] [] M (House_partTheLack_L65 n x0 x1 x2 x3 x5 x7 x9 M) := by
  intro n
  induction n with
  | zero => intros; exact EJ_none
  | succ n ih => intro x0 x1 x2 x3 x5 x7 x9 M; exact e_House_partTheLack_B65 _ ih x0 x1 x2 x3 x5 x7 x9 M
def House_partTheLack_B5 (k5 : Nat → Nat → Int32 → Int64 → Int32 → Mm → Option (Unit × Mm)) (x0 : Nat) (x1 : Nat) (x2 : Int32) (x3 : Int64) (x5 : Int32) (M : Mm) : Option (Unit × Mm) :=
  if x2 ≤ x5 then (
    ck (kO M x0 3 7) (
    if 0 ≤ (mL M x0 4) then (
      some ((), M))
    else (
      if 0 < x3 then (
        bd (Math_min_L M (-(mL M x0 4)) x3) (fun r2 M3 =>
        House_partTheLack_L65 fu x0 x1 x2 x3 r2 r2 0 M3))
      else (
        some ((), M)))))
  else (
    ck (kA M x1 24 x5) (
    nn (mR M x1 (ix x5)) (fun b34 =>
    ck (kO M b34 6 9) (
    bd (Math_max_L M 0 (mL M b34 3)) (fun r36 M37 =>
    let v38 : Int64 := x3 + r36
    let v39 : Int32 := x5 + 1
    k5 x0 x1 x2 v38 v39 M37)))))
set_option maxRecDepth 100000 in
set_option maxHeartbeats 4000000 in
theorem e_House_partTheLack_B5 {G : Gx} (k5 : Nat → Nat → Int32 → Int64 → Int32 → Mm → Option (Unit × Mm)) (hk5 : ∀ (x0 : Nat) (x1 : Nat) (x2 : Int32) (x3 : Int64) (x5 : Int32) (M : Mm), EJ G Y_House_partTheLack cvV 2 5 [(0, .ref x0), (1, .ref x1), (2, .int x2), (3, .long x3), (5, .int x5)] [] M (k5 x0 x1 x2 x3 x5 M)) (x0 : Nat) (x1 : Nat) (x2 : Int32) (x3 : Int64) (x5 : Int32) (M : Mm) : EJ G Y_House_partTheLack cvV 2 5 [(0, .ref x0), (1, .ref x1), (2, .int x2), (3, .long x3), (5, .int x5)] [] M (House_partTheLack_B5 k5 x0 x1 x2 x3 x5 M) := by
  unfold House_partTheLack_B5
  refine EJ_iload 7 4 (dk_21 (bt bc_House_partTheLack_0 5 rfl) (bt bc_House_partTheLack_0 6 rfl)) rfl rfl ?_
  refine EJ_iload_n 8 2 (dk_28 (bt bc_House_partTheLack_0 7 rfl)) rfl rfl ?_
  refine EJ_icmp_ge 31 11 (dk_162 (bt bc_House_partTheLack_0 8 rfl) (bt bc_House_partTheLack_0 9 rfl) (bt bc_House_partTheLack_0 10 rfl) (n := 23) rfl) (by decide) rfl (fun _ => ?_) (fun _ => ?_)
  · refine EJ_aload_n 32 0 (dk_42 (bt bc_House_partTheLack_0 31 rfl)) rfl rfl ?_
    refine EJ_ck (fun h1 => ?_)
    refine EJ_getL cf3 4 (by decide) 35 tw_152 (fun _ _ _ => rfl) (dk_180 (bt bc_House_partTheLack_1 0 rfl) (bt bc_House_partTheLack_1 1 rfl) (bt bc_House_partTheLack_1 2 rfl) (n := 23) rfl) rfl (of_decide_eq_true h1) ?_
    refine EJ_lconst 36 (dk_9 (bt bc_House_partTheLack_1 3 rfl)) rfl (v := 0) (by decide) ?_
    refine EJ_lcmp_ge 46 40 (dk_148 (bt bc_House_partTheLack_1 4 rfl)) (dk_156 (bt bc_House_partTheLack_1 5 rfl) (bt bc_House_partTheLack_1 6 rfl) (bt bc_House_partTheLack_1 7 rfl) (n := 9) rfl) (by decide) rfl (fun _ => ?_) (fun _ => ?_)
    · exact EJ_vret rfl (dk_177 (bt bc_House_partTheLack_1 14 rfl))
    · refine EJ_lload_n 41 3 (dk_33 (bt bc_House_partTheLack_1 8 rfl)) rfl rfl ?_
      refine EJ_lconst 42 (dk_9 (bt bc_House_partTheLack_1 9 rfl)) rfl (v := 0) (by decide) ?_
      refine EJ_lcmp_gt 47 46 (dk_148 (bt bc_House_partTheLack_1 10 rfl)) (dk_157 (bt bc_House_partTheLack_1 11 rfl) (bt bc_House_partTheLack_1 12 rfl) (bt bc_House_partTheLack_1 13 rfl) (n := 4) rfl) (by decide) rfl (fun _ => ?_) (fun _ => ?_)
      · refine EJ_aload_n 48 0 (dk_42 (bt bc_House_partTheLack_1 15 rfl)) rfl rfl ?_
        refine EJ_getL cf3 4 (by decide) 51 tw_152 (fun _ _ _ => rfl) (dk_180 (bt bc_House_partTheLack_1 16 rfl) (bt bc_House_partTheLack_1 17 rfl) (bt bc_House_partTheLack_1 18 rfl) (n := 23) rfl) rfl (of_decide_eq_true h1) ?_
        refine EJ_lneg 52 (dk_117 (bt bc_House_partTheLack_1 19 rfl)) rfl ?_
        refine EJ_lload_n 53 3 (dk_33 (bt bc_House_partTheLack_1 20 rfl)) rfl rfl ?_
        refine EJ_callSl (Y2 := Y_Math_min_L) 56 (s_Math_min_L G _ _ _) rfl (dk_184 (bt bc_House_partTheLack_1 21 rfl) (bt bc_House_partTheLack_1 22 rfl) (bt bc_House_partTheLack_1 23 rfl) (n := 96) rfl) rfl tw_1083 tw_592 tw_9 tw_593 hd_Math_min_L rfl (by decide) (Nat.le_of_ble_eq_true rfl) (fun r2 M3 => ?_)
        refine EJ_lstore 58 (lv2 := [(5, .long _), (0, .ref _), (1, .ref _), (2, .int _), (3, .long _)]) (dk_55 (bt bc_House_partTheLack_1 24 rfl) (bt bc_House_partTheLack_1 25 rfl)) rfl (by decide) rfl ?_
        refine EJ_lload 60 0 (dk_22 (bt bc_House_partTheLack_1 26 rfl) (bt bc_House_partTheLack_1 27 rfl)) rfl rfl ?_
        refine EJ_lstore 62 (lv2 := [(7, .long _), (5, .long _), (0, .ref _), (1, .ref _), (2, .int _), (3, .long _)]) (dk_55 (bt bc_House_partTheLack_1 28 rfl) (bt bc_House_partTheLack_1 29 rfl)) rfl (by decide) rfl ?_
        refine EJ_iconst 63 (dk_3 (bt bc_House_partTheLack_1 30 rfl)) rfl (v := 0) kI_0 ?_
        refine EJ_istore 65 (lv2 := [(9, .int _), (7, .long _), (5, .long _), (0, .ref _), (1, .ref _), (2, .int _), (3, .long _)]) (dk_54 (bt bc_House_partTheLack_1 31 rfl) (bt bc_House_partTheLack_2 0 rfl)) rfl (by decide) rfl ?_
        exact EJ_pick (lv2 := [(0, .ref _), (1, .ref _), (2, .int _), (3, .long _), (5, .long _), (7, .long _), (9, .int _)]) [3, 4, 5, 6, 2, 1, 0] rfl (e_House_partTheLack_L65 fu _ _ _ _ _ _ _ _)
      · exact EJ_vret rfl (dk_177 (bt bc_House_partTheLack_1 14 rfl))
  · refine EJ_lload_n 12 3 (dk_33 (bt bc_House_partTheLack_0 11 rfl)) rfl rfl ?_
    refine EJ_lconst 13 (dk_9 (bt bc_House_partTheLack_0 12 rfl)) rfl (v := 0) (by decide) ?_
    refine EJ_aload_n 14 1 (dk_43 (bt bc_House_partTheLack_0 13 rfl)) rfl rfl ?_
    refine EJ_iload 16 4 (dk_21 (bt bc_House_partTheLack_0 14 rfl) (bt bc_House_partTheLack_0 15 rfl)) rfl rfl ?_
    refine EJ_ck (fun h33 => ?_)
    refine EJ_aald 4 17 (by decide) (by decide) rfl h33 (dk_50 (bt bc_House_partTheLack_0 16 rfl)) rfl (fun b34 => ?_)
    refine EJ_ck (fun h35 => ?_)
    refine EJ_getL cf6 3 (by decide) 20 tw_346 (fun _ _ _ => rfl) (dk_180 (bt bc_House_partTheLack_0 17 rfl) (bt bc_House_partTheLack_0 18 rfl) (bt bc_House_partTheLack_0 19 rfl) (n := 27) rfl) rfl (of_decide_eq_true h35) ?_
    refine EJ_callSl (Y2 := Y_Math_max_L) 23 (s_Math_max_L G _ _ _) rfl (dk_184 (bt bc_House_partTheLack_0 20 rfl) (bt bc_House_partTheLack_0 21 rfl) (bt bc_House_partTheLack_0 22 rfl) (n := 93) rfl) rfl tw_1080 tw_1081 tw_9 tw_1082 hd_Math_max_L rfl (by decide) (Nat.le_of_ble_eq_true rfl) (fun r36 M37 => ?_)
    refine EJ_ladd 24 (dk_97 (bt bc_House_partTheLack_0 23 rfl)) rfl ?_
    refine EJ_lstore_n 25 (lv2 := [(3, .long _), (0, .ref _), (1, .ref _), (2, .int _), (5, .int _)]) (dk_66 (bt bc_House_partTheLack_0 24 rfl)) rfl (by decide) rfl ?_
    refine EJ_iinc 28 4 (lv2 := [(5, .int _), (3, .long _), (0, .ref _), (1, .ref _), (2, .int _)]) (dk_132 (bt bc_House_partTheLack_0 25 rfl) (bt bc_House_partTheLack_0 26 rfl) (bt bc_House_partTheLack_0 27 rfl) (n := 1) rfl) rfl (by decide) rfl (v := 1) kI_1 rfl ?_
    refine EJ_goto 5 (dk_167 (bt bc_House_partTheLack_0 28 rfl) (bt bc_House_partTheLack_0 29 rfl) (bt bc_House_partTheLack_0 30 rfl) (n := -23) rfl) (by decide) ?_
    exact EJ_pick (lv2 := [(0, .ref _), (1, .ref _), (2, .int _), (3, .long _), (5, .int _)]) [2, 3, 4, 1, 0] rfl (hk5 _ _ _ _ _ _)
def House_partTheLack_L5 (n : Nat) : Nat → Nat → Int32 → Int64 → Int32 → Mm → Option (Unit × Mm) :=
  match n with
  | 0 => fun _ _ _ _ _ _ => none
  | n + 1 => House_partTheLack_B5 (House_partTheLack_L5 n)
theorem e_House_partTheLack_L5 {G : Gx} : ∀ (n : Nat) (x0 : Nat) (x1 : Nat) (x2 : Int32) (x3 : Int64) (x5 : Int32) (M : Mm), EJ G Y_House_partTheLack cvV 2 5 [(0, .ref x0), (1, .ref x1), (2, .int x2), (3, .long x3), (5, .int x5)] [] M (House_partTheLack_L5 n x0 x1 x2 x3 x5 M) := by
  intro n
  induction n with
  | zero => intros; exact EJ_none
  | succ n ih => intro x0 x1 x2 x3 x5 M; exact e_House_partTheLack_B5 _ ih x0 x1 x2 x3 x5 M
def House_partTheLack (M : Mm) (a0 : Nat) (a1 : Nat) (a2 : Int32) : Option (Unit × Mm) :=
  House_partTheLack_L5 fu a0 a1 a2 0 0 M
set_option maxRecDepth 100000 in
set_option maxHeartbeats 4000000 in
theorem s_House_partTheLack (G : Gx) (M : Mm) (a0 : Nat) (a1 : Nat) (a2 : Int32) : FnS G Y_House_partTheLack cvV 2 [.ref a0, .ref a1, .int a2] M (House_partTheLack M a0 a1 a2) := by
  refine FnS.ofE (by decide) (Nat.le_of_ble_eq_true rfl) ?_
  show EJ G Y_House_partTheLack cvV 2 0 [(0, .ref a0), (1, .ref a1), (2, .int a2)] [] M _
  unfold House_partTheLack
  refine EJ_lconst 1 (dk_9 (bt bc_House_partTheLack_0 0 rfl)) rfl (v := 0) (by decide) ?_
  refine EJ_lstore_n 2 (lv2 := [(3, .long _), (0, .ref _), (1, .ref _), (2, .int _)]) (dk_66 (bt bc_House_partTheLack_0 1 rfl)) rfl (by decide) rfl ?_
  refine EJ_iconst 3 (dk_3 (bt bc_House_partTheLack_0 2 rfl)) rfl (v := 0) kI_0 ?_
  refine EJ_istore 5 (lv2 := [(5, .int _), (3, .long _), (0, .ref _), (1, .ref _), (2, .int _)]) (dk_54 (bt bc_House_partTheLack_0 3 rfl) (bt bc_House_partTheLack_0 4 rfl)) rfl (by decide) rfl ?_
  exact EJ_pick (lv2 := [(0, .ref _), (1, .ref _), (2, .int _), (3, .long _), (5, .int _)]) [2, 3, 4, 1, 0] rfl (e_House_partTheLack_L5 fu _ _ _ _ _ _)
abbrev Y_House_settleAt : Ym := (⟨"RiceHall$House", "settleAt", "([LRiceHall$Person;II)V"⟩, prog_5_method_13_code, 5, none)
theorem bc_House_settleAt_0 : bts prog_5_method_13_code 0 [29, 4, 161, 0, 12, 42, 180, 0, 19, 29, 112, 153, 0, 4, 177, 42, 3, 181, 0, 49, 3, 54, 4, 21, 4, 28, 162, 0, 25, 43, 21, 4] := bts_of (by decide +kernel)
theorem bc_House_settleAt_1 : bts prog_5_method_13_code 32 [50, 3, 181, 0, 46, 43, 21, 4, 50, 2, 181, 0, 80, 132, 4, 1, 167, 255, 231, 177] := bts_of (by decide +kernel)
theorem hd_House_settleAt : Y_House_settleAt.1.cls = RX3 ∧ Y_House_settleAt.1.cls ≠ "java/lang/invoke/MethodHandle" ∧ Y_House_settleAt.1.cls ≠ "java/lang/invoke/VarHandle" ∧ (parseMethodDescriptor Y_House_settleAt.1.desc).map (fun d => d.parameters.length) = some 3 := by decide +kernel
def House_settleAt_B23 (k23 : Nat → Int32 → Int32 → Mm → Option (Unit × Mm)) (x1 : Nat) (x2 : Int32) (x4 : Int32) (M : Mm) : Option (Unit × Mm) :=
  if x2 ≤ x4 then (
    some ((), M))
  else (
    ck (kA M x1 24 x4) (
    nn (mR M x1 (ix x4)) (fun b5 =>
    ck (kO M b5 6 9) (
    let M7 := sI M b5 4 0
    nn (mR M7 x1 (ix x4)) (fun b8 =>
    ck (kO M7 b8 6 9) (
    let M10 := sI M7 b8 6 (-1)
    let v11 : Int32 := x4 + 1
    k23 x1 x2 v11 M10))))))
set_option maxRecDepth 100000 in
set_option maxHeartbeats 4000000 in
theorem e_House_settleAt_B23 {G : Gx} (k23 : Nat → Int32 → Int32 → Mm → Option (Unit × Mm)) (hk23 : ∀ (x1 : Nat) (x2 : Int32) (x4 : Int32) (M : Mm), EJ G Y_House_settleAt cvV 1 23 [(1, .ref x1), (2, .int x2), (4, .int x4)] [] M (k23 x1 x2 x4 M)) (x1 : Nat) (x2 : Int32) (x4 : Int32) (M : Mm) : EJ G Y_House_settleAt cvV 1 23 [(1, .ref x1), (2, .int x2), (4, .int x4)] [] M (House_settleAt_B23 k23 x1 x2 x4 M) := by
  unfold House_settleAt_B23
  refine EJ_iload 25 2 (dk_21 (bt bc_House_settleAt_0 23 rfl) (bt bc_House_settleAt_0 24 rfl)) rfl rfl ?_
  refine EJ_iload_n 26 1 (dk_28 (bt bc_House_settleAt_0 25 rfl)) rfl rfl ?_
  refine EJ_icmp_ge 51 29 (dk_162 (bt bc_House_settleAt_0 26 rfl) (bt bc_House_settleAt_0 27 rfl) (bt bc_House_settleAt_0 28 rfl) (n := 25) rfl) (by decide) rfl (fun _ => ?_) (fun _ => ?_)
  · exact EJ_vret rfl (dk_177 (bt bc_House_settleAt_1 19 rfl))
  · refine EJ_aload_n 30 0 (dk_43 (bt bc_House_settleAt_0 29 rfl)) rfl rfl ?_
    refine EJ_iload 32 2 (dk_21 (bt bc_House_settleAt_0 30 rfl) (bt bc_House_settleAt_0 31 rfl)) rfl rfl ?_
    refine EJ_ck (fun h4 => ?_)
    refine EJ_aald 4 33 (by decide) (by decide) rfl h4 (dk_50 (bt bc_House_settleAt_1 0 rfl)) rfl (fun b5 => ?_)
    refine EJ_iconst 34 (dk_3 (bt bc_House_settleAt_1 1 rfl)) rfl (v := 0) kI_0 ?_
    refine EJ_ck (fun h6 => ?_)
    refine EJ_putI cf6 4 (by decide) 37 tw_349 rfl (Or.inl rfl) (dk_181 (bt bc_House_settleAt_1 2 rfl) (bt bc_House_settleAt_1 3 rfl) (bt bc_House_settleAt_1 4 rfl) (n := 46) rfl) rfl (of_decide_eq_true h6) ?_
    refine EJ_aload_n 38 0 (dk_43 (bt bc_House_settleAt_1 5 rfl)) rfl rfl ?_
    refine EJ_iload 40 2 (dk_21 (bt bc_House_settleAt_1 6 rfl) (bt bc_House_settleAt_1 7 rfl)) rfl rfl ?_
    refine EJ_aald 4 41 (by decide) (by decide) rfl (ka_I h4) (dk_50 (bt bc_House_settleAt_1 8 rfl)) rfl (fun b8 => ?_)
    refine EJ_iconst 42 (dk_2 (bt bc_House_settleAt_1 9 rfl)) rfl (v := (-1)) kI_m1 ?_
    refine EJ_ck (fun h9 => ?_)
    refine EJ_putI cf6 6 (by decide) 45 tw_354 rfl (Or.inl rfl) (dk_181 (bt bc_House_settleAt_1 10 rfl) (bt bc_House_settleAt_1 11 rfl) (bt bc_House_settleAt_1 12 rfl) (n := 80) rfl) rfl (of_decide_eq_true h9) ?_
    refine EJ_iinc 48 2 (lv2 := [(4, .int _), (1, .ref _), (2, .int _)]) (dk_132 (bt bc_House_settleAt_1 13 rfl) (bt bc_House_settleAt_1 14 rfl) (bt bc_House_settleAt_1 15 rfl) (n := 1) rfl) rfl (by decide) rfl (v := 1) kI_1 rfl ?_
    refine EJ_goto 23 (dk_167 (bt bc_House_settleAt_1 16 rfl) (bt bc_House_settleAt_1 17 rfl) (bt bc_House_settleAt_1 18 rfl) (n := -25) rfl) (by decide) ?_
    exact EJ_pick (lv2 := [(1, .ref _), (2, .int _), (4, .int _)]) [1, 2, 0] rfl (hk23 _ _ _ _)
def House_settleAt_L23 (n : Nat) : Nat → Int32 → Int32 → Mm → Option (Unit × Mm) :=
  match n with
  | 0 => fun _ _ _ _ => none
  | n + 1 => House_settleAt_B23 (House_settleAt_L23 n)
theorem e_House_settleAt_L23 {G : Gx} : ∀ (n : Nat) (x1 : Nat) (x2 : Int32) (x4 : Int32) (M : Mm), EJ G Y_House_settleAt cvV 1 23 [(1, .ref x1), (2, .int x2), (4, .int x4)] [] M (House_settleAt_L23 n x1 x2 x4 M) := by
  intro n
  induction n with
  | zero => intros; exact EJ_none
  | succ n ih => intro x1 x2 x4 M; exact e_House_settleAt_B23 _ ih x1 x2 x4 M
def House_settleAt (M : Mm) (a0 : Nat) (a1 : Nat) (a2 : Int32) (a3 : Int32) : Option (Unit × Mm) :=
  if a3 < 1 then (
    some ((), M))
  else (
    ck (kO M a0 3 7) (
    ck (!decide (a3 = 0)) (
    if (rm (mI M a0 2) a3) = 0 then (
      let M3 := sI M a0 3 0
      House_settleAt_L23 fu a1 a2 0 M3)
    else (
      some ((), M)))))
set_option maxRecDepth 100000 in
set_option maxHeartbeats 4000000 in
theorem s_House_settleAt (G : Gx) (M : Mm) (a0 : Nat) (a1 : Nat) (a2 : Int32) (a3 : Int32) : FnS G Y_House_settleAt cvV 1 [.ref a0, .ref a1, .int a2, .int a3] M (House_settleAt M a0 a1 a2 a3) := by
  refine FnS.ofE (by decide) (Nat.le_of_ble_eq_true rfl) ?_
  show EJ G Y_House_settleAt cvV 1 0 [(0, .ref a0), (1, .ref a1), (2, .int a2), (3, .int a3)] [] M _
  unfold House_settleAt
  refine EJ_iload_n 1 3 (dk_29 (bt bc_House_settleAt_0 0 rfl)) rfl rfl ?_
  refine EJ_iconst 2 (dk_4 (bt bc_House_settleAt_0 1 rfl)) rfl (v := 1) kI_1 ?_
  refine EJ_icmp_lt 14 5 (dk_161 (bt bc_House_settleAt_0 2 rfl) (bt bc_House_settleAt_0 3 rfl) (bt bc_House_settleAt_0 4 rfl) (n := 12) rfl) (by decide) rfl (fun _ => ?_) (fun _ => ?_)
  · exact EJ_vret rfl (dk_177 (bt bc_House_settleAt_0 14 rfl))
  · refine EJ_aload_n 6 0 (dk_42 (bt bc_House_settleAt_0 5 rfl)) rfl rfl ?_
    refine EJ_ck (fun h1 => ?_)
    refine EJ_getI cf3 2 (by decide) 9 tw_148 (fun _ _ _ => rfl) (dk_180 (bt bc_House_settleAt_0 6 rfl) (bt bc_House_settleAt_0 7 rfl) (bt bc_House_settleAt_0 8 rfl) (n := 19) rfl) rfl (of_decide_eq_true h1) ?_
    refine EJ_iload_n 10 3 (dk_29 (bt bc_House_settleAt_0 9 rfl)) rfl rfl ?_
    refine EJ_ck (fun h2 => ?_)
    refine EJ_irem 11 (dk_112 (bt bc_House_settleAt_0 10 rfl)) rfl (by simpa using h2) ?_
    refine EJ_if_eq 15 14 (dk_153 (bt bc_House_settleAt_0 11 rfl) (bt bc_House_settleAt_0 12 rfl) (bt bc_House_settleAt_0 13 rfl) (n := 4) rfl) (by decide) rfl (fun _ => ?_) (fun _ => ?_)
    · refine EJ_aload_n 16 0 (dk_42 (bt bc_House_settleAt_0 15 rfl)) rfl rfl ?_
      refine EJ_iconst 17 (dk_3 (bt bc_House_settleAt_0 16 rfl)) rfl (v := 0) kI_0 ?_
      refine EJ_putI cf3 3 (by decide) 20 tw_150 rfl (Or.inl rfl) (dk_181 (bt bc_House_settleAt_0 17 rfl) (bt bc_House_settleAt_0 18 rfl) (bt bc_House_settleAt_0 19 rfl) (n := 49) rfl) rfl (of_decide_eq_true h1) ?_
      refine EJ_iconst 21 (dk_3 (bt bc_House_settleAt_0 20 rfl)) rfl (v := 0) kI_0 ?_
      refine EJ_istore 23 (lv2 := [(4, .int _), (0, .ref _), (1, .ref _), (2, .int _), (3, .int _)]) (dk_54 (bt bc_House_settleAt_0 21 rfl) (bt bc_House_settleAt_0 22 rfl)) rfl (by decide) rfl ?_
      exact EJ_pick (lv2 := [(1, .ref _), (2, .int _), (4, .int _)]) [2, 3, 0] rfl (e_House_settleAt_L23 fu _ _ _ _)
    · exact EJ_vret rfl (dk_177 (bt bc_House_settleAt_0 14 rfl))
abbrev Y_House_widest : Ym := (⟨"RiceHall$House", "widest", "(II)I"⟩, prog_5_method_5_code, 5, (some FieldType.int))
theorem bc_House_widest_0 : bts prog_5_method_5_code 0 [3, 62, 27, 4, 96, 54, 4, 21, 4, 42, 180, 0, 19, 162, 0, 39, 21, 4, 27, 28, 96, 163, 0, 31, 29, 42, 180, 0, 9, 21, 4, 46] := bts_of (by decide +kernel)
theorem bc_House_widest_1 : bts prog_5_method_5_code 32 [42, 180, 0, 9, 27, 46, 100, 184, 0, 32, 184, 0, 38, 62, 132, 4, 1, 167, 255, 214, 29, 172] := bts_of (by decide +kernel)
theorem hd_House_widest : Y_House_widest.1.cls = RX3 ∧ Y_House_widest.1.cls ≠ "java/lang/invoke/MethodHandle" ∧ Y_House_widest.1.cls ≠ "java/lang/invoke/VarHandle" ∧ (parseMethodDescriptor Y_House_widest.1.desc).map (fun d => d.parameters.length) = some 2 := by decide +kernel
def House_widest_B7 (k7 : Nat → Int32 → Int32 → Int32 → Int32 → Mm → Option (Int32 × Mm)) (x0 : Nat) (x1 : Int32) (x2 : Int32) (x3 : Int32) (x4 : Int32) (M : Mm) : Option (Int32 × Mm) :=
  ck (kO M x0 3 7) (
  if (mI M x0 2) ≤ x4 then (
    some (x3, M))
  else (
    if (x1 + x2) < x4 then (
      some (x3, M))
    else (
      nn (mR M x0 0) (fun b3 =>
      ck (kA M b3 20 x4) (
      nn (mR M x0 0) (fun b5 =>
      ck (kA M b5 20 x1) (
      bd (Math_abs_I M ((mI M b3 (ix x4)) - (mI M b5 (ix x1)))) (fun r7 M8 =>
      bd (Math_max_I M8 x3 r7) (fun r9 M10 =>
      let v11 : Int32 := x4 + 1
      k7 x0 x1 x2 r9 v11 M10)))))))))
set_option maxRecDepth 100000 in
set_option maxHeartbeats 4000000 in
theorem e_House_widest_B7 {G : Gx} (k7 : Nat → Int32 → Int32 → Int32 → Int32 → Mm → Option (Int32 × Mm)) (hk7 : ∀ (x0 : Nat) (x1 : Int32) (x2 : Int32) (x3 : Int32) (x4 : Int32) (M : Mm), EJ G Y_House_widest cvI 2 7 [(0, .ref x0), (1, .int x1), (2, .int x2), (3, .int x3), (4, .int x4)] [] M (k7 x0 x1 x2 x3 x4 M)) (x0 : Nat) (x1 : Int32) (x2 : Int32) (x3 : Int32) (x4 : Int32) (M : Mm) : EJ G Y_House_widest cvI 2 7 [(0, .ref x0), (1, .int x1), (2, .int x2), (3, .int x3), (4, .int x4)] [] M (House_widest_B7 k7 x0 x1 x2 x3 x4 M) := by
  unfold House_widest_B7
  refine EJ_iload 9 4 (dk_21 (bt bc_House_widest_0 7 rfl) (bt bc_House_widest_0 8 rfl)) rfl rfl ?_
  refine EJ_aload_n 10 0 (dk_42 (bt bc_House_widest_0 9 rfl)) rfl rfl ?_
  refine EJ_ck (fun h2 => ?_)
  refine EJ_getI cf3 2 (by decide) 13 tw_148 (fun _ _ _ => rfl) (dk_180 (bt bc_House_widest_0 10 rfl) (bt bc_House_widest_0 11 rfl) (bt bc_House_widest_0 12 rfl) (n := 19) rfl) rfl (of_decide_eq_true h2) ?_
  refine EJ_icmp_ge 52 16 (dk_162 (bt bc_House_widest_0 13 rfl) (bt bc_House_widest_0 14 rfl) (bt bc_House_widest_0 15 rfl) (n := 39) rfl) (by decide) rfl (fun _ => ?_) (fun _ => ?_)
  · refine EJ_iload_n 53 3 (dk_29 (bt bc_House_widest_1 20 rfl)) rfl rfl ?_
    exact EJ_iret rfl (dk_172 (bt bc_House_widest_1 21 rfl))
  · refine EJ_iload 18 4 (dk_21 (bt bc_House_widest_0 16 rfl) (bt bc_House_widest_0 17 rfl)) rfl rfl ?_
    refine EJ_iload_n 19 1 (dk_27 (bt bc_House_widest_0 18 rfl)) rfl rfl ?_
    refine EJ_iload_n 20 2 (dk_28 (bt bc_House_widest_0 19 rfl)) rfl rfl ?_
    refine EJ_iadd 21 (dk_96 (bt bc_House_widest_0 20 rfl)) rfl ?_
    refine EJ_icmp_gt 52 24 (dk_163 (bt bc_House_widest_0 21 rfl) (bt bc_House_widest_0 22 rfl) (bt bc_House_widest_0 23 rfl) (n := 31) rfl) (by decide) rfl (fun _ => ?_) (fun _ => ?_)
    · refine EJ_iload_n 53 3 (dk_29 (bt bc_House_widest_1 20 rfl)) rfl rfl ?_
      exact EJ_iret rfl (dk_172 (bt bc_House_widest_1 21 rfl))
    · refine EJ_iload_n 25 3 (dk_29 (bt bc_House_widest_0 24 rfl)) rfl rfl ?_
      refine EJ_aload_n 26 0 (dk_42 (bt bc_House_widest_0 25 rfl)) rfl rfl ?_
      refine EJ_getR cf3 0 (by decide) 29 tw_146 (fun _ _ _ => rfl) (dk_180 (bt bc_House_widest_0 26 rfl) (bt bc_House_widest_0 27 rfl) (bt bc_House_widest_0 28 rfl) (n := 9) rfl) rfl (of_decide_eq_true h2) (fun b3 => ?_)
      refine EJ_iload 31 4 (dk_21 (bt bc_House_widest_0 29 rfl) (bt bc_House_widest_0 30 rfl)) rfl rfl ?_
      refine EJ_ck (fun h4 => ?_)
      refine EJ_iald 32 h4 (dk_46 (bt bc_House_widest_0 31 rfl)) rfl ?_
      refine EJ_aload_n 33 0 (dk_42 (bt bc_House_widest_1 0 rfl)) rfl rfl ?_
      refine EJ_getR cf3 0 (by decide) 36 tw_146 (fun _ _ _ => rfl) (dk_180 (bt bc_House_widest_1 1 rfl) (bt bc_House_widest_1 2 rfl) (bt bc_House_widest_1 3 rfl) (n := 9) rfl) rfl (of_decide_eq_true h2) (fun b5 => ?_)
      refine EJ_iload_n 37 1 (dk_27 (bt bc_House_widest_1 4 rfl)) rfl rfl ?_
      refine EJ_ck (fun h6 => ?_)
      refine EJ_iald 38 h6 (dk_46 (bt bc_House_widest_1 5 rfl)) rfl ?_
      refine EJ_isub 39 (dk_100 (bt bc_House_widest_1 6 rfl)) rfl ?_
      refine EJ_callSi (Y2 := Y_Math_abs_I) 42 (s_Math_abs_I G _ _) rfl (dk_184 (bt bc_House_widest_1 7 rfl) (bt bc_House_widest_1 8 rfl) (bt bc_House_widest_1 9 rfl) (n := 32) rfl) rfl tw_1172 tw_588 tw_9 tw_589 hd_Math_abs_I rfl (by decide) (Nat.le_of_ble_eq_true rfl) (fun r7 M8 => ?_)
      refine EJ_callSi (Y2 := Y_Math_max_I) 45 (s_Math_max_I G _ _ _) rfl (dk_184 (bt bc_House_widest_1 10 rfl) (bt bc_House_widest_1 11 rfl) (bt bc_House_widest_1 12 rfl) (n := 38) rfl) rfl tw_1173 tw_559 tw_9 tw_560 hd_Math_max_I rfl (by decide) (Nat.le_of_ble_eq_true rfl) (fun r9 M10 => ?_)
      refine EJ_istore_n 46 (lv2 := [(3, .int _), (0, .ref _), (1, .int _), (2, .int _), (4, .int _)]) (dk_62 (bt bc_House_widest_1 13 rfl)) rfl (by decide) rfl ?_
      refine EJ_iinc 49 4 (lv2 := [(4, .int _), (3, .int _), (0, .ref _), (1, .int _), (2, .int _)]) (dk_132 (bt bc_House_widest_1 14 rfl) (bt bc_House_widest_1 15 rfl) (bt bc_House_widest_1 16 rfl) (n := 1) rfl) rfl (by decide) rfl (v := 1) kI_1 rfl ?_
      refine EJ_goto 7 (dk_167 (bt bc_House_widest_1 17 rfl) (bt bc_House_widest_1 18 rfl) (bt bc_House_widest_1 19 rfl) (n := -42) rfl) (by decide) ?_
      exact EJ_pick (lv2 := [(0, .ref _), (1, .int _), (2, .int _), (3, .int _), (4, .int _)]) [2, 3, 4, 1, 0] rfl (hk7 _ _ _ _ _ _)
def House_widest_L7 (n : Nat) : Nat → Int32 → Int32 → Int32 → Int32 → Mm → Option (Int32 × Mm) :=
  match n with
  | 0 => fun _ _ _ _ _ _ => none
  | n + 1 => House_widest_B7 (House_widest_L7 n)
theorem e_House_widest_L7 {G : Gx} : ∀ (n : Nat) (x0 : Nat) (x1 : Int32) (x2 : Int32) (x3 : Int32) (x4 : Int32) (M : Mm), EJ G Y_House_widest cvI 2 7 [(0, .ref x0), (1, .int x1), (2, .int x2), (3, .int x3), (4, .int x4)] [] M (House_widest_L7 n x0 x1 x2 x3 x4 M) := by
  intro n
  induction n with
  | zero => intros; exact EJ_none
  | succ n ih => intro x0 x1 x2 x3 x4 M; exact e_House_widest_B7 _ ih x0 x1 x2 x3 x4 M
def House_widest (M : Mm) (a0 : Nat) (a1 : Int32) (a2 : Int32) : Option (Int32 × Mm) :=
  let v1 : Int32 := a1 + 1
  House_widest_L7 fu a0 a1 a2 0 v1 M
set_option maxRecDepth 100000 in
set_option maxHeartbeats 4000000 in
theorem s_House_widest (G : Gx) (M : Mm) (a0 : Nat) (a1 : Int32) (a2 : Int32) : FnS G Y_House_widest cvI 2 [.ref a0, .int a1, .int a2] M (House_widest M a0 a1 a2) := by
  refine FnS.ofE (by decide) (Nat.le_of_ble_eq_true rfl) ?_
  show EJ G Y_House_widest cvI 2 0 [(0, .ref a0), (1, .int a1), (2, .int a2)] [] M _
  unfold House_widest
  refine EJ_iconst 1 (dk_3 (bt bc_House_widest_0 0 rfl)) rfl (v := 0) kI_0 ?_
  refine EJ_istore_n 2 (lv2 := [(3, .int _), (0, .ref _), (1, .int _), (2, .int _)]) (dk_62 (bt bc_House_widest_0 1 rfl)) rfl (by decide) rfl ?_
  refine EJ_iload_n 3 2 (dk_27 (bt bc_House_widest_0 2 rfl)) rfl rfl ?_
  refine EJ_iconst 4 (dk_4 (bt bc_House_widest_0 3 rfl)) rfl (v := 1) kI_1 ?_
  refine EJ_iadd 5 (dk_96 (bt bc_House_widest_0 4 rfl)) rfl ?_
  refine EJ_istore 7 (lv2 := [(4, .int _), (3, .int _), (0, .ref _), (1, .int _), (2, .int _)]) (dk_54 (bt bc_House_widest_0 5 rfl) (bt bc_House_widest_0 6 rfl)) rfl (by decide) rfl ?_
  exact EJ_pick (lv2 := [(0, .ref _), (1, .int _), (2, .int _), (3, .int _), (4, .int _)]) [2, 3, 4, 1, 0] rfl (e_House_widest_L7 fu _ _ _ _ _ _)
abbrev Y_House_allCoins : Ym := (⟨"RiceHall$House", "allCoins", "([LRiceHall$Person;I)J"⟩, prog_5_method_4_code, 6, (some FieldType.long))
theorem bc_House_allCoins_0 : bts prog_5_method_4_code 0 [42, 180, 0, 23, 66, 3, 54, 5, 21, 5, 28, 162, 0, 19, 33, 43, 21, 5, 50, 180, 0, 27, 97, 66, 132, 5, 1, 167, 255, 237, 33, 173] := bts_of (by decide +kernel)
theorem hd_House_allCoins : Y_House_allCoins.1.cls = RX3 ∧ Y_House_allCoins.1.cls ≠ "java/lang/invoke/MethodHandle" ∧ Y_House_allCoins.1.cls ≠ "java/lang/invoke/VarHandle" ∧ (parseMethodDescriptor Y_House_allCoins.1.desc).map (fun d => d.parameters.length) = some 2 := by decide +kernel
def House_allCoins_B8 (k8 : Nat → Int32 → Int64 → Int32 → Mm → Option (Int64 × Mm)) (x1 : Nat) (x2 : Int32) (x3 : Int64) (x5 : Int32) (M : Mm) : Option (Int64 × Mm) :=
  if x2 ≤ x5 then (
    some (x3, M))
  else (
    ck (kA M x1 24 x5) (
    nn (mR M x1 (ix x5)) (fun b4 =>
    ck (kO M b4 6 9) (
    let v6 : Int64 := x3 + (mL M b4 3)
    let v7 : Int32 := x5 + 1
    k8 x1 x2 v6 v7 M))))
set_option maxRecDepth 100000 in
set_option maxHeartbeats 4000000 in
theorem e_House_allCoins_B8 {G : Gx} (k8 : Nat → Int32 → Int64 → Int32 → Mm → Option (Int64 × Mm)) (hk8 : ∀ (x1 : Nat) (x2 : Int32) (x3 : Int64) (x5 : Int32) (M : Mm), EJ G Y_House_allCoins cvL 1 8 [(1, .ref x1), (2, .int x2), (3, .long x3), (5, .int x5)] [] M (k8 x1 x2 x3 x5 M)) (x1 : Nat) (x2 : Int32) (x3 : Int64) (x5 : Int32) (M : Mm) : EJ G Y_House_allCoins cvL 1 8 [(1, .ref x1), (2, .int x2), (3, .long x3), (5, .int x5)] [] M (House_allCoins_B8 k8 x1 x2 x3 x5 M) := by
  unfold House_allCoins_B8
  refine EJ_iload 10 3 (dk_21 (bt bc_House_allCoins_0 8 rfl) (bt bc_House_allCoins_0 9 rfl)) rfl rfl ?_
  refine EJ_iload_n 11 1 (dk_28 (bt bc_House_allCoins_0 10 rfl)) rfl rfl ?_
  refine EJ_icmp_ge 30 14 (dk_162 (bt bc_House_allCoins_0 11 rfl) (bt bc_House_allCoins_0 12 rfl) (bt bc_House_allCoins_0 13 rfl) (n := 19) rfl) (by decide) rfl (fun _ => ?_) (fun _ => ?_)
  · refine EJ_lload_n 31 2 (dk_33 (bt bc_House_allCoins_0 30 rfl)) rfl rfl ?_
    exact EJ_lret rfl (dk_173 (bt bc_House_allCoins_0 31 rfl))
  · refine EJ_lload_n 15 2 (dk_33 (bt bc_House_allCoins_0 14 rfl)) rfl rfl ?_
    refine EJ_aload_n 16 0 (dk_43 (bt bc_House_allCoins_0 15 rfl)) rfl rfl ?_
    refine EJ_iload 18 3 (dk_21 (bt bc_House_allCoins_0 16 rfl) (bt bc_House_allCoins_0 17 rfl)) rfl rfl ?_
    refine EJ_ck (fun h3 => ?_)
    refine EJ_aald 4 19 (by decide) (by decide) rfl h3 (dk_50 (bt bc_House_allCoins_0 18 rfl)) rfl (fun b4 => ?_)
    refine EJ_ck (fun h5 => ?_)
    refine EJ_getL cf6 3 (by decide) 22 tw_346 (fun _ _ _ => rfl) (dk_180 (bt bc_House_allCoins_0 19 rfl) (bt bc_House_allCoins_0 20 rfl) (bt bc_House_allCoins_0 21 rfl) (n := 27) rfl) rfl (of_decide_eq_true h5) ?_
    refine EJ_ladd 23 (dk_97 (bt bc_House_allCoins_0 22 rfl)) rfl ?_
    refine EJ_lstore_n 24 (lv2 := [(3, .long _), (1, .ref _), (2, .int _), (5, .int _)]) (dk_66 (bt bc_House_allCoins_0 23 rfl)) rfl (by decide) rfl ?_
    refine EJ_iinc 27 3 (lv2 := [(5, .int _), (3, .long _), (1, .ref _), (2, .int _)]) (dk_132 (bt bc_House_allCoins_0 24 rfl) (bt bc_House_allCoins_0 25 rfl) (bt bc_House_allCoins_0 26 rfl) (n := 1) rfl) rfl (by decide) rfl (v := 1) kI_1 rfl ?_
    refine EJ_goto 8 (dk_167 (bt bc_House_allCoins_0 27 rfl) (bt bc_House_allCoins_0 28 rfl) (bt bc_House_allCoins_0 29 rfl) (n := -19) rfl) (by decide) ?_
    exact EJ_pick (lv2 := [(1, .ref _), (2, .int _), (3, .long _), (5, .int _)]) [2, 3, 1, 0] rfl (hk8 _ _ _ _ _)
def House_allCoins_L8 (n : Nat) : Nat → Int32 → Int64 → Int32 → Mm → Option (Int64 × Mm) :=
  match n with
  | 0 => fun _ _ _ _ _ => none
  | n + 1 => House_allCoins_B8 (House_allCoins_L8 n)
theorem e_House_allCoins_L8 {G : Gx} : ∀ (n : Nat) (x1 : Nat) (x2 : Int32) (x3 : Int64) (x5 : Int32) (M : Mm), EJ G Y_House_allCoins cvL 1 8 [(1, .ref x1), (2, .int x2), (3, .long x3), (5, .int x5)] [] M (House_allCoins_L8 n x1 x2 x3 x5 M) := by
  intro n
  induction n with
  | zero => intros; exact EJ_none
  | succ n ih => intro x1 x2 x3 x5 M; exact e_House_allCoins_B8 _ ih x1 x2 x3 x5 M
def House_allCoins (M : Mm) (a0 : Nat) (a1 : Nat) (a2 : Int32) : Option (Int64 × Mm) :=
  ck (kO M a0 3 7) (
  let v2 : Int64 := mL M a0 4
  House_allCoins_L8 fu a1 a2 v2 0 M)
set_option maxRecDepth 100000 in
set_option maxHeartbeats 4000000 in
theorem s_House_allCoins (G : Gx) (M : Mm) (a0 : Nat) (a1 : Nat) (a2 : Int32) : FnS G Y_House_allCoins cvL 1 [.ref a0, .ref a1, .int a2] M (House_allCoins M a0 a1 a2) := by
  refine FnS.ofE (by decide) (Nat.le_of_ble_eq_true rfl) ?_
  show EJ G Y_House_allCoins cvL 1 0 [(0, .ref a0), (1, .ref a1), (2, .int a2)] [] M _
  unfold House_allCoins
  refine EJ_aload_n 1 0 (dk_42 (bt bc_House_allCoins_0 0 rfl)) rfl rfl ?_
  refine EJ_ck (fun h1 => ?_)
  refine EJ_getL cf3 4 (by decide) 4 tw_152 (fun _ _ _ => rfl) (dk_180 (bt bc_House_allCoins_0 1 rfl) (bt bc_House_allCoins_0 2 rfl) (bt bc_House_allCoins_0 3 rfl) (n := 23) rfl) rfl (of_decide_eq_true h1) ?_
  refine EJ_lstore_n 5 (lv2 := [(3, .long _), (0, .ref _), (1, .ref _), (2, .int _)]) (dk_66 (bt bc_House_allCoins_0 4 rfl)) rfl (by decide) rfl ?_
  refine EJ_iconst 6 (dk_3 (bt bc_House_allCoins_0 5 rfl)) rfl (v := 0) kI_0 ?_
  refine EJ_istore 8 (lv2 := [(5, .int _), (3, .long _), (0, .ref _), (1, .ref _), (2, .int _)]) (dk_54 (bt bc_House_allCoins_0 6 rfl) (bt bc_House_allCoins_0 7 rfl)) rfl (by decide) rfl ?_
  exact EJ_pick (lv2 := [(1, .ref _), (2, .int _), (3, .long _), (5, .int _)]) [3, 4, 1, 0] rfl (e_House_allCoins_L8 fu _ _ _ _ _)
abbrev Y_Law_new : Ym := (⟨"RiceHall$Law", "<init>", "()V"⟩, prog_7_method_1_code, 1, none)
theorem bc_Law_new_0 : bts prog_7_method_1_code 0 [42, 183, 0, 3, 42, 187, 0, 9, 89, 183, 0, 11, 181, 0, 12, 42, 16, 8, 189, 0, 18, 181, 0, 20, 42, 16, 7, 188, 10, 181, 0, 24] := bts_of (by decide +kernel)
theorem bc_Law_new_1 : bts prog_7_method_1_code 32 [42, 2, 181, 0, 28, 177] := bts_of (by decide +kernel)
theorem hd_Law_new : Y_Law_new.1.cls ≠ "java/lang/invoke/MethodHandle" ∧ Y_Law_new.1.cls ≠ "java/lang/invoke/VarHandle" ∧ (parseMethodDescriptor Y_Law_new.1.desc).map (fun d => d.parameters.length) = some 0 := by decide +kernel
def Law_new (M : Mm) (a0 : Nat) : Option (Unit × Mm) :=
  let M1 := nw M 8 11
  bd (Scribe_new M1 (mZ M)) (fun _ M3 =>
  ck (kO M3 a0 5 5) (
  let M5 := sR M3 a0 0 (some (mZ M))
  let M6 := nw M5 27 8
  ck (kO M6 a0 5 5) (
  let M8 := sR M6 a0 1 (some (mZ M5))
  let M9 := nw M8 20 7
  ck (kO M9 a0 5 5) (
  let M11 := sR M9 a0 2 (some (mZ M8))
  let M12 := sI M11 a0 4 (-1)
  some ((), M12)))))
set_option maxRecDepth 100000 in
set_option maxHeartbeats 4000000 in
theorem s_Law_new (G : Gx) (M : Mm) (a0 : Nat) : FnS G Y_Law_new cvV 2 [.ref a0] M (Law_new M a0) := by
  refine FnS.ofE (by decide) (Nat.le_of_ble_eq_true rfl) ?_
  show EJ G Y_Law_new cvV 2 0 [(0, .ref a0)] [] M _
  unfold Law_new
  refine EJ_aload_n 1 0 (dk_42 (bt bc_Law_new_0 0 rfl)) rfl rfl ?_
  refine EJ_obj 4 (dk_183 (bt bc_Law_new_0 1 rfl) (bt bc_Law_new_0 2 rfl) (bt bc_Law_new_0 3 rfl) (n := 3) rfl) rfl tw_72 tw_27 tw_28 (by decide) (Nat.le_of_ble_eq_true rfl) ?_
  refine EJ_aload_n 5 0 (dk_42 (bt bc_Law_new_0 4 rfl)) rfl rfl ?_
  refine EJ_new cf8 8 tw_73 (dk_187 (bt bc_Law_new_0 5 rfl) (bt bc_Law_new_0 6 rfl) (bt bc_Law_new_0 7 rfl) (n := 9) rfl) rfl ?_
  refine EJ_dup 9 (dk_89 (bt bc_Law_new_0 8 rfl)) rfl rfl ?_
  refine EJ_callIv (Y2 := Y_Scribe_new) 12 (s_Scribe_new G _ _) rfl (dk_183 (bt bc_Law_new_0 9 rfl) (bt bc_Law_new_0 10 rfl) (bt bc_Law_new_0 11 rfl) (n := 11) rfl) rfl rfl tw_75 tw_76 tw_5 tw_77 rfl hd_Scribe_new rfl (by decide) (Nat.le_of_ble_eq_true rfl) (fun _ M3 => ?_)
  refine EJ_ck (fun h4 => ?_)
  refine EJ_putR cf5 0 (by decide) 15 tw_122 (fun _ _ _ => rfl) (fun _ => rfl) (fun _ => rfl) (Or.inr ⟨rfl, rfl⟩) (dk_181 (bt bc_Law_new_0 12 rfl) (bt bc_Law_new_0 13 rfl) (bt bc_Law_new_0 14 rfl) (n := 12) rfl) rfl (of_decide_eq_true h4) ?_
  refine EJ_aload_n 16 0 (dk_42 (bt bc_Law_new_0 15 rfl)) rfl rfl ?_
  refine EJ_bipush 18 (dk_16 (bt bc_Law_new_0 16 rfl) (bt bc_Law_new_0 17 rfl) (n := 8) rfl) rfl (v := 8) kB_8 ?_
  refine EJ_newq' 7 21 (c := 27) (N := 8) (by decide) (by decide) rfl tw_120 (fun _ h => h.2.2.2.2.2.1) rfl (by decide) (by decide) (dk_189 (bt bc_Law_new_0 18 rfl) (bt bc_Law_new_0 19 rfl) (bt bc_Law_new_0 20 rfl) (n := 18) rfl) rfl ?_
  refine EJ_ck (fun h7 => ?_)
  refine EJ_putR cf5 1 (by decide) 24 tw_123 (fun _ _ _ => rfl) (fun _ => rfl) (fun _ => rfl) (Or.inr ⟨rfl, rfl⟩) (dk_181 (bt bc_Law_new_0 21 rfl) (bt bc_Law_new_0 22 rfl) (bt bc_Law_new_0 23 rfl) (n := 20) rfl) rfl (of_decide_eq_true h7) ?_
  refine EJ_aload_n 25 0 (dk_42 (bt bc_Law_new_0 24 rfl)) rfl rfl ?_
  refine EJ_bipush 27 (dk_16 (bt bc_Law_new_0 25 rfl) (bt bc_Law_new_0 26 rfl) (n := 7) rfl) rfl (v := 7) kB_7 ?_
  refine EJ_newa' 0 29 (c := 20) (N := 7) (by decide) rfl tw_61 rfl (by decide) (by decide) (dk_188_10 (bt bc_Law_new_0 27 rfl) (bt bc_Law_new_0 28 rfl)) rfl ?_
  refine EJ_ck (fun h10 => ?_)
  refine EJ_putR cf5 2 (by decide) 32 tw_124 (fun _ _ _ => rfl) (fun _ => rfl) (fun _ => rfl) (Or.inr ⟨rfl, rfl⟩) (dk_181 (bt bc_Law_new_0 29 rfl) (bt bc_Law_new_0 30 rfl) (bt bc_Law_new_0 31 rfl) (n := 24) rfl) rfl (of_decide_eq_true h10) ?_
  refine EJ_aload_n 33 0 (dk_42 (bt bc_Law_new_1 0 rfl)) rfl rfl ?_
  refine EJ_iconst 34 (dk_2 (bt bc_Law_new_1 1 rfl)) rfl (v := (-1)) kI_m1 ?_
  refine EJ_putI cf5 4 (by decide) 37 tw_127 rfl (Or.inl rfl) (dk_181 (bt bc_Law_new_1 2 rfl) (bt bc_Law_new_1 3 rfl) (bt bc_Law_new_1 4 rfl) (n := 28) rfl) rfl (kp_R (of_decide_eq_true h10)) ?_
  exact EJ_vret rfl (dk_177 (bt bc_Law_new_1 5 rfl))
abbrev Y_Law_lookAtClock : Ym := (⟨"RiceHall$Law", "lookAtClock", "(II)V"⟩, prog_7_method_7_code, 3, none)
theorem bc_Law_lookAtClock_0 : bts prog_7_method_7_code 0 [42, 180, 0, 24, 3, 27, 17, 5, 160, 108, 79, 42, 180, 0, 24, 4, 27, 17, 5, 160, 112, 79, 42, 180, 0, 24, 5, 28, 79, 177] := bts_of (by decide +kernel)
theorem hd_Law_lookAtClock : Y_Law_lookAtClock.1.cls = RX5 ∧ Y_Law_lookAtClock.1.cls ≠ "java/lang/invoke/MethodHandle" ∧ Y_Law_lookAtClock.1.cls ≠ "java/lang/invoke/VarHandle" ∧ (parseMethodDescriptor Y_Law_lookAtClock.1.desc).map (fun d => d.parameters.length) = some 2 := by decide +kernel
def Law_lookAtClock (M : Mm) (a0 : Nat) (a1 : Int32) (a2 : Int32) : Option (Unit × Mm) :=
  ck (kO M a0 5 5) (
  nn (mR M a0 2) (fun b2 =>
  ck (kA M b2 20 0) (
  let M4 := sI M b2 (ix 0) (a1 / 1440)
  nn (mR M4 a0 2) (fun b5 =>
  ck (kA M4 b5 20 1) (
  let M7 := sI M4 b5 (ix 1) (rm a1 1440)
  nn (mR M7 a0 2) (fun b8 =>
  ck (kA M7 b8 20 2) (
  let M10 := sI M7 b8 (ix 2) a2
  some ((), M10))))))))
set_option maxRecDepth 100000 in
set_option maxHeartbeats 4000000 in
theorem s_Law_lookAtClock (G : Gx) (M : Mm) (a0 : Nat) (a1 : Int32) (a2 : Int32) : FnS G Y_Law_lookAtClock cvV 1 [.ref a0, .int a1, .int a2] M (Law_lookAtClock M a0 a1 a2) := by
  refine FnS.ofE (by decide) (Nat.le_of_ble_eq_true rfl) ?_
  show EJ G Y_Law_lookAtClock cvV 1 0 [(0, .ref a0), (1, .int a1), (2, .int a2)] [] M _
  unfold Law_lookAtClock
  refine EJ_aload_n 1 0 (dk_42 (bt bc_Law_lookAtClock_0 0 rfl)) rfl rfl ?_
  refine EJ_ck (fun h1 => ?_)
  refine EJ_getR cf5 2 (by decide) 4 tw_124 (fun _ _ _ => rfl) (dk_180 (bt bc_Law_lookAtClock_0 1 rfl) (bt bc_Law_lookAtClock_0 2 rfl) (bt bc_Law_lookAtClock_0 3 rfl) (n := 24) rfl) rfl (of_decide_eq_true h1) (fun b2 => ?_)
  refine EJ_iconst 5 (dk_3 (bt bc_Law_lookAtClock_0 4 rfl)) rfl (v := 0) kI_0 ?_
  refine EJ_iload_n 6 1 (dk_27 (bt bc_Law_lookAtClock_0 5 rfl)) rfl rfl ?_
  refine EJ_sipush 9 (dk_17 (bt bc_Law_lookAtClock_0 6 rfl) (bt bc_Law_lookAtClock_0 7 rfl) (bt bc_Law_lookAtClock_0 8 rfl) (n := 1440) rfl) rfl (v := 1440) kS_1440 ?_
  refine EJ_idiv 10 (dk_108 (bt bc_Law_lookAtClock_0 9 rfl)) rfl (by decide) ?_
  refine EJ_ck (fun h3 => ?_)
  refine EJ_iast 11 h3 (dk_79 (bt bc_Law_lookAtClock_0 10 rfl)) rfl ?_
  refine EJ_aload_n 12 0 (dk_42 (bt bc_Law_lookAtClock_0 11 rfl)) rfl rfl ?_
  refine EJ_getR cf5 2 (by decide) 15 tw_124 (fun _ _ _ => rfl) (dk_180 (bt bc_Law_lookAtClock_0 12 rfl) (bt bc_Law_lookAtClock_0 13 rfl) (bt bc_Law_lookAtClock_0 14 rfl) (n := 24) rfl) rfl (kp_I (of_decide_eq_true h1)) (fun b5 => ?_)
  refine EJ_iconst 16 (dk_4 (bt bc_Law_lookAtClock_0 15 rfl)) rfl (v := 1) kI_1 ?_
  refine EJ_iload_n 17 1 (dk_27 (bt bc_Law_lookAtClock_0 16 rfl)) rfl rfl ?_
  refine EJ_sipush 20 (dk_17 (bt bc_Law_lookAtClock_0 17 rfl) (bt bc_Law_lookAtClock_0 18 rfl) (bt bc_Law_lookAtClock_0 19 rfl) (n := 1440) rfl) rfl (v := 1440) kS_1440 ?_
  refine EJ_irem 21 (dk_112 (bt bc_Law_lookAtClock_0 20 rfl)) rfl (by decide) ?_
  refine EJ_ck (fun h6 => ?_)
  refine EJ_iast 22 h6 (dk_79 (bt bc_Law_lookAtClock_0 21 rfl)) rfl ?_
  refine EJ_aload_n 23 0 (dk_42 (bt bc_Law_lookAtClock_0 22 rfl)) rfl rfl ?_
  refine EJ_getR cf5 2 (by decide) 26 tw_124 (fun _ _ _ => rfl) (dk_180 (bt bc_Law_lookAtClock_0 23 rfl) (bt bc_Law_lookAtClock_0 24 rfl) (bt bc_Law_lookAtClock_0 25 rfl) (n := 24) rfl) rfl (kp_I (kp_I (of_decide_eq_true h1))) (fun b8 => ?_)
  refine EJ_iconst 27 (dk_5 (bt bc_Law_lookAtClock_0 26 rfl)) rfl (v := 2) kI_2 ?_
  refine EJ_iload_n 28 2 (dk_28 (bt bc_Law_lookAtClock_0 27 rfl)) rfl rfl ?_
  refine EJ_ck (fun h9 => ?_)
  refine EJ_iast 29 h9 (dk_79 (bt bc_Law_lookAtClock_0 28 rfl)) rfl ?_
  exact EJ_vret rfl (dk_177 (bt bc_Law_lookAtClock_0 29 rfl))
abbrev Y_Law_lookAtMarket : Ym := (⟨"RiceHall$Law", "lookAtMarket", "(IIII)V"⟩, prog_7_method_8_code, 5, none)
theorem bc_Law_lookAtMarket_0 : bts prog_7_method_8_code 0 [42, 180, 0, 24, 6, 27, 79, 42, 180, 0, 24, 7, 28, 79, 42, 180, 0, 24, 8, 29, 79, 42, 180, 0, 24, 16, 6, 21, 4, 79, 177] := bts_of (by decide +kernel)
theorem hd_Law_lookAtMarket : Y_Law_lookAtMarket.1.cls = RX5 ∧ Y_Law_lookAtMarket.1.cls ≠ "java/lang/invoke/MethodHandle" ∧ Y_Law_lookAtMarket.1.cls ≠ "java/lang/invoke/VarHandle" ∧ (parseMethodDescriptor Y_Law_lookAtMarket.1.desc).map (fun d => d.parameters.length) = some 4 := by decide +kernel
def Law_lookAtMarket (M : Mm) (a0 : Nat) (a1 : Int32) (a2 : Int32) (a3 : Int32) (a4 : Int32) : Option (Unit × Mm) :=
  ck (kO M a0 5 5) (
  nn (mR M a0 2) (fun b2 =>
  ck (kA M b2 20 3) (
  let M4 := sI M b2 (ix 3) a1
  nn (mR M4 a0 2) (fun b5 =>
  ck (kA M4 b5 20 4) (
  let M7 := sI M4 b5 (ix 4) a2
  nn (mR M7 a0 2) (fun b8 =>
  ck (kA M7 b8 20 5) (
  let M10 := sI M7 b8 (ix 5) a3
  nn (mR M10 a0 2) (fun b11 =>
  ck (kA M10 b11 20 6) (
  let M13 := sI M10 b11 (ix 6) a4
  some ((), M13))))))))))
set_option maxRecDepth 100000 in
set_option maxHeartbeats 4000000 in
theorem s_Law_lookAtMarket (G : Gx) (M : Mm) (a0 : Nat) (a1 : Int32) (a2 : Int32) (a3 : Int32) (a4 : Int32) : FnS G Y_Law_lookAtMarket cvV 1 [.ref a0, .int a1, .int a2, .int a3, .int a4] M (Law_lookAtMarket M a0 a1 a2 a3 a4) := by
  refine FnS.ofE (by decide) (Nat.le_of_ble_eq_true rfl) ?_
  show EJ G Y_Law_lookAtMarket cvV 1 0 [(0, .ref a0), (1, .int a1), (2, .int a2), (3, .int a3), (4, .int a4)] [] M _
  unfold Law_lookAtMarket
  refine EJ_aload_n 1 0 (dk_42 (bt bc_Law_lookAtMarket_0 0 rfl)) rfl rfl ?_
  refine EJ_ck (fun h1 => ?_)
  refine EJ_getR cf5 2 (by decide) 4 tw_124 (fun _ _ _ => rfl) (dk_180 (bt bc_Law_lookAtMarket_0 1 rfl) (bt bc_Law_lookAtMarket_0 2 rfl) (bt bc_Law_lookAtMarket_0 3 rfl) (n := 24) rfl) rfl (of_decide_eq_true h1) (fun b2 => ?_)
  refine EJ_iconst 5 (dk_6 (bt bc_Law_lookAtMarket_0 4 rfl)) rfl (v := 3) kI_3 ?_
  refine EJ_iload_n 6 1 (dk_27 (bt bc_Law_lookAtMarket_0 5 rfl)) rfl rfl ?_
  refine EJ_ck (fun h3 => ?_)
  refine EJ_iast 7 h3 (dk_79 (bt bc_Law_lookAtMarket_0 6 rfl)) rfl ?_
  refine EJ_aload_n 8 0 (dk_42 (bt bc_Law_lookAtMarket_0 7 rfl)) rfl rfl ?_
  refine EJ_getR cf5 2 (by decide) 11 tw_124 (fun _ _ _ => rfl) (dk_180 (bt bc_Law_lookAtMarket_0 8 rfl) (bt bc_Law_lookAtMarket_0 9 rfl) (bt bc_Law_lookAtMarket_0 10 rfl) (n := 24) rfl) rfl (kp_I (of_decide_eq_true h1)) (fun b5 => ?_)
  refine EJ_iconst 12 (dk_7 (bt bc_Law_lookAtMarket_0 11 rfl)) rfl (v := 4) kI_4 ?_
  refine EJ_iload_n 13 2 (dk_28 (bt bc_Law_lookAtMarket_0 12 rfl)) rfl rfl ?_
  refine EJ_ck (fun h6 => ?_)
  refine EJ_iast 14 h6 (dk_79 (bt bc_Law_lookAtMarket_0 13 rfl)) rfl ?_
  refine EJ_aload_n 15 0 (dk_42 (bt bc_Law_lookAtMarket_0 14 rfl)) rfl rfl ?_
  refine EJ_getR cf5 2 (by decide) 18 tw_124 (fun _ _ _ => rfl) (dk_180 (bt bc_Law_lookAtMarket_0 15 rfl) (bt bc_Law_lookAtMarket_0 16 rfl) (bt bc_Law_lookAtMarket_0 17 rfl) (n := 24) rfl) rfl (kp_I (kp_I (of_decide_eq_true h1))) (fun b8 => ?_)
  refine EJ_iconst 19 (dk_8 (bt bc_Law_lookAtMarket_0 18 rfl)) rfl (v := 5) kI_5 ?_
  refine EJ_iload_n 20 3 (dk_29 (bt bc_Law_lookAtMarket_0 19 rfl)) rfl rfl ?_
  refine EJ_ck (fun h9 => ?_)
  refine EJ_iast 21 h9 (dk_79 (bt bc_Law_lookAtMarket_0 20 rfl)) rfl ?_
  refine EJ_aload_n 22 0 (dk_42 (bt bc_Law_lookAtMarket_0 21 rfl)) rfl rfl ?_
  refine EJ_getR cf5 2 (by decide) 25 tw_124 (fun _ _ _ => rfl) (dk_180 (bt bc_Law_lookAtMarket_0 22 rfl) (bt bc_Law_lookAtMarket_0 23 rfl) (bt bc_Law_lookAtMarket_0 24 rfl) (n := 24) rfl) rfl (kp_I (kp_I (kp_I (of_decide_eq_true h1)))) (fun b11 => ?_)
  refine EJ_bipush 27 (dk_16 (bt bc_Law_lookAtMarket_0 25 rfl) (bt bc_Law_lookAtMarket_0 26 rfl) (n := 6) rfl) rfl (v := 6) kB_6 ?_
  refine EJ_iload 29 4 (dk_21 (bt bc_Law_lookAtMarket_0 27 rfl) (bt bc_Law_lookAtMarket_0 28 rfl)) rfl rfl ?_
  refine EJ_ck (fun h12 => ?_)
  refine EJ_iast 30 h12 (dk_79 (bt bc_Law_lookAtMarket_0 29 rfl)) rfl ?_
  exact EJ_vret rfl (dk_177 (bt bc_Law_lookAtMarket_0 30 rfl))
abbrev Y_Law_inForce : Ym := (⟨"RiceHall$Law", "inForce", "(I)I"⟩, prog_7_method_6_code, 4, (some FieldType.int))
theorem bc_Law_inForce_0 : bts prog_7_method_6_code 0 [2, 61, 3, 62, 29, 42, 180, 0, 32, 162, 0, 50, 42, 180, 0, 20, 29, 50, 180, 0, 56, 27, 163, 0, 31, 28, 2, 159, 0, 24, 42, 180] := bts_of (by decide +kernel)
theorem bc_Law_inForce_1 : bts prog_7_method_6_code 32 [0, 20, 29, 50, 180, 0, 56, 42, 180, 0, 20, 28, 50, 180, 0, 56, 161, 0, 5, 29, 61, 132, 3, 1, 167, 255, 204, 28, 172] := bts_of (by decide +kernel)
theorem hd_Law_inForce : Y_Law_inForce.1.cls = RX5 ∧ Y_Law_inForce.1.cls ≠ "java/lang/invoke/MethodHandle" ∧ Y_Law_inForce.1.cls ≠ "java/lang/invoke/VarHandle" ∧ (parseMethodDescriptor Y_Law_inForce.1.desc).map (fun d => d.parameters.length) = some 1 := by decide +kernel
def Law_inForce_J53 (k4 : Nat → Int32 → Int32 → Int32 → Mm → Option (Int32 × Mm)) (x0 : Nat) (x1 : Int32) (x2 : Int32) (x3 : Int32) (M : Mm) : Option (Int32 × Mm) :=
  let v6 : Int32 := x3 + 1
  k4 x0 x1 x2 v6 M
set_option maxRecDepth 100000 in
set_option maxHeartbeats 4000000 in
theorem e_Law_inForce_J53 {G : Gx} (k4 : Nat → Int32 → Int32 → Int32 → Mm → Option (Int32 × Mm)) (hk4 : ∀ (x0 : Nat) (x1 : Int32) (x2 : Int32) (x3 : Int32) (M : Mm), EJ G Y_Law_inForce cvI 1 4 [(0, .ref x0), (1, .int x1), (2, .int x2), (3, .int x3)] [] M (k4 x0 x1 x2 x3 M)) (x0 : Nat) (x1 : Int32) (x2 : Int32) (x3 : Int32) (M : Mm) : EJ G Y_Law_inForce cvI 1 53 [(0, .ref x0), (1, .int x1), (2, .int x2), (3, .int x3)] [] M (Law_inForce_J53 k4 x0 x1 x2 x3 M) := by
  unfold Law_inForce_J53
  refine EJ_iinc 56 3 (lv2 := [(3, .int _), (0, .ref _), (1, .int _), (2, .int _)]) (dk_132 (bt bc_Law_inForce_1 21 rfl) (bt bc_Law_inForce_1 22 rfl) (bt bc_Law_inForce_1 23 rfl) (n := 1) rfl) rfl (by decide) rfl (v := 1) kI_1 rfl ?_
  refine EJ_goto 4 (dk_167 (bt bc_Law_inForce_1 24 rfl) (bt bc_Law_inForce_1 25 rfl) (bt bc_Law_inForce_1 26 rfl) (n := -52) rfl) (by decide) ?_
  exact EJ_pick (lv2 := [(0, .ref _), (1, .int _), (2, .int _), (3, .int _)]) [1, 2, 3, 0] rfl (hk4 _ _ _ _ _)
def Law_inForce_J51 (k4 : Nat → Int32 → Int32 → Int32 → Mm → Option (Int32 × Mm)) (x0 : Nat) (x1 : Int32) (x3 : Int32) (M : Mm) : Option (Int32 × Mm) :=
  Law_inForce_J53 k4 x0 x1 x3 x3 M
set_option maxRecDepth 100000 in
set_option maxHeartbeats 4000000 in
theorem e_Law_inForce_J51 {G : Gx} (k4 : Nat → Int32 → Int32 → Int32 → Mm → Option (Int32 × Mm)) (hk4 : ∀ (x0 : Nat) (x1 : Int32) (x2 : Int32) (x3 : Int32) (M : Mm), EJ G Y_Law_inForce cvI 1 4 [(0, .ref x0), (1, .int x1), (2, .int x2), (3, .int x3)] [] M (k4 x0 x1 x2 x3 M)) (x0 : Nat) (x1 : Int32) (x3 : Int32) (M : Mm) : EJ G Y_Law_inForce cvI 1 51 [(0, .ref x0), (1, .int x1), (3, .int x3)] [] M (Law_inForce_J51 k4 x0 x1 x3 M) := by
  unfold Law_inForce_J51
  refine EJ_iload_n 52 2 (dk_29 (bt bc_Law_inForce_1 19 rfl)) rfl rfl ?_
  refine EJ_istore_n 53 (lv2 := [(2, .int _), (0, .ref _), (1, .int _), (3, .int _)]) (dk_61 (bt bc_Law_inForce_1 20 rfl)) rfl (by decide) rfl ?_
  exact EJ_pick (lv2 := [(0, .ref _), (1, .int _), (2, .int _), (3, .int _)]) [1, 2, 0, 3] rfl (e_Law_inForce_J53 k4 hk4 _ _ _ _ _)
def Law_inForce_B4 (k4 : Nat → Int32 → Int32 → Int32 → Mm → Option (Int32 × Mm)) (x0 : Nat) (x1 : Int32) (x2 : Int32) (x3 : Int32) (M : Mm) : Option (Int32 × Mm) :=
  ck (kO M x0 5 5) (
  if (mI M x0 3) ≤ x3 then (
    some (x2, M))
  else (
    nn (mR M x0 1) (fun b2 =>
    ck (kA M b2 27 x3) (
    nn (mR M b2 (ix x3)) (fun b4 =>
    ck (kO M b4 2 5) (
    if x1 < (mI M b4 0) then (
      Law_inForce_J53 k4 x0 x1 x2 x3 M)
    else (
      if x2 = (-1) then (
        Law_inForce_J51 k4 x0 x1 x3 M)
      else (
        nn (mR M x0 1) (fun b7 =>
        ck (kA M b7 27 x3) (
        nn (mR M b7 (ix x3)) (fun b9 =>
        ck (kO M b9 2 5) (
        nn (mR M x0 1) (fun b11 =>
        ck (kA M b11 27 x2) (
        nn (mR M b11 (ix x2)) (fun b13 =>
        ck (kO M b13 2 5) (
        if (mI M b9 0) < (mI M b13 0) then (
          Law_inForce_J53 k4 x0 x1 x2 x3 M)
        else (
          Law_inForce_J51 k4 x0 x1 x3 M)))))))))))))))))
set_option maxRecDepth 100000 in
set_option maxHeartbeats 4000000 in
theorem e_Law_inForce_B4 {G : Gx} (k4 : Nat → Int32 → Int32 → Int32 → Mm → Option (Int32 × Mm)) (hk4 : ∀ (x0 : Nat) (x1 : Int32) (x2 : Int32) (x3 : Int32) (M : Mm), EJ G Y_Law_inForce cvI 1 4 [(0, .ref x0), (1, .int x1), (2, .int x2), (3, .int x3)] [] M (k4 x0 x1 x2 x3 M)) (x0 : Nat) (x1 : Int32) (x2 : Int32) (x3 : Int32) (M : Mm) : EJ G Y_Law_inForce cvI 1 4 [(0, .ref x0), (1, .int x1), (2, .int x2), (3, .int x3)] [] M (Law_inForce_B4 k4 x0 x1 x2 x3 M) := by
  unfold Law_inForce_B4
  refine EJ_iload_n 5 3 (dk_29 (bt bc_Law_inForce_0 4 rfl)) rfl rfl ?_
  refine EJ_aload_n 6 0 (dk_42 (bt bc_Law_inForce_0 5 rfl)) rfl rfl ?_
  refine EJ_ck (fun h1 => ?_)
  refine EJ_getI cf5 3 (by decide) 9 tw_125 (fun _ _ _ => rfl) (dk_180 (bt bc_Law_inForce_0 6 rfl) (bt bc_Law_inForce_0 7 rfl) (bt bc_Law_inForce_0 8 rfl) (n := 32) rfl) rfl (of_decide_eq_true h1) ?_
  refine EJ_icmp_ge 59 12 (dk_162 (bt bc_Law_inForce_0 9 rfl) (bt bc_Law_inForce_0 10 rfl) (bt bc_Law_inForce_0 11 rfl) (n := 50) rfl) (by decide) rfl (fun _ => ?_) (fun _ => ?_)
  · refine EJ_iload_n 60 2 (dk_28 (bt bc_Law_inForce_1 27 rfl)) rfl rfl ?_
    exact EJ_iret rfl (dk_172 (bt bc_Law_inForce_1 28 rfl))
  · refine EJ_aload_n 13 0 (dk_42 (bt bc_Law_inForce_0 12 rfl)) rfl rfl ?_
    refine EJ_getR cf5 1 (by decide) 16 tw_123 (fun _ _ _ => rfl) (dk_180 (bt bc_Law_inForce_0 13 rfl) (bt bc_Law_inForce_0 14 rfl) (bt bc_Law_inForce_0 15 rfl) (n := 20) rfl) rfl (of_decide_eq_true h1) (fun b2 => ?_)
    refine EJ_iload_n 17 3 (dk_29 (bt bc_Law_inForce_0 16 rfl)) rfl rfl ?_
    refine EJ_ck (fun h3 => ?_)
    refine EJ_aald 7 18 (by decide) (by decide) rfl h3 (dk_50 (bt bc_Law_inForce_0 17 rfl)) rfl (fun b4 => ?_)
    refine EJ_ck (fun h5 => ?_)
    refine EJ_getI cf2 0 (by decide) 21 tw_777 (fun _ _ _ => rfl) (dk_180 (bt bc_Law_inForce_0 18 rfl) (bt bc_Law_inForce_0 19 rfl) (bt bc_Law_inForce_0 20 rfl) (n := 56) rfl) rfl (of_decide_eq_true h5) ?_
    refine EJ_iload_n 22 1 (dk_27 (bt bc_Law_inForce_0 21 rfl)) rfl rfl ?_
    refine EJ_icmp_gt 53 25 (dk_163 (bt bc_Law_inForce_0 22 rfl) (bt bc_Law_inForce_0 23 rfl) (bt bc_Law_inForce_0 24 rfl) (n := 31) rfl) (by decide) rfl (fun _ => ?_) (fun _ => ?_)
    · exact EJ_pick (lv2 := [(0, .ref _), (1, .int _), (2, .int _), (3, .int _)]) [0, 1, 2, 3] rfl (e_Law_inForce_J53 k4 hk4 _ _ _ _ _)
    · refine EJ_iload_n 26 2 (dk_28 (bt bc_Law_inForce_0 25 rfl)) rfl rfl ?_
      refine EJ_iconst 27 (dk_2 (bt bc_Law_inForce_0 26 rfl)) rfl (v := (-1)) kI_m1 ?_
      refine EJ_icmp_eq 51 30 (dk_159 (bt bc_Law_inForce_0 27 rfl) (bt bc_Law_inForce_0 28 rfl) (bt bc_Law_inForce_0 29 rfl) (n := 24) rfl) (by decide) rfl (fun _ => ?_) (fun _ => ?_)
      · exact EJ_pick (lv2 := [(0, .ref _), (1, .int _), (3, .int _)]) [0, 1, 3] rfl (e_Law_inForce_J51 k4 hk4 _ _ _ _)
      · refine EJ_aload_n 31 0 (dk_42 (bt bc_Law_inForce_0 30 rfl)) rfl rfl ?_
        refine EJ_getR cf5 1 (by decide) 34 tw_123 (fun _ _ _ => rfl) (dk_180 (bt bc_Law_inForce_0 31 rfl) (bt bc_Law_inForce_1 0 rfl) (bt bc_Law_inForce_1 1 rfl) (n := 20) rfl) rfl (of_decide_eq_true h1) (fun b7 => ?_)
        refine EJ_iload_n 35 3 (dk_29 (bt bc_Law_inForce_1 2 rfl)) rfl rfl ?_
        refine EJ_ck (fun h8 => ?_)
        refine EJ_aald 7 36 (by decide) (by decide) rfl h8 (dk_50 (bt bc_Law_inForce_1 3 rfl)) rfl (fun b9 => ?_)
        refine EJ_ck (fun h10 => ?_)
        refine EJ_getI cf2 0 (by decide) 39 tw_777 (fun _ _ _ => rfl) (dk_180 (bt bc_Law_inForce_1 4 rfl) (bt bc_Law_inForce_1 5 rfl) (bt bc_Law_inForce_1 6 rfl) (n := 56) rfl) rfl (of_decide_eq_true h10) ?_
        refine EJ_aload_n 40 0 (dk_42 (bt bc_Law_inForce_1 7 rfl)) rfl rfl ?_
        refine EJ_getR cf5 1 (by decide) 43 tw_123 (fun _ _ _ => rfl) (dk_180 (bt bc_Law_inForce_1 8 rfl) (bt bc_Law_inForce_1 9 rfl) (bt bc_Law_inForce_1 10 rfl) (n := 20) rfl) rfl (of_decide_eq_true h1) (fun b11 => ?_)
        refine EJ_iload_n 44 2 (dk_28 (bt bc_Law_inForce_1 11 rfl)) rfl rfl ?_
        refine EJ_ck (fun h12 => ?_)
        refine EJ_aald 7 45 (by decide) (by decide) rfl h12 (dk_50 (bt bc_Law_inForce_1 12 rfl)) rfl (fun b13 => ?_)
        refine EJ_ck (fun h14 => ?_)
        refine EJ_getI cf2 0 (by decide) 48 tw_777 (fun _ _ _ => rfl) (dk_180 (bt bc_Law_inForce_1 13 rfl) (bt bc_Law_inForce_1 14 rfl) (bt bc_Law_inForce_1 15 rfl) (n := 56) rfl) rfl (of_decide_eq_true h14) ?_
        refine EJ_icmp_lt 53 51 (dk_161 (bt bc_Law_inForce_1 16 rfl) (bt bc_Law_inForce_1 17 rfl) (bt bc_Law_inForce_1 18 rfl) (n := 5) rfl) (by decide) rfl (fun _ => ?_) (fun _ => ?_)
        · exact EJ_pick (lv2 := [(0, .ref _), (1, .int _), (2, .int _), (3, .int _)]) [0, 1, 2, 3] rfl (e_Law_inForce_J53 k4 hk4 _ _ _ _ _)
        · exact EJ_pick (lv2 := [(0, .ref _), (1, .int _), (3, .int _)]) [0, 1, 3] rfl (e_Law_inForce_J51 k4 hk4 _ _ _ _)
def Law_inForce_L4 (n : Nat) : Nat → Int32 → Int32 → Int32 → Mm → Option (Int32 × Mm) :=
  match n with
  | 0 => fun _ _ _ _ _ => none
  | n + 1 => Law_inForce_B4 (Law_inForce_L4 n)
theorem e_Law_inForce_L4 {G : Gx} : ∀ (n : Nat) (x0 : Nat) (x1 : Int32) (x2 : Int32) (x3 : Int32) (M : Mm), EJ G Y_Law_inForce cvI 1 4 [(0, .ref x0), (1, .int x1), (2, .int x2), (3, .int x3)] [] M (Law_inForce_L4 n x0 x1 x2 x3 M) := by
  intro n
  induction n with
  | zero => intros; exact EJ_none
  | succ n ih => intro x0 x1 x2 x3 M; exact e_Law_inForce_B4 _ ih x0 x1 x2 x3 M
def Law_inForce (M : Mm) (a0 : Nat) (a1 : Int32) : Option (Int32 × Mm) :=
  Law_inForce_L4 fu a0 a1 (-1) 0 M
set_option maxRecDepth 100000 in
set_option maxHeartbeats 4000000 in
theorem s_Law_inForce (G : Gx) (M : Mm) (a0 : Nat) (a1 : Int32) : FnS G Y_Law_inForce cvI 1 [.ref a0, .int a1] M (Law_inForce M a0 a1) := by
  refine FnS.ofE (by decide) (Nat.le_of_ble_eq_true rfl) ?_
  show EJ G Y_Law_inForce cvI 1 0 [(0, .ref a0), (1, .int a1)] [] M _
  unfold Law_inForce
  refine EJ_iconst 1 (dk_2 (bt bc_Law_inForce_0 0 rfl)) rfl (v := (-1)) kI_m1 ?_
  refine EJ_istore_n 2 (lv2 := [(2, .int _), (0, .ref _), (1, .int _)]) (dk_61 (bt bc_Law_inForce_0 1 rfl)) rfl (by decide) rfl ?_
  refine EJ_iconst 3 (dk_3 (bt bc_Law_inForce_0 2 rfl)) rfl (v := 0) kI_0 ?_
  refine EJ_istore_n 4 (lv2 := [(3, .int _), (2, .int _), (0, .ref _), (1, .int _)]) (dk_62 (bt bc_Law_inForce_0 3 rfl)) rfl (by decide) rfl ?_
  exact EJ_pick (lv2 := [(0, .ref _), (1, .int _), (2, .int _), (3, .int _)]) [2, 3, 1, 0] rfl (e_Law_inForce_L4 fu _ _ _ _ _)
abbrev Y_Law_ask : Ym := (⟨"RiceHall$Law", "ask", "(II)I"⟩, prog_7_method_9_code, 5, (some FieldType.int))
theorem bc_Law_ask_0 : bts prog_7_method_9_code 0 [42, 28, 182, 0, 59, 62, 29, 2, 160, 0, 7, 2, 167, 0, 17, 42, 180, 0, 20, 29, 50, 27, 42, 180, 0, 24, 182, 0, 63, 54, 4, 21] := bts_of (by decide +kernel)
theorem bc_Law_ask_1 : bts prog_7_method_9_code 32 [4, 2, 159, 0, 16, 42, 180, 0, 20, 29, 50, 180, 0, 67, 21, 4, 46, 172, 27, 155, 0, 19, 27, 178, 0, 70, 190, 162, 0, 11, 178, 0] := bts_of (by decide +kernel)
theorem bc_Law_ask_2 : bts prog_7_method_9_code 64 [70, 27, 46, 167, 0, 4, 2, 172] := bts_of (by decide +kernel)
theorem hd_Law_ask : Y_Law_ask.1.cls = RX5 ∧ Y_Law_ask.1.cls ≠ "java/lang/invoke/MethodHandle" ∧ Y_Law_ask.1.cls ≠ "java/lang/invoke/VarHandle" ∧ (parseMethodDescriptor Y_Law_ask.1.desc).map (fun d => d.parameters.length) = some 2 := by decide +kernel
def Law_ask_J29 (x0 : Nat) (x1 : Int32) (x3 : Int32) (s0 : Int32) (M : Mm) : Option (Int32 × Mm) :=
  if s0 = (-1) then (
    if x1 < 0 then (
      some ((-1), M))
    else (
      if 11 ≤ x1 then (
        some ((-1), M))
      else (
        ck (kS 11 x1) (
        some (untl (ix x1), M)))))
  else (
    ck (kO M x0 5 5) (
    nn (mR M x0 1) (fun b14 =>
    ck (kA M b14 27 x3) (
    nn (mR M b14 (ix x3)) (fun b16 =>
    ck (kO M b16 2 5) (
    nn (mR M b16 2) (fun b18 =>
    ck (kA M b18 20 s0) (
    some (mI M b18 (ix s0), M)))))))))
set_option maxRecDepth 100000 in
set_option maxHeartbeats 4000000 in
theorem e_Law_ask_J29 {G : Gx} (x0 : Nat) (x1 : Int32) (x3 : Int32) (s0 : Int32) (M : Mm) : EJ G Y_Law_ask cvI 4 29 [(0, .ref x0), (1, .int x1), (3, .int x3)] [.int s0] M (Law_ask_J29 x0 x1 x3 s0 M) := by
  unfold Law_ask_J29
  refine EJ_istore 31 (lv2 := [(4, .int _), (0, .ref _), (1, .int _), (3, .int _)]) (dk_54 (bt bc_Law_ask_0 29 rfl) (bt bc_Law_ask_0 30 rfl)) rfl (by decide) rfl ?_
  refine EJ_iload 33 0 (dk_21 (bt bc_Law_ask_0 31 rfl) (bt bc_Law_ask_1 0 rfl)) rfl rfl ?_
  refine EJ_iconst 34 (dk_2 (bt bc_Law_ask_1 1 rfl)) rfl (v := (-1)) kI_m1 ?_
  refine EJ_icmp_eq 50 37 (dk_159 (bt bc_Law_ask_1 2 rfl) (bt bc_Law_ask_1 3 rfl) (bt bc_Law_ask_1 4 rfl) (n := 16) rfl) (by decide) rfl (fun _ => ?_) (fun _ => ?_)
  · refine EJ_iload_n 51 2 (dk_27 (bt bc_Law_ask_1 18 rfl)) rfl rfl ?_
    refine EJ_if_lt 70 54 (dk_155 (bt bc_Law_ask_1 19 rfl) (bt bc_Law_ask_1 20 rfl) (bt bc_Law_ask_1 21 rfl) (n := 19) rfl) (by decide) rfl (fun _ => ?_) (fun _ => ?_)
    · refine EJ_iconst 71 (dk_2 (bt bc_Law_ask_2 6 rfl)) rfl (v := (-1)) kI_m1 ?_
      exact EJ_iret rfl (dk_172 (bt bc_Law_ask_2 7 rfl))
    · refine EJ_iload_n 55 2 (dk_27 (bt bc_Law_ask_1 22 rfl)) rfl rfl ?_
      refine EJ_gsU 58 (dk_178 (bt bc_Law_ask_1 23 rfl) (bt bc_Law_ask_1 24 rfl) (bt bc_Law_ask_1 25 rfl) (n := 70) rfl) rfl rfl ?_
      refine EJ_ulen 59 (dk_190 (bt bc_Law_ask_1 26 rfl)) rfl ?_
      refine EJ_icmp_ge 70 62 (dk_162 (bt bc_Law_ask_1 27 rfl) (bt bc_Law_ask_1 28 rfl) (bt bc_Law_ask_1 29 rfl) (n := 11) rfl) (by decide) rfl (fun _ => ?_) (fun _ => ?_)
      · refine EJ_iconst 71 (dk_2 (bt bc_Law_ask_2 6 rfl)) rfl (v := (-1)) kI_m1 ?_
        exact EJ_iret rfl (dk_172 (bt bc_Law_ask_2 7 rfl))
      · refine EJ_gsU 65 (dk_178 (bt bc_Law_ask_1 30 rfl) (bt bc_Law_ask_1 31 rfl) (bt bc_Law_ask_2 0 rfl) (n := 70) rfl) rfl rfl ?_
        refine EJ_iload_n 66 2 (dk_27 (bt bc_Law_ask_2 1 rfl)) rfl rfl ?_
        refine EJ_ck (fun h12 => ?_)
        refine EJ_uld 67 h12 (dk_46 (bt bc_Law_ask_2 2 rfl)) rfl ?_
        refine EJ_goto 71 (dk_167 (bt bc_Law_ask_2 3 rfl) (bt bc_Law_ask_2 4 rfl) (bt bc_Law_ask_2 5 rfl) (n := 4) rfl) (by decide) ?_
        exact EJ_iret rfl (dk_172 (bt bc_Law_ask_2 7 rfl))
  · refine EJ_aload_n 38 1 (dk_42 (bt bc_Law_ask_1 5 rfl)) rfl rfl ?_
    refine EJ_ck (fun h13 => ?_)
    refine EJ_getR cf5 1 (by decide) 41 tw_123 (fun _ _ _ => rfl) (dk_180 (bt bc_Law_ask_1 6 rfl) (bt bc_Law_ask_1 7 rfl) (bt bc_Law_ask_1 8 rfl) (n := 20) rfl) rfl (of_decide_eq_true h13) (fun b14 => ?_)
    refine EJ_iload_n 42 3 (dk_29 (bt bc_Law_ask_1 9 rfl)) rfl rfl ?_
    refine EJ_ck (fun h15 => ?_)
    refine EJ_aald 7 43 (by decide) (by decide) rfl h15 (dk_50 (bt bc_Law_ask_1 10 rfl)) rfl (fun b16 => ?_)
    refine EJ_ck (fun h17 => ?_)
    refine EJ_getR cf2 2 (by decide) 46 tw_780 (fun _ _ _ => rfl) (dk_180 (bt bc_Law_ask_1 11 rfl) (bt bc_Law_ask_1 12 rfl) (bt bc_Law_ask_1 13 rfl) (n := 67) rfl) rfl (of_decide_eq_true h17) (fun b18 => ?_)
    refine EJ_iload 48 0 (dk_21 (bt bc_Law_ask_1 14 rfl) (bt bc_Law_ask_1 15 rfl)) rfl rfl ?_
    refine EJ_ck (fun h19 => ?_)
    refine EJ_iald 49 h19 (dk_46 (bt bc_Law_ask_1 16 rfl)) rfl ?_
    exact EJ_iret rfl (dk_172 (bt bc_Law_ask_1 17 rfl))
def Law_ask (M : Mm) (a0 : Nat) (a1 : Int32) (a2 : Int32) : Option (Int32 × Mm) :=
  ck (kO M a0 5 5) (
  bd (Law_inForce M a0 a2) (fun r2 M3 =>
  if r2 = (-1) then (
    Law_ask_J29 a0 a1 r2 (-1) M3)
  else (
    ck (kO M3 a0 5 5) (
    nn (mR M3 a0 1) (fun b5 =>
    ck (kA M3 b5 27 r2) (
    nn (mR M3 b5 (ix r2)) (fun b7 =>
    nn (mR M3 a0 2) (fun b8 =>
    ck (kO M3 b7 2 5) (
    bd (Edict_lastThatHolds M3 b7 a1 b8) (fun r10 M11 =>
    Law_ask_J29 a0 a1 r2 r10 M11))))))))))
set_option maxRecDepth 100000 in
set_option maxHeartbeats 4000000 in
theorem s_Law_ask (G : Gx) (M : Mm) (a0 : Nat) (a1 : Int32) (a2 : Int32) : FnS G Y_Law_ask cvI 4 [.ref a0, .int a1, .int a2] M (Law_ask M a0 a1 a2) := by
  refine FnS.ofE (by decide) (Nat.le_of_ble_eq_true rfl) ?_
  show EJ G Y_Law_ask cvI 4 0 [(0, .ref a0), (1, .int a1), (2, .int a2)] [] M _
  unfold Law_ask
  refine EJ_aload_n 1 0 (dk_42 (bt bc_Law_ask_0 0 rfl)) rfl rfl ?_
  refine EJ_iload_n 2 2 (dk_28 (bt bc_Law_ask_0 1 rfl)) rfl rfl ?_
  refine EJ_ck (fun h1 => ?_)
  refine EJ_callVi (Y2 := Y_Law_inForce) 5 cf5 (s_Law_inForce G _ _ _) (of_decide_eq_true h1) rfl (dk_182 (bt bc_Law_ask_0 2 rfl) (bt bc_Law_ask_0 3 rfl) (bt bc_Law_ask_0 4 rfl) (n := 59) rfl) rfl tw_523 tw_524 tw_525 tw_526 hd_Law_inForce rfl (by decide) (Nat.le_of_ble_eq_true rfl) (fun r2 M3 => ?_)
  refine EJ_istore_n 6 (lv2 := [(3, .int _), (0, .ref _), (1, .int _), (2, .int _)]) (dk_62 (bt bc_Law_ask_0 5 rfl)) rfl (by decide) rfl ?_
  refine EJ_iload_n 7 0 (dk_29 (bt bc_Law_ask_0 6 rfl)) rfl rfl ?_
  refine EJ_iconst 8 (dk_2 (bt bc_Law_ask_0 7 rfl)) rfl (v := (-1)) kI_m1 ?_
  refine EJ_icmp_ne 15 11 (dk_160 (bt bc_Law_ask_0 8 rfl) (bt bc_Law_ask_0 9 rfl) (bt bc_Law_ask_0 10 rfl) (n := 7) rfl) (by decide) rfl (fun _ => ?_) (fun _ => ?_)
  · refine EJ_aload_n 16 1 (dk_42 (bt bc_Law_ask_0 15 rfl)) rfl rfl ?_
    refine EJ_ck (fun h4 => ?_)
    refine EJ_getR cf5 1 (by decide) 19 tw_123 (fun _ _ _ => rfl) (dk_180 (bt bc_Law_ask_0 16 rfl) (bt bc_Law_ask_0 17 rfl) (bt bc_Law_ask_0 18 rfl) (n := 20) rfl) rfl (of_decide_eq_true h4) (fun b5 => ?_)
    refine EJ_iload_n 20 0 (dk_29 (bt bc_Law_ask_0 19 rfl)) rfl rfl ?_
    refine EJ_ck (fun h6 => ?_)
    refine EJ_aald 7 21 (by decide) (by decide) rfl h6 (dk_50 (bt bc_Law_ask_0 20 rfl)) rfl (fun b7 => ?_)
    refine EJ_iload_n 22 2 (dk_27 (bt bc_Law_ask_0 21 rfl)) rfl rfl ?_
    refine EJ_aload_n 23 1 (dk_42 (bt bc_Law_ask_0 22 rfl)) rfl rfl ?_
    refine EJ_getR cf5 2 (by decide) 26 tw_124 (fun _ _ _ => rfl) (dk_180 (bt bc_Law_ask_0 23 rfl) (bt bc_Law_ask_0 24 rfl) (bt bc_Law_ask_0 25 rfl) (n := 24) rfl) rfl (of_decide_eq_true h4) (fun b8 => ?_)
    refine EJ_ck (fun h9 => ?_)
    refine EJ_callVi (Y2 := Y_Edict_lastThatHolds) 29 cf2 (s_Edict_lastThatHolds G _ _ _ _) (of_decide_eq_true h9) rfl (dk_182 (bt bc_Law_ask_0 26 rfl) (bt bc_Law_ask_0 27 rfl) (bt bc_Law_ask_0 28 rfl) (n := 63) rfl) rfl tw_527 tw_528 tw_529 tw_530 hd_Edict_lastThatHolds rfl (by decide) (Nat.le_of_ble_eq_true rfl) (fun r10 M11 => ?_)
    exact EJ_pick (lv2 := [(0, .ref _), (1, .int _), (3, .int _)]) [1, 2, 0] rfl (e_Law_ask_J29 _ _ _ _ _)
  · refine EJ_iconst 12 (dk_2 (bt bc_Law_ask_0 11 rfl)) rfl (v := (-1)) kI_m1 ?_
    refine EJ_goto 29 (dk_167 (bt bc_Law_ask_0 12 rfl) (bt bc_Law_ask_0 13 rfl) (bt bc_Law_ask_0 14 rfl) (n := 17) rfl) (by decide) ?_
    exact EJ_pick (lv2 := [(0, .ref _), (1, .int _), (3, .int _)]) [1, 2, 0] rfl (e_Law_ask_J29 _ _ _ _ _)
abbrev Y_Law_isFull : Ym := (⟨"RiceHall$Law", "isFull", "()Z"⟩, prog_7_method_2_code, 1, (some FieldType.boolean))
theorem bc_Law_isFull_0 : bts prog_7_method_2_code 0 [42, 180, 0, 32, 16, 8, 161, 0, 7, 4, 167, 0, 4, 3, 172] := bts_of (by decide +kernel)
theorem hd_Law_isFull : Y_Law_isFull.1.cls = RX5 ∧ Y_Law_isFull.1.cls ≠ "java/lang/invoke/MethodHandle" ∧ Y_Law_isFull.1.cls ≠ "java/lang/invoke/VarHandle" ∧ (parseMethodDescriptor Y_Law_isFull.1.desc).map (fun d => d.parameters.length) = some 0 := by decide +kernel
def Law_isFull (M : Mm) (a0 : Nat) : Option (Int32 × Mm) :=
  ck (kO M a0 5 5) (
  if (mI M a0 3) < 8 then (
    some (0, M))
  else (
    some (1, M)))
set_option maxRecDepth 100000 in
set_option maxHeartbeats 4000000 in
theorem s_Law_isFull (G : Gx) (M : Mm) (a0 : Nat) : FnS G Y_Law_isFull cvI 1 [.ref a0] M (Law_isFull M a0) := by
  refine FnS.ofE (by decide) (Nat.le_of_ble_eq_true rfl) ?_
  show EJ G Y_Law_isFull cvI 1 0 [(0, .ref a0)] [] M _
  unfold Law_isFull
  refine EJ_aload_n 1 0 (dk_42 (bt bc_Law_isFull_0 0 rfl)) rfl rfl ?_
  refine EJ_ck (fun h1 => ?_)
  refine EJ_getI cf5 3 (by decide) 4 tw_125 (fun _ _ _ => rfl) (dk_180 (bt bc_Law_isFull_0 1 rfl) (bt bc_Law_isFull_0 2 rfl) (bt bc_Law_isFull_0 3 rfl) (n := 32) rfl) rfl (of_decide_eq_true h1) ?_
  refine EJ_bipush 6 (dk_16 (bt bc_Law_isFull_0 4 rfl) (bt bc_Law_isFull_0 5 rfl) (n := 8) rfl) rfl (v := 8) kB_8 ?_
  refine EJ_icmp_lt 13 9 (dk_161 (bt bc_Law_isFull_0 6 rfl) (bt bc_Law_isFull_0 7 rfl) (bt bc_Law_isFull_0 8 rfl) (n := 7) rfl) (by decide) rfl (fun _ => ?_) (fun _ => ?_)
  · refine EJ_iconst 14 (dk_3 (bt bc_Law_isFull_0 13 rfl)) rfl (v := 0) kI_0 ?_
    exact EJ_zret rfl (by decide) (dk_172 (bt bc_Law_isFull_0 14 rfl))
  · refine EJ_iconst 10 (dk_4 (bt bc_Law_isFull_0 9 rfl)) rfl (v := 1) kI_1 ?_
    refine EJ_goto 14 (dk_167 (bt bc_Law_isFull_0 10 rfl) (bt bc_Law_isFull_0 11 rfl) (bt bc_Law_isFull_0 12 rfl) (n := 4) rfl) (by decide) ?_
    exact EJ_zret rfl (by decide) (dk_172 (bt bc_Law_isFull_0 14 rfl))
abbrev Y_Law_read : Ym := (⟨"RiceHall$Law", "read", "([BI)Z"⟩, prog_7_method_3_code, 4, (some FieldType.boolean))
theorem bc_Law_read_0 : bts prog_7_method_3_code 0 [42, 2, 181, 0, 28, 42, 180, 0, 12, 43, 28, 182, 0, 35, 3, 62, 29, 16, 24, 163, 0, 42, 42, 180, 0, 12, 182, 0, 39, 154, 0, 32] := bts_of (by decide +kernel)
theorem bc_Law_read_1 : bts prog_7_method_3_code 32 [42, 180, 0, 12, 182, 0, 43, 154, 0, 16, 42, 42, 180, 0, 12, 182, 0, 46, 181, 0, 28, 3, 172, 132, 3, 1, 167, 255, 214, 4, 172] := bts_of (by decide +kernel)
theorem hd_Law_read : Y_Law_read.1.cls = RX5 ∧ Y_Law_read.1.cls ≠ "java/lang/invoke/MethodHandle" ∧ Y_Law_read.1.cls ≠ "java/lang/invoke/VarHandle" ∧ (parseMethodDescriptor Y_Law_read.1.desc).map (fun d => d.parameters.length) = some 2 := by decide +kernel
def Law_read_B16 (k16 : Nat → Int32 → Mm → Option (Int32 × Mm)) (x0 : Nat) (x3 : Int32) (M : Mm) : Option (Int32 × Mm) :=
  if 24 < x3 then (
    some (1, M))
  else (
    ck (kO M x0 5 5) (
    nn (mR M x0 0) (fun b8 =>
    ck (kO M b8 8 11) (
    bd (Scribe_isAtEnd M b8) (fun r10 M11 =>
    if r10 = 0 then (
      ck (kO M11 x0 5 5) (
      nn (mR M11 x0 0) (fun b13 =>
      ck (kO M11 b13 8 11) (
      bd (Scribe_readStatement M11 b13) (fun r15 M16 =>
      if r15 = 0 then (
        ck (kO M16 x0 5 5) (
        nn (mR M16 x0 0) (fun b19 =>
        ck (kO M16 b19 8 11) (
        bd (Scribe_placeReached M16 b19) (fun r21 M22 =>
        ck (kO M22 x0 5 5) (
        let M24 := sI M22 x0 4 r21
        some (0, M24)))))))
      else (
        let v17 : Int32 := x3 + 1
        k16 x0 v17 M16))))))
    else (
      some (1, M11)))))))
set_option maxRecDepth 100000 in
set_option maxHeartbeats 4000000 in
theorem e_Law_read_B16 {G : Gx} (k16 : Nat → Int32 → Mm → Option (Int32 × Mm)) (hk16 : ∀ (x0 : Nat) (x3 : Int32) (M : Mm), EJ G Y_Law_read cvI 48 16 [(0, .ref x0), (3, .int x3)] [] M (k16 x0 x3 M)) (x0 : Nat) (x3 : Int32) (M : Mm) : EJ G Y_Law_read cvI 48 16 [(0, .ref x0), (3, .int x3)] [] M (Law_read_B16 k16 x0 x3 M) := by
  unfold Law_read_B16
  refine EJ_iload_n 17 1 (dk_29 (bt bc_Law_read_0 16 rfl)) rfl rfl ?_
  refine EJ_bipush 19 (dk_16 (bt bc_Law_read_0 17 rfl) (bt bc_Law_read_0 18 rfl) (n := 24) rfl) rfl (v := 24) kB_24 ?_
  refine EJ_icmp_gt 61 22 (dk_163 (bt bc_Law_read_0 19 rfl) (bt bc_Law_read_0 20 rfl) (bt bc_Law_read_0 21 rfl) (n := 42) rfl) (by decide) rfl (fun _ => ?_) (fun _ => ?_)
  · refine EJ_iconst 62 (dk_4 (bt bc_Law_read_1 29 rfl)) rfl (v := 1) kI_1 ?_
    exact EJ_zret rfl (by decide) (dk_172 (bt bc_Law_read_1 30 rfl))
  · refine EJ_aload_n 23 0 (dk_42 (bt bc_Law_read_0 22 rfl)) rfl rfl ?_
    refine EJ_ck (fun h7 => ?_)
    refine EJ_getR cf5 0 (by decide) 26 tw_122 (fun _ _ _ => rfl) (dk_180 (bt bc_Law_read_0 23 rfl) (bt bc_Law_read_0 24 rfl) (bt bc_Law_read_0 25 rfl) (n := 12) rfl) rfl (of_decide_eq_true h7) (fun b8 => ?_)
    refine EJ_ck (fun h9 => ?_)
    refine EJ_callVi (Y2 := Y_Scribe_isAtEnd) 29 cf8 (s_Scribe_isAtEnd G _ _) (of_decide_eq_true h9) rfl (dk_182 (bt bc_Law_read_0 26 rfl) (bt bc_Law_read_0 27 rfl) (bt bc_Law_read_0 28 rfl) (n := 39) rfl) rfl tw_704 tw_705 tw_706 tw_707 hd_Scribe_isAtEnd rfl (by decide) (Nat.le_of_ble_eq_true rfl) (fun r10 M11 => ?_)
    refine EJ_if_ne 61 32 (dk_154 (bt bc_Law_read_0 29 rfl) (bt bc_Law_read_0 30 rfl) (bt bc_Law_read_0 31 rfl) (n := 32) rfl) (by decide) rfl (fun _ => ?_) (fun _ => ?_)
    · refine EJ_iconst 62 (dk_4 (bt bc_Law_read_1 29 rfl)) rfl (v := 1) kI_1 ?_
      exact EJ_zret rfl (by decide) (dk_172 (bt bc_Law_read_1 30 rfl))
    · refine EJ_aload_n 33 0 (dk_42 (bt bc_Law_read_1 0 rfl)) rfl rfl ?_
      refine EJ_ck (fun h12 => ?_)
      refine EJ_getR cf5 0 (by decide) 36 tw_122 (fun _ _ _ => rfl) (dk_180 (bt bc_Law_read_1 1 rfl) (bt bc_Law_read_1 2 rfl) (bt bc_Law_read_1 3 rfl) (n := 12) rfl) rfl (of_decide_eq_true h12) (fun b13 => ?_)
      refine EJ_ck (fun h14 => ?_)
      refine EJ_callVi (Y2 := Y_Scribe_readStatement) 39 cf8 (s_Scribe_readStatement G _ _) (of_decide_eq_true h14) rfl (dk_182 (bt bc_Law_read_1 4 rfl) (bt bc_Law_read_1 5 rfl) (bt bc_Law_read_1 6 rfl) (n := 43) rfl) rfl tw_708 tw_709 tw_710 tw_711 hd_Scribe_readStatement rfl (by decide) (Nat.le_of_ble_eq_true rfl) (fun r15 M16 => ?_)
      refine EJ_if_ne 55 42 (dk_154 (bt bc_Law_read_1 7 rfl) (bt bc_Law_read_1 8 rfl) (bt bc_Law_read_1 9 rfl) (n := 16) rfl) (by decide) rfl (fun _ => ?_) (fun _ => ?_)
      · refine EJ_iinc 58 1 (lv2 := [(3, .int _), (0, .ref _)]) (dk_132 (bt bc_Law_read_1 23 rfl) (bt bc_Law_read_1 24 rfl) (bt bc_Law_read_1 25 rfl) (n := 1) rfl) rfl (by decide) rfl (v := 1) kI_1 rfl ?_
        refine EJ_goto 16 (dk_167 (bt bc_Law_read_1 26 rfl) (bt bc_Law_read_1 27 rfl) (bt bc_Law_read_1 28 rfl) (n := -42) rfl) (by decide) ?_
        exact EJ_pick (lv2 := [(0, .ref _), (3, .int _)]) [1, 0] rfl (hk16 _ _ _)
      · refine EJ_aload_n 43 0 (dk_42 (bt bc_Law_read_1 10 rfl)) rfl rfl ?_
        refine EJ_aload_n 44 0 (dk_42 (bt bc_Law_read_1 11 rfl)) rfl rfl ?_
        refine EJ_ck (fun h18 => ?_)
        refine EJ_getR cf5 0 (by decide) 47 tw_122 (fun _ _ _ => rfl) (dk_180 (bt bc_Law_read_1 12 rfl) (bt bc_Law_read_1 13 rfl) (bt bc_Law_read_1 14 rfl) (n := 12) rfl) rfl (of_decide_eq_true h18) (fun b19 => ?_)
        refine EJ_ck (fun h20 => ?_)
        refine EJ_callVi (Y2 := Y_Scribe_placeReached) 50 cf8 (s_Scribe_placeReached G _ _) (of_decide_eq_true h20) rfl (dk_182 (bt bc_Law_read_1 15 rfl) (bt bc_Law_read_1 16 rfl) (bt bc_Law_read_1 17 rfl) (n := 46) rfl) rfl tw_749 tw_750 tw_751 tw_752 hd_Scribe_placeReached rfl (by decide) (Nat.le_of_ble_eq_true rfl) (fun r21 M22 => ?_)
        refine EJ_ck (fun h23 => ?_)
        refine EJ_putI cf5 4 (by decide) 53 tw_127 rfl (Or.inl rfl) (dk_181 (bt bc_Law_read_1 18 rfl) (bt bc_Law_read_1 19 rfl) (bt bc_Law_read_1 20 rfl) (n := 28) rfl) rfl (of_decide_eq_true h23) ?_
        refine EJ_iconst 54 (dk_3 (bt bc_Law_read_1 21 rfl)) rfl (v := 0) kI_0 ?_
        exact EJ_zret rfl (by decide) (dk_172 (bt bc_Law_read_1 22 rfl))
def Law_read_L16 (n : Nat) : Nat → Int32 → Mm → Option (Int32 × Mm) :=
  match n with
  | 0 => fun _ _ _ => none
  | n + 1 => Law_read_B16 (Law_read_L16 n)
theorem e_Law_read_L16 {G : Gx} : ∀ (n : Nat) (x0 : Nat) (x3 : Int32) (M : Mm), EJ G Y_Law_read cvI 48 16 [(0, .ref x0), (3, .int x3)] [] M (Law_read_L16 n x0 x3 M) := by
  intro n
  induction n with
  | zero => intros; exact EJ_none
  | succ n ih => intro x0 x3 M; exact e_Law_read_B16 _ ih x0 x3 M
def Law_read (M : Mm) (a0 : Nat) (a1 : Nat) (a2 : Int32) : Option (Int32 × Mm) :=
  ck (kO M a0 5 5) (
  let M2 := sI M a0 4 (-1)
  nn (mR M2 a0 0) (fun b3 =>
  ck (kO M2 b3 8 11) (
  bd (Scribe_begin M2 b3 a1 a2) (fun _ M6 =>
  Law_read_L16 fu a0 0 M6))))
set_option maxRecDepth 100000 in
set_option maxHeartbeats 4000000 in
theorem s_Law_read (G : Gx) (M : Mm) (a0 : Nat) (a1 : Nat) (a2 : Int32) : FnS G Y_Law_read cvI 48 [.ref a0, .ref a1, .int a2] M (Law_read M a0 a1 a2) := by
  refine FnS.ofE (by decide) (Nat.le_of_ble_eq_true rfl) ?_
  show EJ G Y_Law_read cvI 48 0 [(0, .ref a0), (1, .ref a1), (2, .int a2)] [] M _
  unfold Law_read
  refine EJ_aload_n 1 0 (dk_42 (bt bc_Law_read_0 0 rfl)) rfl rfl ?_
  refine EJ_iconst 2 (dk_2 (bt bc_Law_read_0 1 rfl)) rfl (v := (-1)) kI_m1 ?_
  refine EJ_ck (fun h1 => ?_)
  refine EJ_putI cf5 4 (by decide) 5 tw_127 rfl (Or.inl rfl) (dk_181 (bt bc_Law_read_0 2 rfl) (bt bc_Law_read_0 3 rfl) (bt bc_Law_read_0 4 rfl) (n := 28) rfl) rfl (of_decide_eq_true h1) ?_
  refine EJ_aload_n 6 0 (dk_42 (bt bc_Law_read_0 5 rfl)) rfl rfl ?_
  refine EJ_getR cf5 0 (by decide) 9 tw_122 (fun _ _ _ => rfl) (dk_180 (bt bc_Law_read_0 6 rfl) (bt bc_Law_read_0 7 rfl) (bt bc_Law_read_0 8 rfl) (n := 12) rfl) rfl (kp_I (of_decide_eq_true h1)) (fun b3 => ?_)
  refine EJ_aload_n 10 1 (dk_43 (bt bc_Law_read_0 9 rfl)) rfl rfl ?_
  refine EJ_iload_n 11 2 (dk_28 (bt bc_Law_read_0 10 rfl)) rfl rfl ?_
  refine EJ_ck (fun h4 => ?_)
  refine EJ_callVv (Y2 := Y_Scribe_begin) 14 cf8 (s_Scribe_begin G _ _ _ _) (of_decide_eq_true h4) rfl (dk_182 (bt bc_Law_read_0 11 rfl) (bt bc_Law_read_0 12 rfl) (bt bc_Law_read_0 13 rfl) (n := 35) rfl) rfl tw_627 tw_628 tw_629 tw_630 hd_Scribe_begin rfl (by decide) (Nat.le_of_ble_eq_true rfl) (fun _ M6 => ?_)
  refine EJ_iconst 15 (dk_3 (bt bc_Law_read_0 14 rfl)) rfl (v := 0) kI_0 ?_
  refine EJ_istore_n 16 (lv2 := [(3, .int _), (0, .ref _), (1, .ref _), (2, .int _)]) (dk_62 (bt bc_Law_read_0 15 rfl)) rfl (by decide) rfl ?_
  exact EJ_pick (lv2 := [(0, .ref _), (3, .int _)]) [1, 0] rfl (e_Law_read_L16 fu _ _ _)
abbrev Y_Law_keep : Ym := (⟨"RiceHall$Law", "keep", "(I)I"⟩, prog_7_method_4_code, 2, (some FieldType.int))
theorem bc_Law_keep_0 : bts prog_7_method_4_code 0 [42, 182, 0, 50, 153, 0, 5, 2, 172, 42, 180, 0, 20, 42, 180, 0, 32, 187, 0, 18, 89, 42, 180, 0, 12, 27, 183, 0, 53, 83, 42, 89] := bts_of (by decide +kernel)
theorem bc_Law_keep_1 : bts prog_7_method_4_code 32 [180, 0, 32, 4, 96, 181, 0, 32, 42, 180, 0, 32, 4, 100, 172] := bts_of (by decide +kernel)
theorem hd_Law_keep : Y_Law_keep.1.cls = RX5 ∧ Y_Law_keep.1.cls ≠ "java/lang/invoke/MethodHandle" ∧ Y_Law_keep.1.cls ≠ "java/lang/invoke/VarHandle" ∧ (parseMethodDescriptor Y_Law_keep.1.desc).map (fun d => d.parameters.length) = some 1 := by decide +kernel
def Law_keep (M : Mm) (a0 : Nat) (a1 : Int32) : Option (Int32 × Mm) :=
  ck (kO M a0 5 5) (
  bd (Law_isFull M a0) (fun r2 M3 =>
  if r2 = 0 then (
    ck (kO M3 a0 5 5) (
    nn (mR M3 a0 1) (fun b5 =>
    let M6 := nw M3 2 5
    ck (kO M6 a0 5 5) (
    nn (mR M6 a0 0) (fun b8 =>
    bd (Edict_new M6 (mZ M3) b8 a1) (fun _ M10 =>
    ck (kA M10 b5 27 (mI M3 a0 3)) (
    ck (kO M10 (mZ M3) 2 5) (
    let M13 := sR M10 b5 (ix (mI M3 a0 3)) (some (mZ M3))
    ck (kO M13 a0 5 5) (
    let M15 := sI M13 a0 3 ((mI M13 a0 3) + 1)
    some ((mI M15 a0 3) - 1, M15))))))))))
  else (
    some ((-1), M3))))
set_option maxRecDepth 100000 in
set_option maxHeartbeats 4000000 in
theorem s_Law_keep (G : Gx) (M : Mm) (a0 : Nat) (a1 : Int32) : FnS G Y_Law_keep cvI 5 [.ref a0, .int a1] M (Law_keep M a0 a1) := by
  refine FnS.ofE (by decide) (Nat.le_of_ble_eq_true rfl) ?_
  show EJ G Y_Law_keep cvI 5 0 [(0, .ref a0), (1, .int a1)] [] M _
  unfold Law_keep
  refine EJ_aload_n 1 0 (dk_42 (bt bc_Law_keep_0 0 rfl)) rfl rfl ?_
  refine EJ_ck (fun h1 => ?_)
  refine EJ_callVi (Y2 := Y_Law_isFull) 4 cf5 (s_Law_isFull G _ _) (of_decide_eq_true h1) rfl (dk_182 (bt bc_Law_keep_0 1 rfl) (bt bc_Law_keep_0 2 rfl) (bt bc_Law_keep_0 3 rfl) (n := 50) rfl) rfl tw_757 tw_620 tw_621 tw_622 hd_Law_isFull rfl (by decide) (Nat.le_of_ble_eq_true rfl) (fun r2 M3 => ?_)
  refine EJ_if_eq 9 7 (dk_153 (bt bc_Law_keep_0 4 rfl) (bt bc_Law_keep_0 5 rfl) (bt bc_Law_keep_0 6 rfl) (n := 5) rfl) (by decide) rfl (fun _ => ?_) (fun _ => ?_)
  · refine EJ_aload_n 10 0 (dk_42 (bt bc_Law_keep_0 9 rfl)) rfl rfl ?_
    refine EJ_ck (fun h4 => ?_)
    refine EJ_getR cf5 1 (by decide) 13 tw_123 (fun _ _ _ => rfl) (dk_180 (bt bc_Law_keep_0 10 rfl) (bt bc_Law_keep_0 11 rfl) (bt bc_Law_keep_0 12 rfl) (n := 20) rfl) rfl (of_decide_eq_true h4) (fun b5 => ?_)
    refine EJ_aload_n 14 0 (dk_42 (bt bc_Law_keep_0 13 rfl)) rfl rfl ?_
    refine EJ_getI cf5 3 (by decide) 17 tw_125 (fun _ _ _ => rfl) (dk_180 (bt bc_Law_keep_0 14 rfl) (bt bc_Law_keep_0 15 rfl) (bt bc_Law_keep_0 16 rfl) (n := 32) rfl) rfl (of_decide_eq_true h4) ?_
    refine EJ_new cf2 20 tw_120 (dk_187 (bt bc_Law_keep_0 17 rfl) (bt bc_Law_keep_0 18 rfl) (bt bc_Law_keep_0 19 rfl) (n := 18) rfl) rfl ?_
    refine EJ_dup 21 (dk_89 (bt bc_Law_keep_0 20 rfl)) rfl rfl ?_
    refine EJ_aload_n 22 0 (dk_42 (bt bc_Law_keep_0 21 rfl)) rfl rfl ?_
    refine EJ_ck (fun h7 => ?_)
    refine EJ_getR cf5 0 (by decide) 25 tw_122 (fun _ _ _ => rfl) (dk_180 (bt bc_Law_keep_0 22 rfl) (bt bc_Law_keep_0 23 rfl) (bt bc_Law_keep_0 24 rfl) (n := 12) rfl) rfl (of_decide_eq_true h7) (fun b8 => ?_)
    refine EJ_iload_n 26 1 (dk_27 (bt bc_Law_keep_0 25 rfl)) rfl rfl ?_
    refine EJ_callIv (Y2 := Y_Edict_new) 29 (s_Edict_new G _ _ _ _) rfl (dk_183 (bt bc_Law_keep_0 26 rfl) (bt bc_Law_keep_0 27 rfl) (bt bc_Law_keep_0 28 rfl) (n := 53) rfl) rfl rfl tw_758 tw_759 tw_12 tw_760 rfl hd_Edict_new rfl (by decide) (Nat.le_of_ble_eq_true rfl) (fun _ M10 => ?_)
    refine EJ_ck (fun h11 => ?_)
    refine EJ_ck (fun h12 => ?_)
    refine EJ_aast 7 30 cf2 (by decide) (by decide) rfl h11 (of_decide_eq_true h12) (dk_83 (bt bc_Law_keep_0 29 rfl)) rfl ?_
    refine EJ_aload_n 31 0 (dk_42 (bt bc_Law_keep_0 30 rfl)) rfl rfl ?_
    refine EJ_dup 32 (dk_89 (bt bc_Law_keep_0 31 rfl)) rfl rfl ?_
    refine EJ_ck (fun h14 => ?_)
    refine EJ_getI cf5 3 (by decide) 35 tw_125 (fun _ _ _ => rfl) (dk_180 (bt bc_Law_keep_1 0 rfl) (bt bc_Law_keep_1 1 rfl) (bt bc_Law_keep_1 2 rfl) (n := 32) rfl) rfl (of_decide_eq_true h14) ?_
    refine EJ_iconst 36 (dk_4 (bt bc_Law_keep_1 3 rfl)) rfl (v := 1) kI_1 ?_
    refine EJ_iadd 37 (dk_96 (bt bc_Law_keep_1 4 rfl)) rfl ?_
    refine EJ_putI cf5 3 (by decide) 40 tw_125 rfl (Or.inl rfl) (dk_181 (bt bc_Law_keep_1 5 rfl) (bt bc_Law_keep_1 6 rfl) (bt bc_Law_keep_1 7 rfl) (n := 32) rfl) rfl (of_decide_eq_true h14) ?_
    refine EJ_aload_n 41 0 (dk_42 (bt bc_Law_keep_1 8 rfl)) rfl rfl ?_
    refine EJ_getI cf5 3 (by decide) 44 tw_125 (fun _ _ _ => rfl) (dk_180 (bt bc_Law_keep_1 9 rfl) (bt bc_Law_keep_1 10 rfl) (bt bc_Law_keep_1 11 rfl) (n := 32) rfl) rfl (kp_I (of_decide_eq_true h14)) ?_
    refine EJ_iconst 45 (dk_4 (bt bc_Law_keep_1 12 rfl)) rfl (v := 1) kI_1 ?_
    refine EJ_isub 46 (dk_100 (bt bc_Law_keep_1 13 rfl)) rfl ?_
    exact EJ_iret rfl (dk_172 (bt bc_Law_keep_1 14 rfl))
  · refine EJ_iconst 8 (dk_2 (bt bc_Law_keep_0 7 rfl)) rfl (v := (-1)) kI_m1 ?_
    exact EJ_iret rfl (dk_172 (bt bc_Law_keep_0 8 rfl))
abbrev Y_Law_minuteOf : Ym := (⟨"RiceHall$Law", "minuteOf", "(I)I"⟩, prog_7_method_5_code, 2, (some FieldType.int))
theorem bc_Law_minuteOf_0 : bts prog_7_method_5_code 0 [27, 155, 0, 23, 27, 42, 180, 0, 32, 162, 0, 15, 42, 180, 0, 20, 27, 50, 180, 0, 56, 167, 0, 4, 2, 172] := bts_of (by decide +kernel)
theorem hd_Law_minuteOf : Y_Law_minuteOf.1.cls = RX5 ∧ Y_Law_minuteOf.1.cls ≠ "java/lang/invoke/MethodHandle" ∧ Y_Law_minuteOf.1.cls ≠ "java/lang/invoke/VarHandle" ∧ (parseMethodDescriptor Y_Law_minuteOf.1.desc).map (fun d => d.parameters.length) = some 1 := by decide +kernel
def Law_minuteOf (M : Mm) (a0 : Nat) (a1 : Int32) : Option (Int32 × Mm) :=
  if a1 < 0 then (
    some ((-1), M))
  else (
    ck (kO M a0 5 5) (
    if (mI M a0 3) ≤ a1 then (
      some ((-1), M))
    else (
      nn (mR M a0 1) (fun b2 =>
      ck (kA M b2 27 a1) (
      nn (mR M b2 (ix a1)) (fun b4 =>
      ck (kO M b4 2 5) (
      some (mI M b4 0, M))))))))
set_option maxRecDepth 100000 in
set_option maxHeartbeats 4000000 in
theorem s_Law_minuteOf (G : Gx) (M : Mm) (a0 : Nat) (a1 : Int32) : FnS G Y_Law_minuteOf cvI 1 [.ref a0, .int a1] M (Law_minuteOf M a0 a1) := by
  refine FnS.ofE (by decide) (Nat.le_of_ble_eq_true rfl) ?_
  show EJ G Y_Law_minuteOf cvI 1 0 [(0, .ref a0), (1, .int a1)] [] M _
  unfold Law_minuteOf
  refine EJ_iload_n 1 1 (dk_27 (bt bc_Law_minuteOf_0 0 rfl)) rfl rfl ?_
  refine EJ_if_lt 24 4 (dk_155 (bt bc_Law_minuteOf_0 1 rfl) (bt bc_Law_minuteOf_0 2 rfl) (bt bc_Law_minuteOf_0 3 rfl) (n := 23) rfl) (by decide) rfl (fun _ => ?_) (fun _ => ?_)
  · refine EJ_iconst 25 (dk_2 (bt bc_Law_minuteOf_0 24 rfl)) rfl (v := (-1)) kI_m1 ?_
    exact EJ_iret rfl (dk_172 (bt bc_Law_minuteOf_0 25 rfl))
  · refine EJ_iload_n 5 1 (dk_27 (bt bc_Law_minuteOf_0 4 rfl)) rfl rfl ?_
    refine EJ_aload_n 6 0 (dk_42 (bt bc_Law_minuteOf_0 5 rfl)) rfl rfl ?_
    refine EJ_ck (fun h1 => ?_)
    refine EJ_getI cf5 3 (by decide) 9 tw_125 (fun _ _ _ => rfl) (dk_180 (bt bc_Law_minuteOf_0 6 rfl) (bt bc_Law_minuteOf_0 7 rfl) (bt bc_Law_minuteOf_0 8 rfl) (n := 32) rfl) rfl (of_decide_eq_true h1) ?_
    refine EJ_icmp_ge 24 12 (dk_162 (bt bc_Law_minuteOf_0 9 rfl) (bt bc_Law_minuteOf_0 10 rfl) (bt bc_Law_minuteOf_0 11 rfl) (n := 15) rfl) (by decide) rfl (fun _ => ?_) (fun _ => ?_)
    · refine EJ_iconst 25 (dk_2 (bt bc_Law_minuteOf_0 24 rfl)) rfl (v := (-1)) kI_m1 ?_
      exact EJ_iret rfl (dk_172 (bt bc_Law_minuteOf_0 25 rfl))
    · refine EJ_aload_n 13 0 (dk_42 (bt bc_Law_minuteOf_0 12 rfl)) rfl rfl ?_
      refine EJ_getR cf5 1 (by decide) 16 tw_123 (fun _ _ _ => rfl) (dk_180 (bt bc_Law_minuteOf_0 13 rfl) (bt bc_Law_minuteOf_0 14 rfl) (bt bc_Law_minuteOf_0 15 rfl) (n := 20) rfl) rfl (of_decide_eq_true h1) (fun b2 => ?_)
      refine EJ_iload_n 17 1 (dk_27 (bt bc_Law_minuteOf_0 16 rfl)) rfl rfl ?_
      refine EJ_ck (fun h3 => ?_)
      refine EJ_aald 7 18 (by decide) (by decide) rfl h3 (dk_50 (bt bc_Law_minuteOf_0 17 rfl)) rfl (fun b4 => ?_)
      refine EJ_ck (fun h5 => ?_)
      refine EJ_getI cf2 0 (by decide) 21 tw_777 (fun _ _ _ => rfl) (dk_180 (bt bc_Law_minuteOf_0 18 rfl) (bt bc_Law_minuteOf_0 19 rfl) (bt bc_Law_minuteOf_0 20 rfl) (n := 56) rfl) rfl (of_decide_eq_true h5) ?_
      refine EJ_goto 25 (dk_167 (bt bc_Law_minuteOf_0 21 rfl) (bt bc_Law_minuteOf_0 22 rfl) (bt bc_Law_minuteOf_0 23 rfl) (n := 4) rfl) (by decide) ?_
      exact EJ_iret rfl (dk_172 (bt bc_Law_minuteOf_0 25 rfl))
abbrev Y_Ruin_new : Ym := (⟨"RiceHall$Ruin", "<init>", "()V"⟩, prog_9_method_1_code, 1, none)
theorem bc_Ruin_new_0 : bts prog_9_method_1_code 0 [42, 183, 0, 3, 42, 16, 16, 188, 10, 181, 0, 9, 42, 16, 16, 188, 10, 181, 0, 15, 42, 16, 16, 188, 11, 181, 0, 18, 177] := bts_of (by decide +kernel)
theorem hd_Ruin_new : Y_Ruin_new.1.cls ≠ "java/lang/invoke/MethodHandle" ∧ Y_Ruin_new.1.cls ≠ "java/lang/invoke/VarHandle" ∧ (parseMethodDescriptor Y_Ruin_new.1.desc).map (fun d => d.parameters.length) = some 0 := by decide +kernel
def Ruin_new (M : Mm) (a0 : Nat) : Option (Unit × Mm) :=
  let M1 := nw M 20 16
  ck (kO M1 a0 7 5) (
  let M3 := sR M1 a0 0 (some (mZ M))
  let M4 := nw M3 20 16
  ck (kO M4 a0 7 5) (
  let M6 := sR M4 a0 1 (some (mZ M3))
  let M7 := nw M6 23 16
  ck (kO M7 a0 7 5) (
  let M9 := sR M7 a0 2 (some (mZ M6))
  some ((), M9))))
set_option maxRecDepth 100000 in
set_option maxHeartbeats 4000000 in
theorem s_Ruin_new (G : Gx) (M : Mm) (a0 : Nat) : FnS G Y_Ruin_new cvV 1 [.ref a0] M (Ruin_new M a0) := by
  refine FnS.ofE (by decide) (Nat.le_of_ble_eq_true rfl) ?_
  show EJ G Y_Ruin_new cvV 1 0 [(0, .ref a0)] [] M _
  unfold Ruin_new
  refine EJ_aload_n 1 0 (dk_42 (bt bc_Ruin_new_0 0 rfl)) rfl rfl ?_
  refine EJ_obj 4 (dk_183 (bt bc_Ruin_new_0 1 rfl) (bt bc_Ruin_new_0 2 rfl) (bt bc_Ruin_new_0 3 rfl) (n := 3) rfl) rfl tw_177 tw_27 tw_28 (by decide) (Nat.le_of_ble_eq_true rfl) ?_
  refine EJ_aload_n 5 0 (dk_42 (bt bc_Ruin_new_0 4 rfl)) rfl rfl ?_
  refine EJ_bipush 7 (dk_16 (bt bc_Ruin_new_0 5 rfl) (bt bc_Ruin_new_0 6 rfl) (n := 16) rfl) rfl (v := 16) kB_16 ?_
  refine EJ_newa' 0 9 (c := 20) (N := 16) (by decide) rfl tw_61 rfl (by decide) (by decide) (dk_188_10 (bt bc_Ruin_new_0 7 rfl) (bt bc_Ruin_new_0 8 rfl)) rfl ?_
  refine EJ_ck (fun h2 => ?_)
  refine EJ_putR cf7 0 (by decide) 12 tw_178 (fun _ _ _ => rfl) (fun _ => rfl) (fun _ => rfl) (Or.inr ⟨rfl, rfl⟩) (dk_181 (bt bc_Ruin_new_0 9 rfl) (bt bc_Ruin_new_0 10 rfl) (bt bc_Ruin_new_0 11 rfl) (n := 9) rfl) rfl (of_decide_eq_true h2) ?_
  refine EJ_aload_n 13 0 (dk_42 (bt bc_Ruin_new_0 12 rfl)) rfl rfl ?_
  refine EJ_bipush 15 (dk_16 (bt bc_Ruin_new_0 13 rfl) (bt bc_Ruin_new_0 14 rfl) (n := 16) rfl) rfl (v := 16) kB_16 ?_
  refine EJ_newa' 0 17 (c := 20) (N := 16) (by decide) rfl tw_61 rfl (by decide) (by decide) (dk_188_10 (bt bc_Ruin_new_0 15 rfl) (bt bc_Ruin_new_0 16 rfl)) rfl ?_
  refine EJ_ck (fun h5 => ?_)
  refine EJ_putR cf7 1 (by decide) 20 tw_180 (fun _ _ _ => rfl) (fun _ => rfl) (fun _ => rfl) (Or.inr ⟨rfl, rfl⟩) (dk_181 (bt bc_Ruin_new_0 17 rfl) (bt bc_Ruin_new_0 18 rfl) (bt bc_Ruin_new_0 19 rfl) (n := 15) rfl) rfl (of_decide_eq_true h5) ?_
  refine EJ_aload_n 21 0 (dk_42 (bt bc_Ruin_new_0 20 rfl)) rfl rfl ?_
  refine EJ_bipush 23 (dk_16 (bt bc_Ruin_new_0 21 rfl) (bt bc_Ruin_new_0 22 rfl) (n := 16) rfl) rfl (v := 16) kB_16 ?_
  refine EJ_newa' 3 25 (c := 23) (N := 16) (by decide) rfl tw_171 rfl (by decide) (by decide) (dk_188_11 (bt bc_Ruin_new_0 23 rfl) (bt bc_Ruin_new_0 24 rfl)) rfl ?_
  refine EJ_ck (fun h8 => ?_)
  refine EJ_putR cf7 2 (by decide) 28 tw_182 (fun _ _ _ => rfl) (fun _ => rfl) (fun _ => rfl) (Or.inr ⟨rfl, rfl⟩) (dk_181 (bt bc_Ruin_new_0 25 rfl) (bt bc_Ruin_new_0 26 rfl) (bt bc_Ruin_new_0 27 rfl) (n := 18) rfl) rfl (of_decide_eq_true h8) ?_
  exact EJ_vret rfl (dk_177 (bt bc_Ruin_new_0 28 rfl))
abbrev Y_Ruin_owedTo : Ym := (⟨"RiceHall$Ruin", "owedTo", "(I[LRiceHall$Person;II)J"⟩, prog_9_method_4_code, 10, (some FieldType.long))
theorem bc_Ruin_owedTo_0 : bts prog_9_method_4_code 0 [9, 55, 5, 3, 54, 7, 21, 7, 29, 162, 0, 81, 44, 21, 7, 50, 180, 0, 64, 27, 46, 54, 8, 42, 180, 0, 9, 21, 7, 46, 158, 0] := bts_of (by decide +kernel)
theorem bc_Ruin_owedTo_1 : bts prog_9_method_4_code 32 [19, 42, 180, 0, 9, 21, 7, 46, 21, 4, 162, 0, 7, 4, 167, 0, 4, 3, 54, 9, 22, 5, 21, 9, 153, 0, 22, 21, 8, 133, 42, 180] := bts_of (by decide +kernel)
theorem bc_Ruin_owedTo_2 : bts prog_9_method_4_code 64 [0, 15, 21, 7, 46, 133, 105, 20, 0, 50, 109, 167, 0, 6, 21, 8, 133, 97, 55, 5, 132, 7, 1, 167, 255, 175, 22, 5, 173] := bts_of (by decide +kernel)
theorem hd_Ruin_owedTo : Y_Ruin_owedTo.1.cls = RX7 ∧ Y_Ruin_owedTo.1.cls ≠ "java/lang/invoke/MethodHandle" ∧ Y_Ruin_owedTo.1.cls ≠ "java/lang/invoke/VarHandle" ∧ (parseMethodDescriptor Y_Ruin_owedTo.1.desc).map (fun d => d.parameters.length) = some 4 := by decide +kernel
def Ruin_owedTo_J81 (k6 : Nat → Int32 → Nat → Int32 → Int32 → Int64 → Int32 → Mm → Option (Int64 × Mm)) (x0 : Nat) (x1 : Int32) (x2 : Nat) (x3 : Int32) (x4 : Int32) (x7 : Int32) (s0 : Int64) (s1 : Int64) (M : Mm) : Option (Int64 × Mm) :=
  let v10 : Int64 := s1 + s0
  let v11 : Int32 := x7 + 1
  k6 x0 x1 x2 x3 x4 v10 v11 M
set_option maxRecDepth 100000 in
set_option maxHeartbeats 4000000 in
theorem e_Ruin_owedTo_J81 {G : Gx} (k6 : Nat → Int32 → Nat → Int32 → Int32 → Int64 → Int32 → Mm → Option (Int64 × Mm)) (hk6 : ∀ (x0 : Nat) (x1 : Int32) (x2 : Nat) (x3 : Int32) (x4 : Int32) (x5 : Int64) (x7 : Int32) (M : Mm), EJ G Y_Ruin_owedTo cvL 1 6 [(0, .ref x0), (1, .int x1), (2, .ref x2), (3, .int x3), (4, .int x4), (5, .long x5), (7, .int x7)] [] M (k6 x0 x1 x2 x3 x4 x5 x7 M)) (x0 : Nat) (x1 : Int32) (x2 : Nat) (x3 : Int32) (x4 : Int32) (x7 : Int32) (s0 : Int64) (s1 : Int64) (M : Mm) : EJ G Y_Ruin_owedTo cvL 1 81 [(0, .ref x0), (1, .int x1), (2, .ref x2), (3, .int x3), (4, .int x4), (7, .int x7)] [.long s0, .long s1] M (Ruin_owedTo_J81 k6 x0 x1 x2 x3 x4 x7 s0 s1 M) := by
  unfold Ruin_owedTo_J81
  refine EJ_ladd 82 (dk_97 (bt bc_Ruin_owedTo_2 17 rfl)) rfl ?_
  refine EJ_lstore 84 (lv2 := [(5, .long _), (0, .ref _), (1, .int _), (2, .ref _), (3, .int _), (4, .int _), (7, .int _)]) (dk_55 (bt bc_Ruin_owedTo_2 18 rfl) (bt bc_Ruin_owedTo_2 19 rfl)) rfl (by decide) rfl ?_
  refine EJ_iinc 87 6 (lv2 := [(7, .int _), (5, .long _), (0, .ref _), (1, .int _), (2, .ref _), (3, .int _), (4, .int _)]) (dk_132 (bt bc_Ruin_owedTo_2 20 rfl) (bt bc_Ruin_owedTo_2 21 rfl) (bt bc_Ruin_owedTo_2 22 rfl) (n := 1) rfl) rfl (by decide) rfl (v := 1) kI_1 rfl ?_
  refine EJ_goto 6 (dk_167 (bt bc_Ruin_owedTo_2 23 rfl) (bt bc_Ruin_owedTo_2 24 rfl) (bt bc_Ruin_owedTo_2 25 rfl) (n := -81) rfl) (by decide) ?_
  exact EJ_pick (lv2 := [(0, .ref _), (1, .int _), (2, .ref _), (3, .int _), (4, .int _), (5, .long _), (7, .int _)]) [2, 3, 4, 5, 6, 1, 0] rfl (hk6 _ _ _ _ _ _ _ _)
def Ruin_owedTo_J50 (k6 : Nat → Int32 → Nat → Int32 → Int32 → Int64 → Int32 → Mm → Option (Int64 × Mm)) (x0 : Nat) (x1 : Int32) (x2 : Nat) (x3 : Int32) (x4 : Int32) (x5 : Int64) (x7 : Int32) (x8 : Int32) (s0 : Int32) (M : Mm) : Option (Int64 × Mm) :=
  if s0 = 0 then (
    Ruin_owedTo_J81 k6 x0 x1 x2 x3 x4 x7 (Int32.toInt64 x8) x5 M)
  else (
    ck (kO M x0 7 5) (
    nn (mR M x0 1) (fun b13 =>
    ck (kA M b13 20 x7) (
    Ruin_owedTo_J81 k6 x0 x1 x2 x3 x4 x7 (((Int32.toInt64 x8) * (Int32.toInt64 (mI M b13 (ix x7)))) / 100) x5 M))))
set_option maxRecDepth 100000 in
set_option maxHeartbeats 4000000 in
theorem e_Ruin_owedTo_J50 {G : Gx} (k6 : Nat → Int32 → Nat → Int32 → Int32 → Int64 → Int32 → Mm → Option (Int64 × Mm)) (hk6 : ∀ (x0 : Nat) (x1 : Int32) (x2 : Nat) (x3 : Int32) (x4 : Int32) (x5 : Int64) (x7 : Int32) (M : Mm), EJ G Y_Ruin_owedTo cvL 1 6 [(0, .ref x0), (1, .int x1), (2, .ref x2), (3, .int x3), (4, .int x4), (5, .long x5), (7, .int x7)] [] M (k6 x0 x1 x2 x3 x4 x5 x7 M)) (x0 : Nat) (x1 : Int32) (x2 : Nat) (x3 : Int32) (x4 : Int32) (x5 : Int64) (x7 : Int32) (x8 : Int32) (s0 : Int32) (M : Mm) : EJ G Y_Ruin_owedTo cvL 1 50 [(0, .ref x0), (1, .int x1), (2, .ref x2), (3, .int x3), (4, .int x4), (5, .long x5), (7, .int x7), (8, .int x8)] [.int s0] M (Ruin_owedTo_J50 k6 x0 x1 x2 x3 x4 x5 x7 x8 s0 M) := by
  unfold Ruin_owedTo_J50
  refine EJ_istore 52 (lv2 := [(9, .int _), (0, .ref _), (1, .int _), (2, .ref _), (3, .int _), (4, .int _), (5, .long _), (7, .int _), (8, .int _)]) (dk_54 (bt bc_Ruin_owedTo_1 18 rfl) (bt bc_Ruin_owedTo_1 19 rfl)) rfl (by decide) rfl ?_
  refine EJ_lload 54 6 (dk_22 (bt bc_Ruin_owedTo_1 20 rfl) (bt bc_Ruin_owedTo_1 21 rfl)) rfl rfl ?_
  refine EJ_iload 56 0 (dk_21 (bt bc_Ruin_owedTo_1 22 rfl) (bt bc_Ruin_owedTo_1 23 rfl)) rfl rfl ?_
  refine EJ_if_eq 78 59 (dk_153 (bt bc_Ruin_owedTo_1 24 rfl) (bt bc_Ruin_owedTo_1 25 rfl) (bt bc_Ruin_owedTo_1 26 rfl) (n := 22) rfl) (by decide) rfl (fun _ => ?_) (fun _ => ?_)
  · refine EJ_iload 80 8 (dk_21 (bt bc_Ruin_owedTo_2 14 rfl) (bt bc_Ruin_owedTo_2 15 rfl)) rfl rfl ?_
    refine EJ_i2l 81 (dk_133 (bt bc_Ruin_owedTo_2 16 rfl)) rfl ?_
    exact EJ_pick (lv2 := [(0, .ref _), (1, .int _), (2, .ref _), (3, .int _), (4, .int _), (7, .int _)]) [1, 2, 3, 4, 5, 7] rfl (e_Ruin_owedTo_J81 k6 hk6 _ _ _ _ _ _ _ _ _)
  · refine EJ_iload 61 8 (dk_21 (bt bc_Ruin_owedTo_1 27 rfl) (bt bc_Ruin_owedTo_1 28 rfl)) rfl rfl ?_
    refine EJ_i2l 62 (dk_133 (bt bc_Ruin_owedTo_1 29 rfl)) rfl ?_
    refine EJ_aload_n 63 1 (dk_42 (bt bc_Ruin_owedTo_1 30 rfl)) rfl rfl ?_
    refine EJ_ck (fun h12 => ?_)
    refine EJ_getR cf7 1 (by decide) 66 tw_180 (fun _ _ _ => rfl) (dk_180 (bt bc_Ruin_owedTo_1 31 rfl) (bt bc_Ruin_owedTo_2 0 rfl) (bt bc_Ruin_owedTo_2 1 rfl) (n := 15) rfl) rfl (of_decide_eq_true h12) (fun b13 => ?_)
    refine EJ_iload 68 7 (dk_21 (bt bc_Ruin_owedTo_2 2 rfl) (bt bc_Ruin_owedTo_2 3 rfl)) rfl rfl ?_
    refine EJ_ck (fun h14 => ?_)
    refine EJ_iald 69 h14 (dk_46 (bt bc_Ruin_owedTo_2 4 rfl)) rfl ?_
    refine EJ_i2l 70 (dk_133 (bt bc_Ruin_owedTo_2 5 rfl)) rfl ?_
    refine EJ_lmul 71 (dk_105 (bt bc_Ruin_owedTo_2 6 rfl)) rfl ?_
    refine EJ_ldc2 74 (dk_20 (bt bc_Ruin_owedTo_2 7 rfl) (bt bc_Ruin_owedTo_2 8 rfl) (bt bc_Ruin_owedTo_2 9 rfl) (n := 50) rfl) rfl tw_1135 ?_
    refine EJ_ldiv 75 (dk_109 (bt bc_Ruin_owedTo_2 10 rfl)) rfl (by decide) ?_
    refine EJ_goto 81 (dk_167 (bt bc_Ruin_owedTo_2 11 rfl) (bt bc_Ruin_owedTo_2 12 rfl) (bt bc_Ruin_owedTo_2 13 rfl) (n := 6) rfl) (by decide) ?_
    exact EJ_pick (lv2 := [(0, .ref _), (1, .int _), (2, .ref _), (3, .int _), (4, .int _), (7, .int _)]) [1, 2, 3, 4, 5, 7] rfl (e_Ruin_owedTo_J81 k6 hk6 _ _ _ _ _ _ _ _ _)
def Ruin_owedTo_J49 (k6 : Nat → Int32 → Nat → Int32 → Int32 → Int64 → Int32 → Mm → Option (Int64 × Mm)) (x0 : Nat) (x1 : Int32) (x2 : Nat) (x3 : Int32) (x4 : Int32) (x5 : Int64) (x7 : Int32) (x8 : Int32) (M : Mm) : Option (Int64 × Mm) :=
  Ruin_owedTo_J50 k6 x0 x1 x2 x3 x4 x5 x7 x8 0 M
set_option maxRecDepth 100000 in
set_option maxHeartbeats 4000000 in
theorem e_Ruin_owedTo_J49 {G : Gx} (k6 : Nat → Int32 → Nat → Int32 → Int32 → Int64 → Int32 → Mm → Option (Int64 × Mm)) (hk6 : ∀ (x0 : Nat) (x1 : Int32) (x2 : Nat) (x3 : Int32) (x4 : Int32) (x5 : Int64) (x7 : Int32) (M : Mm), EJ G Y_Ruin_owedTo cvL 1 6 [(0, .ref x0), (1, .int x1), (2, .ref x2), (3, .int x3), (4, .int x4), (5, .long x5), (7, .int x7)] [] M (k6 x0 x1 x2 x3 x4 x5 x7 M)) (x0 : Nat) (x1 : Int32) (x2 : Nat) (x3 : Int32) (x4 : Int32) (x5 : Int64) (x7 : Int32) (x8 : Int32) (M : Mm) : EJ G Y_Ruin_owedTo cvL 1 49 [(0, .ref x0), (1, .int x1), (2, .ref x2), (3, .int x3), (4, .int x4), (5, .long x5), (7, .int x7), (8, .int x8)] [] M (Ruin_owedTo_J49 k6 x0 x1 x2 x3 x4 x5 x7 x8 M) := by
  unfold Ruin_owedTo_J49
  refine EJ_iconst 50 (dk_3 (bt bc_Ruin_owedTo_1 17 rfl)) rfl (v := 0) kI_0 ?_
  exact EJ_pick (lv2 := [(0, .ref _), (1, .int _), (2, .ref _), (3, .int _), (4, .int _), (5, .long _), (7, .int _), (8, .int _)]) [0, 1, 2, 3, 4, 5, 6, 7] rfl (e_Ruin_owedTo_J50 k6 hk6 _ _ _ _ _ _ _ _ _ _)
def Ruin_owedTo_B6 (k6 : Nat → Int32 → Nat → Int32 → Int32 → Int64 → Int32 → Mm → Option (Int64 × Mm)) (x0 : Nat) (x1 : Int32) (x2 : Nat) (x3 : Int32) (x4 : Int32) (x5 : Int64) (x7 : Int32) (M : Mm) : Option (Int64 × Mm) :=
  if x3 ≤ x7 then (
    some (x5, M))
  else (
    ck (kA M x2 24 x7) (
    nn (mR M x2 (ix x7)) (fun b2 =>
    ck (kO M b2 6 9) (
    nn (mR M b2 2) (fun b4 =>
    ck (kA M b4 20 x1) (
    let v6 : Int32 := mI M b4 (ix x1)
    ck (kO M x0 7 5) (
    nn (mR M x0 0) (fun b8 =>
    ck (kA M b8 20 x7) (
    if (mI M b8 (ix x7)) ≤ 0 then (
      Ruin_owedTo_J49 k6 x0 x1 x2 x3 x4 x5 x7 v6 M)
    else (
      nn (mR M x0 0) (fun b15 =>
      ck (kA M b15 20 x7) (
      if x4 ≤ (mI M b15 (ix x7)) then (
        Ruin_owedTo_J49 k6 x0 x1 x2 x3 x4 x5 x7 v6 M)
      else (
        Ruin_owedTo_J50 k6 x0 x1 x2 x3 x4 x5 x7 v6 1 M)))))))))))))
set_option maxRecDepth 100000 in
set_option maxHeartbeats 4000000 in
theorem e_Ruin_owedTo_B6 {G : Gx} (k6 : Nat → Int32 → Nat → Int32 → Int32 → Int64 → Int32 → Mm → Option (Int64 × Mm)) (hk6 : ∀ (x0 : Nat) (x1 : Int32) (x2 : Nat) (x3 : Int32) (x4 : Int32) (x5 : Int64) (x7 : Int32) (M : Mm), EJ G Y_Ruin_owedTo cvL 1 6 [(0, .ref x0), (1, .int x1), (2, .ref x2), (3, .int x3), (4, .int x4), (5, .long x5), (7, .int x7)] [] M (k6 x0 x1 x2 x3 x4 x5 x7 M)) (x0 : Nat) (x1 : Int32) (x2 : Nat) (x3 : Int32) (x4 : Int32) (x5 : Int64) (x7 : Int32) (M : Mm) : EJ G Y_Ruin_owedTo cvL 1 6 [(0, .ref x0), (1, .int x1), (2, .ref x2), (3, .int x3), (4, .int x4), (5, .long x5), (7, .int x7)] [] M (Ruin_owedTo_B6 k6 x0 x1 x2 x3 x4 x5 x7 M) := by
  unfold Ruin_owedTo_B6
  refine EJ_iload 8 6 (dk_21 (bt bc_Ruin_owedTo_0 6 rfl) (bt bc_Ruin_owedTo_0 7 rfl)) rfl rfl ?_
  refine EJ_iload_n 9 3 (dk_29 (bt bc_Ruin_owedTo_0 8 rfl)) rfl rfl ?_
  refine EJ_icmp_ge 90 12 (dk_162 (bt bc_Ruin_owedTo_0 9 rfl) (bt bc_Ruin_owedTo_0 10 rfl) (bt bc_Ruin_owedTo_0 11 rfl) (n := 81) rfl) (by decide) rfl (fun _ => ?_) (fun _ => ?_)
  · refine EJ_lload 92 5 (dk_22 (bt bc_Ruin_owedTo_2 26 rfl) (bt bc_Ruin_owedTo_2 27 rfl)) rfl rfl ?_
    exact EJ_lret rfl (dk_173 (bt bc_Ruin_owedTo_2 28 rfl))
  · refine EJ_aload_n 13 2 (dk_44 (bt bc_Ruin_owedTo_0 12 rfl)) rfl rfl ?_
    refine EJ_iload 15 6 (dk_21 (bt bc_Ruin_owedTo_0 13 rfl) (bt bc_Ruin_owedTo_0 14 rfl)) rfl rfl ?_
    refine EJ_ck (fun h1 => ?_)
    refine EJ_aald 4 16 (by decide) (by decide) rfl h1 (dk_50 (bt bc_Ruin_owedTo_0 15 rfl)) rfl (fun b2 => ?_)
    refine EJ_ck (fun h3 => ?_)
    refine EJ_getR cf6 2 (by decide) 19 tw_343 (fun _ _ _ => rfl) (dk_180 (bt bc_Ruin_owedTo_0 16 rfl) (bt bc_Ruin_owedTo_0 17 rfl) (bt bc_Ruin_owedTo_0 18 rfl) (n := 64) rfl) rfl (of_decide_eq_true h3) (fun b4 => ?_)
    refine EJ_iload_n 20 1 (dk_27 (bt bc_Ruin_owedTo_0 19 rfl)) rfl rfl ?_
    refine EJ_ck (fun h5 => ?_)
    refine EJ_iald 21 h5 (dk_46 (bt bc_Ruin_owedTo_0 20 rfl)) rfl ?_
    refine EJ_istore 23 (lv2 := [(8, .int _), (0, .ref _), (1, .int _), (2, .ref _), (3, .int _), (4, .int _), (5, .long _), (7, .int _)]) (dk_54 (bt bc_Ruin_owedTo_0 21 rfl) (bt bc_Ruin_owedTo_0 22 rfl)) rfl (by decide) rfl ?_
    refine EJ_aload_n 24 1 (dk_42 (bt bc_Ruin_owedTo_0 23 rfl)) rfl rfl ?_
    refine EJ_ck (fun h7 => ?_)
    refine EJ_getR cf7 0 (by decide) 27 tw_178 (fun _ _ _ => rfl) (dk_180 (bt bc_Ruin_owedTo_0 24 rfl) (bt bc_Ruin_owedTo_0 25 rfl) (bt bc_Ruin_owedTo_0 26 rfl) (n := 9) rfl) rfl (of_decide_eq_true h7) (fun b8 => ?_)
    refine EJ_iload 29 7 (dk_21 (bt bc_Ruin_owedTo_0 27 rfl) (bt bc_Ruin_owedTo_0 28 rfl)) rfl rfl ?_
    refine EJ_ck (fun h9 => ?_)
    refine EJ_iald 30 h9 (dk_46 (bt bc_Ruin_owedTo_0 29 rfl)) rfl ?_
    refine EJ_if_le 49 33 (dk_158 (bt bc_Ruin_owedTo_0 30 rfl) (bt bc_Ruin_owedTo_0 31 rfl) (bt bc_Ruin_owedTo_1 0 rfl) (n := 19) rfl) (by decide) rfl (fun _ => ?_) (fun _ => ?_)
    · exact EJ_pick (lv2 := [(0, .ref _), (1, .int _), (2, .ref _), (3, .int _), (4, .int _), (5, .long _), (7, .int _), (8, .int _)]) [1, 2, 3, 4, 5, 6, 7, 0] rfl (e_Ruin_owedTo_J49 k6 hk6 _ _ _ _ _ _ _ _ _)
    · refine EJ_aload_n 34 1 (dk_42 (bt bc_Ruin_owedTo_1 1 rfl)) rfl rfl ?_
      refine EJ_getR cf7 0 (by decide) 37 tw_178 (fun _ _ _ => rfl) (dk_180 (bt bc_Ruin_owedTo_1 2 rfl) (bt bc_Ruin_owedTo_1 3 rfl) (bt bc_Ruin_owedTo_1 4 rfl) (n := 9) rfl) rfl (of_decide_eq_true h7) (fun b15 => ?_)
      refine EJ_iload 39 7 (dk_21 (bt bc_Ruin_owedTo_1 5 rfl) (bt bc_Ruin_owedTo_1 6 rfl)) rfl rfl ?_
      refine EJ_ck (fun h16 => ?_)
      refine EJ_iald 40 h16 (dk_46 (bt bc_Ruin_owedTo_1 7 rfl)) rfl ?_
      refine EJ_iload 42 5 (dk_21 (bt bc_Ruin_owedTo_1 8 rfl) (bt bc_Ruin_owedTo_1 9 rfl)) rfl rfl ?_
      refine EJ_icmp_ge 49 45 (dk_162 (bt bc_Ruin_owedTo_1 10 rfl) (bt bc_Ruin_owedTo_1 11 rfl) (bt bc_Ruin_owedTo_1 12 rfl) (n := 7) rfl) (by decide) rfl (fun _ => ?_) (fun _ => ?_)
      · exact EJ_pick (lv2 := [(0, .ref _), (1, .int _), (2, .ref _), (3, .int _), (4, .int _), (5, .long _), (7, .int _), (8, .int _)]) [1, 2, 3, 4, 5, 6, 7, 0] rfl (e_Ruin_owedTo_J49 k6 hk6 _ _ _ _ _ _ _ _ _)
      · refine EJ_iconst 46 (dk_4 (bt bc_Ruin_owedTo_1 13 rfl)) rfl (v := 1) kI_1 ?_
        refine EJ_goto 50 (dk_167 (bt bc_Ruin_owedTo_1 14 rfl) (bt bc_Ruin_owedTo_1 15 rfl) (bt bc_Ruin_owedTo_1 16 rfl) (n := 4) rfl) (by decide) ?_
        exact EJ_pick (lv2 := [(0, .ref _), (1, .int _), (2, .ref _), (3, .int _), (4, .int _), (5, .long _), (7, .int _), (8, .int _)]) [1, 2, 3, 4, 5, 6, 7, 0] rfl (e_Ruin_owedTo_J50 k6 hk6 _ _ _ _ _ _ _ _ _ _)
def Ruin_owedTo_L6 (n : Nat) : Nat → Int32 → Nat → Int32 → Int32 → Int64 → Int32 → Mm → Option (Int64 × Mm) :=
  match n with
  | 0 => fun _ _ _ _ _ _ _ _ => none
  | n + 1 => Ruin_owedTo_B6 (Ruin_owedTo_L6 n)
theorem e_Ruin_owedTo_L6 {G : Gx} : ∀ (n : Nat) (x0 : Nat) (x1 : Int32) (x2 : Nat) (x3 : Int32) (x4 : Int32) (x5 : Int64) (x7 : Int32) (M : Mm), EJ G Y_Ruin_owedTo cvL 1 6 [(0, .ref x0), (1, .int x1), (2, .ref x2), (3, .int x3), (4, .int x4), (5, .long x5), (7, .int x7)] [] M (Ruin_owedTo_L6 n x0 x1 x2 x3 x4 x5 x7 M) := by
  intro n
  induction n with
  | zero => intros; exact EJ_none
  | succ n ih => intro x0 x1 x2 x3 x4 x5 x7 M; exact e_Ruin_owedTo_B6 _ ih x0 x1 x2 x3 x4 x5 x7 M
def Ruin_owedTo (M : Mm) (a0 : Nat) (a1 : Int32) (a2 : Nat) (a3 : Int32) (a4 : Int32) : Option (Int64 × Mm) :=
  Ruin_owedTo_L6 fu a0 a1 a2 a3 a4 0 0 M
set_option maxRecDepth 100000 in
set_option maxHeartbeats 4000000 in
theorem s_Ruin_owedTo (G : Gx) (M : Mm) (a0 : Nat) (a1 : Int32) (a2 : Nat) (a3 : Int32) (a4 : Int32) : FnS G Y_Ruin_owedTo cvL 1 [.ref a0, .int a1, .ref a2, .int a3, .int a4] M (Ruin_owedTo M a0 a1 a2 a3 a4) := by
  refine FnS.ofE (by decide) (Nat.le_of_ble_eq_true rfl) ?_
  show EJ G Y_Ruin_owedTo cvL 1 0 [(0, .ref a0), (1, .int a1), (2, .ref a2), (3, .int a3), (4, .int a4)] [] M _
  unfold Ruin_owedTo
  refine EJ_lconst 1 (dk_9 (bt bc_Ruin_owedTo_0 0 rfl)) rfl (v := 0) (by decide) ?_
  refine EJ_lstore 3 (lv2 := [(5, .long _), (0, .ref _), (1, .int _), (2, .ref _), (3, .int _), (4, .int _)]) (dk_55 (bt bc_Ruin_owedTo_0 1 rfl) (bt bc_Ruin_owedTo_0 2 rfl)) rfl (by decide) rfl ?_
  refine EJ_iconst 4 (dk_3 (bt bc_Ruin_owedTo_0 3 rfl)) rfl (v := 0) kI_0 ?_
  refine EJ_istore 6 (lv2 := [(7, .int _), (5, .long _), (0, .ref _), (1, .int _), (2, .ref _), (3, .int _), (4, .int _)]) (dk_54 (bt bc_Ruin_owedTo_0 4 rfl) (bt bc_Ruin_owedTo_0 5 rfl)) rfl (by decide) rfl ?_
  exact EJ_pick (lv2 := [(0, .ref _), (1, .int _), (2, .ref _), (3, .int _), (4, .int _), (5, .long _), (7, .int _)]) [2, 3, 4, 5, 6, 1, 0] rfl (e_Ruin_owedTo_L6 fu _ _ _ _ _ _ _ _)
abbrev Y_Ruin_debtsOf : Ym := (⟨"RiceHall$Ruin", "debtsOf", "(LRiceHall$Person;I)J"⟩, prog_9_method_5_code, 5, (some FieldType.long))
theorem bc_Ruin_debtsOf_0 : bts prog_9_method_5_code 0 [9, 42, 180, 0, 29, 117, 184, 0, 35, 65, 3, 54, 4, 21, 4, 27, 162, 0, 20, 32, 42, 180, 0, 64, 21, 4, 46, 133, 97, 65, 132, 4] := bts_of (by decide +kernel)
theorem bc_Ruin_debtsOf_1 : bts prog_9_method_5_code 32 [1, 167, 255, 236, 32, 173] := bts_of (by decide +kernel)
theorem hd_Ruin_debtsOf : Y_Ruin_debtsOf.1.cls ≠ "java/lang/invoke/MethodHandle" ∧ Y_Ruin_debtsOf.1.cls ≠ "java/lang/invoke/VarHandle" ∧ (parseMethodDescriptor Y_Ruin_debtsOf.1.desc).map (fun d => d.parameters.length) = some 2 := by decide +kernel
def Ruin_debtsOf_B13 (k13 : Nat → Int32 → Int64 → Int32 → Mm → Option (Int64 × Mm)) (x0 : Nat) (x1 : Int32) (x2 : Int64) (x4 : Int32) (M : Mm) : Option (Int64 × Mm) :=
  if x1 ≤ x4 then (
    some (x2, M))
  else (
    ck (kO M x0 6 9) (
    nn (mR M x0 2) (fun b5 =>
    ck (kA M b5 20 x4) (
    let v7 : Int64 := x2 + (Int32.toInt64 (mI M b5 (ix x4)))
    let v8 : Int32 := x4 + 1
    k13 x0 x1 v7 v8 M))))
set_option maxRecDepth 100000 in
set_option maxHeartbeats 4000000 in
theorem e_Ruin_debtsOf_B13 {G : Gx} (k13 : Nat → Int32 → Int64 → Int32 → Mm → Option (Int64 × Mm)) (hk13 : ∀ (x0 : Nat) (x1 : Int32) (x2 : Int64) (x4 : Int32) (M : Mm), EJ G Y_Ruin_debtsOf cvL 2 13 [(0, .ref x0), (1, .int x1), (2, .long x2), (4, .int x4)] [] M (k13 x0 x1 x2 x4 M)) (x0 : Nat) (x1 : Int32) (x2 : Int64) (x4 : Int32) (M : Mm) : EJ G Y_Ruin_debtsOf cvL 2 13 [(0, .ref x0), (1, .int x1), (2, .long x2), (4, .int x4)] [] M (Ruin_debtsOf_B13 k13 x0 x1 x2 x4 M) := by
  unfold Ruin_debtsOf_B13
  refine EJ_iload 15 3 (dk_21 (bt bc_Ruin_debtsOf_0 13 rfl) (bt bc_Ruin_debtsOf_0 14 rfl)) rfl rfl ?_
  refine EJ_iload_n 16 1 (dk_27 (bt bc_Ruin_debtsOf_0 15 rfl)) rfl rfl ?_
  refine EJ_icmp_ge 36 19 (dk_162 (bt bc_Ruin_debtsOf_0 16 rfl) (bt bc_Ruin_debtsOf_0 17 rfl) (bt bc_Ruin_debtsOf_0 18 rfl) (n := 20) rfl) (by decide) rfl (fun _ => ?_) (fun _ => ?_)
  · refine EJ_lload_n 37 2 (dk_32 (bt bc_Ruin_debtsOf_1 4 rfl)) rfl rfl ?_
    exact EJ_lret rfl (dk_173 (bt bc_Ruin_debtsOf_1 5 rfl))
  · refine EJ_lload_n 20 2 (dk_32 (bt bc_Ruin_debtsOf_0 19 rfl)) rfl rfl ?_
    refine EJ_aload_n 21 0 (dk_42 (bt bc_Ruin_debtsOf_0 20 rfl)) rfl rfl ?_
    refine EJ_ck (fun h4 => ?_)
    refine EJ_getR cf6 2 (by decide) 24 tw_343 (fun _ _ _ => rfl) (dk_180 (bt bc_Ruin_debtsOf_0 21 rfl) (bt bc_Ruin_debtsOf_0 22 rfl) (bt bc_Ruin_debtsOf_0 23 rfl) (n := 64) rfl) rfl (of_decide_eq_true h4) (fun b5 => ?_)
    refine EJ_iload 26 3 (dk_21 (bt bc_Ruin_debtsOf_0 24 rfl) (bt bc_Ruin_debtsOf_0 25 rfl)) rfl rfl ?_
    refine EJ_ck (fun h6 => ?_)
    refine EJ_iald 27 h6 (dk_46 (bt bc_Ruin_debtsOf_0 26 rfl)) rfl ?_
    refine EJ_i2l 28 (dk_133 (bt bc_Ruin_debtsOf_0 27 rfl)) rfl ?_
    refine EJ_ladd 29 (dk_97 (bt bc_Ruin_debtsOf_0 28 rfl)) rfl ?_
    refine EJ_lstore_n 30 (lv2 := [(2, .long _), (0, .ref _), (1, .int _), (4, .int _)]) (dk_65 (bt bc_Ruin_debtsOf_0 29 rfl)) rfl (by decide) rfl ?_
    refine EJ_iinc 33 3 (lv2 := [(4, .int _), (2, .long _), (0, .ref _), (1, .int _)]) (dk_132 (bt bc_Ruin_debtsOf_0 30 rfl) (bt bc_Ruin_debtsOf_0 31 rfl) (bt bc_Ruin_debtsOf_1 0 rfl) (n := 1) rfl) rfl (by decide) rfl (v := 1) kI_1 rfl ?_
    refine EJ_goto 13 (dk_167 (bt bc_Ruin_debtsOf_1 1 rfl) (bt bc_Ruin_debtsOf_1 2 rfl) (bt bc_Ruin_debtsOf_1 3 rfl) (n := -20) rfl) (by decide) ?_
    exact EJ_pick (lv2 := [(0, .ref _), (1, .int _), (2, .long _), (4, .int _)]) [2, 3, 1, 0] rfl (hk13 _ _ _ _ _)
def Ruin_debtsOf_L13 (n : Nat) : Nat → Int32 → Int64 → Int32 → Mm → Option (Int64 × Mm) :=
  match n with
  | 0 => fun _ _ _ _ _ => none
  | n + 1 => Ruin_debtsOf_B13 (Ruin_debtsOf_L13 n)
theorem e_Ruin_debtsOf_L13 {G : Gx} : ∀ (n : Nat) (x0 : Nat) (x1 : Int32) (x2 : Int64) (x4 : Int32) (M : Mm), EJ G Y_Ruin_debtsOf cvL 2 13 [(0, .ref x0), (1, .int x1), (2, .long x2), (4, .int x4)] [] M (Ruin_debtsOf_L13 n x0 x1 x2 x4 M) := by
  intro n
  induction n with
  | zero => intros; exact EJ_none
  | succ n ih => intro x0 x1 x2 x4 M; exact e_Ruin_debtsOf_B13 _ ih x0 x1 x2 x4 M
def Ruin_debtsOf (M : Mm) (a0 : Nat) (a1 : Int32) : Option (Int64 × Mm) :=
  ck (kO M a0 6 9) (
  bd (Math_max_L M 0 (-(mL M a0 3))) (fun r2 M3 =>
  Ruin_debtsOf_L13 fu a0 a1 r2 0 M3))
set_option maxRecDepth 100000 in
set_option maxHeartbeats 4000000 in
theorem s_Ruin_debtsOf (G : Gx) (M : Mm) (a0 : Nat) (a1 : Int32) : FnS G Y_Ruin_debtsOf cvL 2 [.ref a0, .int a1] M (Ruin_debtsOf M a0 a1) := by
  refine FnS.ofE (by decide) (Nat.le_of_ble_eq_true rfl) ?_
  show EJ G Y_Ruin_debtsOf cvL 2 0 [(0, .ref a0), (1, .int a1)] [] M _
  unfold Ruin_debtsOf
  refine EJ_lconst 1 (dk_9 (bt bc_Ruin_debtsOf_0 0 rfl)) rfl (v := 0) (by decide) ?_
  refine EJ_aload_n 2 0 (dk_42 (bt bc_Ruin_debtsOf_0 1 rfl)) rfl rfl ?_
  refine EJ_ck (fun h1 => ?_)
  refine EJ_getL cf6 3 (by decide) 5 tw_345 (fun _ _ _ => rfl) (dk_180 (bt bc_Ruin_debtsOf_0 2 rfl) (bt bc_Ruin_debtsOf_0 3 rfl) (bt bc_Ruin_debtsOf_0 4 rfl) (n := 29) rfl) rfl (of_decide_eq_true h1) ?_
  refine EJ_lneg 6 (dk_117 (bt bc_Ruin_debtsOf_0 5 rfl)) rfl ?_
  refine EJ_callSl (Y2 := Y_Math_max_L) 9 (s_Math_max_L G _ _ _) rfl (dk_184 (bt bc_Ruin_debtsOf_0 6 rfl) (bt bc_Ruin_debtsOf_0 7 rfl) (bt bc_Ruin_debtsOf_0 8 rfl) (n := 35) rfl) rfl tw_1133 tw_1081 tw_9 tw_1082 hd_Math_max_L rfl (by decide) (Nat.le_of_ble_eq_true rfl) (fun r2 M3 => ?_)
  refine EJ_lstore_n 10 (lv2 := [(2, .long _), (0, .ref _), (1, .int _)]) (dk_65 (bt bc_Ruin_debtsOf_0 9 rfl)) rfl (by decide) rfl ?_
  refine EJ_iconst 11 (dk_3 (bt bc_Ruin_debtsOf_0 10 rfl)) rfl (v := 0) kI_0 ?_
  refine EJ_istore 13 (lv2 := [(4, .int _), (2, .long _), (0, .ref _), (1, .int _)]) (dk_54 (bt bc_Ruin_debtsOf_0 11 rfl) (bt bc_Ruin_debtsOf_0 12 rfl)) rfl (by decide) rfl ?_
  exact EJ_pick (lv2 := [(0, .ref _), (1, .int _), (2, .long _), (4, .int _)]) [2, 3, 1, 0] rfl (e_Ruin_debtsOf_L13 fu _ _ _ _ _)
