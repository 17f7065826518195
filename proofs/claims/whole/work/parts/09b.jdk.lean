abbrev Y_Str_length : Ym := (⟨"java/lang/String", "length", "()I"⟩, prog_17_method_54_code, 1, (some FieldType.int))
theorem bc_Str_length_0 : bts prog_17_method_54_code 0 [42, 180, 0, 9, 190, 42, 182, 1, 79, 122, 172] := bts_of (by decide +kernel)
theorem hd_Str_length : Y_Str_length.1.cls = "java/lang/String" ∧ Y_Str_length.1.cls ≠ "java/lang/invoke/MethodHandle" ∧ Y_Str_length.1.cls ≠ "java/lang/invoke/VarHandle" ∧ (parseMethodDescriptor Y_Str_length.1.desc).map (fun d => d.parameters.length) = some 0 := by decide +kernel
abbrev Y_Str_coder : Ym := (⟨"java/lang/String", "coder", "()B"⟩, prog_17_method_152_code, 1, (some FieldType.byte))
theorem bc_Str_coder_0 : bts prog_17_method_152_code 0 [178, 0, 38, 153, 0, 10, 42, 180, 0, 15, 167, 0, 4, 4, 172] := bts_of (by decide +kernel)
theorem hd_Str_coder : Y_Str_coder.1.cls = "java/lang/String" ∧ Y_Str_coder.1.cls ≠ "java/lang/invoke/MethodHandle" ∧ Y_Str_coder.1.cls ≠ "java/lang/invoke/VarHandle" ∧ (parseMethodDescriptor Y_Str_coder.1.desc).map (fun d => d.parameters.length) = some 0 := by decide +kernel
abbrev Y_Str_isLatin1 : Ym := (⟨"java/lang/String", "isLatin1", "()Z"⟩, prog_17_method_154_code, 1, (some FieldType.boolean))
theorem bc_Str_isLatin1_0 : bts prog_17_method_154_code 0 [178, 0, 38, 153, 0, 14, 42, 180, 0, 15, 154, 0, 7, 4, 167, 0, 4, 3, 172] := bts_of (by decide +kernel)
theorem hd_Str_isLatin1 : Y_Str_isLatin1.1.cls = "java/lang/String" ∧ Y_Str_isLatin1.1.cls ≠ "java/lang/invoke/MethodHandle" ∧ Y_Str_isLatin1.1.cls ≠ "java/lang/invoke/VarHandle" ∧ (parseMethodDescriptor Y_Str_isLatin1.1.desc).map (fun d => d.parameters.length) = some 0 := by decide +kernel
abbrev Y_Str_charAt : Ym := (⟨"java/lang/String", "charAt", "(I)C"⟩, prog_17_method_56_code, 2, (some FieldType.char))
theorem bc_Str_charAt_0 : bts prog_17_method_56_code 0 [42, 182, 1, 236, 153, 0, 12, 42, 180, 0, 9, 27, 184, 1, 239, 172, 42, 180, 0, 9, 27, 184, 1, 242, 172] := bts_of (by decide +kernel)
theorem hd_Str_charAt : Y_Str_charAt.1.cls = "java/lang/String" ∧ Y_Str_charAt.1.cls ≠ "java/lang/invoke/MethodHandle" ∧ Y_Str_charAt.1.cls ≠ "java/lang/invoke/VarHandle" ∧ (parseMethodDescriptor Y_Str_charAt.1.desc).map (fun d => d.parameters.length) = some 1 := by decide +kernel
abbrev Y_Lat_charAt : Ym := (⟨"java/lang/StringLatin1", "charAt", "([BI)C"⟩, prog_18_method_2_code, 2, (some FieldType.char))
theorem bc_Lat_charAt_0 : bts prog_18_method_2_code 0 [27, 42, 190, 184, 0, 9, 42, 27, 51, 17, 0, 255, 126, 146, 172] := bts_of (by decide +kernel)
theorem hd_Lat_charAt : Y_Lat_charAt.1.cls ≠ "java/lang/invoke/MethodHandle" ∧ Y_Lat_charAt.1.cls ≠ "java/lang/invoke/VarHandle" ∧ (parseMethodDescriptor Y_Lat_charAt.1.desc).map (fun d => d.parameters.length) = some 2 := by decide +kernel
abbrev Y_Str_checkIndex : Ym := (⟨"java/lang/String", "checkIndex", "(II)V"⟩, prog_17_method_155_code, 2, none)
theorem bc_Str_checkIndex_0 : bts prog_17_method_155_code 0 [26, 27, 178, 4, 29, 184, 4, 35, 87, 177] := bts_of (by decide +kernel)
theorem hd_Str_checkIndex : Y_Str_checkIndex.1.cls ≠ "java/lang/invoke/MethodHandle" ∧ Y_Str_checkIndex.1.cls ≠ "java/lang/invoke/VarHandle" ∧ (parseMethodDescriptor Y_Str_checkIndex.1.desc).map (fun d => d.parameters.length) = some 2 := by decide +kernel
abbrev Y_Pre_checkIndex : Ym := (⟨"jdk/internal/util/Preconditions", "checkIndex", "(IILjava/util/function/BiFunction;)I"⟩, prog_22_method_11_code, 3, (some FieldType.int))
theorem bc_Pre_checkIndex_0 : bts prog_22_method_11_code 0 [26, 155, 0, 8, 26, 27, 161, 0, 10, 44, 26, 27, 184, 0, 95, 191, 26, 172] := bts_of (by decide +kernel)
theorem hd_Pre_checkIndex : Y_Pre_checkIndex.1.cls ≠ "java/lang/invoke/MethodHandle" ∧ Y_Pre_checkIndex.1.cls ≠ "java/lang/invoke/VarHandle" ∧ (parseMethodDescriptor Y_Pre_checkIndex.1.desc).map (fun d => d.parameters.length) = some 3 := by decide +kernel
abbrev Y_Arr_copyOf : Ym := (⟨"java/util/Arrays", "copyOf", "([II)[I"⟩, prog_21_method_123_code, 3, (some (FieldType.array FieldType.int)))
theorem bc_Arr_copyOf_0 : bts prog_21_method_123_code 0 [27, 42, 190, 160, 0, 11, 42, 182, 1, 60, 192, 1, 61, 176, 27, 188, 10, 77, 42, 3, 44, 3, 42, 190, 27, 184, 1, 48, 184, 0, 150, 44] := bts_of (by decide +kernel)
theorem bc_Arr_copyOf_1 : bts prog_21_method_123_code 32 [176] := bts_of (by decide +kernel)
theorem hd_Arr_copyOf : Y_Arr_copyOf.1.cls ≠ "java/lang/invoke/MethodHandle" ∧ Y_Arr_copyOf.1.cls ≠ "java/lang/invoke/VarHandle" ∧ (parseMethodDescriptor Y_Arr_copyOf.1.desc).map (fun d => d.parameters.length) = some 2 := by decide +kernel
theorem FnS.ofF {G : Gx} {Y : Ym} {ρ : Type} {cv : ρ → Option Value} {d : Nat} {M : Mm} {o : Option (ρ × Mm)} {as : List Value} (hy : plainFor Y.1 = true) (hlen : (lg_sl as).length ≤ Y.2.2.1) (h : EJ G Y cv d 0 (lv_args 0 as) [] M o) : FnS G Y cv d as M o := by
  intro r M' ho
  obtain ⟨h1, h2, k⟩ := h r M' ho
  refine ⟨h1, h2, va_MetF (cc := Y.2.1) (maxL := Y.2.2.1) (ret := Y.2.2.2) hy rfl ?_⟩
  intro p e s m args below meth c s₁ B hml hv
  obtain ⟨rfl, hR, hK, hE, hEu, hB⟩ := hv
  have hts := atoms_spec (ws := wsY Y) B.pre
  have hown : s.vm.findClass Y.1.cls = some m.cls := findClass_of_methodNamed B.named
  have hl := lv_entry (as.map (rho G)) (n := Y.2.2.1) (by rw [lg_sl_map]; exact hlen)
  rw [lg_entry_eq]
  generalize (lg_sl (as.map (rho G)) ++ List.replicate (Y.2.2.1 - (lg_sl (as.map (rho G))).length) Slot.unset).toArray = ls at hl ⊢
  rw [lv_args_map] at hl
  have hA : Atx G Y d p s m ((as.map (rho G)).toArray) meth c (headSpec (wsY Y) (rmd d (mZ M' - mZ M) (mS M' - mS M))).room := ⟨B.exec, B.bytes, hml, hown, fun w hw => hts w (List.mem_cons_of_mem _ hw), hK, hE, hEu, B.returns, B.notSynchronized, (fun h => (name_of_methodNamed B.named B.method).1.trans h), Nat.le_refl _, Nat.le_refl _, hB⟩
  exact k p e s m _ below meth c (headSpec (wsY Y) (rmd d (mZ M' - mZ M) (mS M' - mS M))).room s.heap [] 0 0 ls hA hR va_S.rf hl (Nat.zero_add _) (Nat.zero_add _)
set_option maxRecDepth 100000 in
set_option maxHeartbeats 4000000 in
theorem s_Str_coder (G : Gx) (M : Mm) (i : Nat) (hi : i < 2) : FnS G Y_Str_coder cvI 1 [.ref (i + 1)] M (some ((0 : Int32), M)) := by
  refine FnS.ofF (by decide +kernel) (Nat.le_of_ble_eq_true rfl) ?_
  show EJ G Y_Str_coder cvI 1 0 [(0, .ref (i + 1))] [] M _
  refine EJ_gsC 3 (dk_178 (bt bc_Str_coder_0 0 rfl) (bt bc_Str_coder_0 1 rfl) (bt bc_Str_coder_0 2 rfl) (n := 38) rfl) rfl rfl ?_
  have e : (some ((0 : Int32), M)) = if (1 : Int32) = 0 then none else some ((0 : Int32), M) := by rw [if_neg (by decide)]
  rw [e]
  refine EJ_if_eq 13 6 (dk_153 (bt bc_Str_coder_0 3 rfl) (bt bc_Str_coder_0 4 rfl) (bt bc_Str_coder_0 5 rfl) (n := 10) rfl) (by decide) rfl (fun h => absurd h (by decide)) (fun _ => ?_)
  refine EJ_aload_n 7 0 (dk_42 (bt bc_Str_coder_0 6 rfl)) rfl rfl ?_
  refine EJ_strCod i hi 10 (dk_180 (bt bc_Str_coder_0 7 rfl) (bt bc_Str_coder_0 8 rfl) (bt bc_Str_coder_0 9 rfl) (n := 15) rfl) rfl rfl ?_
  refine EJ_goto 14 (dk_167 (bt bc_Str_coder_0 10 rfl) (bt bc_Str_coder_0 11 rfl) (bt bc_Str_coder_0 12 rfl) (n := 4) rfl) (by decide) ?_
  exact EJ_nret rfl rfl (dk_172 (bt bc_Str_coder_0 14 rfl))
set_option maxRecDepth 100000 in
set_option maxHeartbeats 4000000 in
theorem s_Str_isLatin1 (G : Gx) (M : Mm) (i : Nat) (hi : i < 2) : FnS G Y_Str_isLatin1 cvI 1 [.ref (i + 1)] M (some ((1 : Int32), M)) := by
  refine FnS.ofF (by decide +kernel) (Nat.le_of_ble_eq_true rfl) ?_
  show EJ G Y_Str_isLatin1 cvI 1 0 [(0, .ref (i + 1))] [] M _
  refine EJ_gsC 3 (dk_178 (bt bc_Str_isLatin1_0 0 rfl) (bt bc_Str_isLatin1_0 1 rfl) (bt bc_Str_isLatin1_0 2 rfl) (n := 38) rfl) rfl rfl ?_
  have e : (some ((1 : Int32), M)) = if (1 : Int32) = 0 then none else (if (0 : Int32) = 0 then some ((1 : Int32), M) else none) := by rw [if_neg (by decide), if_pos rfl]
  rw [e]
  refine EJ_if_eq 17 6 (dk_153 (bt bc_Str_isLatin1_0 3 rfl) (bt bc_Str_isLatin1_0 4 rfl) (bt bc_Str_isLatin1_0 5 rfl) (n := 14) rfl) (by decide) rfl (fun h => absurd h (by decide)) (fun _ => ?_)
  refine EJ_aload_n 7 0 (dk_42 (bt bc_Str_isLatin1_0 6 rfl)) rfl rfl ?_
  refine EJ_strCod i hi 10 (dk_180 (bt bc_Str_isLatin1_0 7 rfl) (bt bc_Str_isLatin1_0 8 rfl) (bt bc_Str_isLatin1_0 9 rfl) (n := 15) rfl) rfl rfl ?_
  refine EJ_if_ne 17 13 (dk_154 (bt bc_Str_isLatin1_0 10 rfl) (bt bc_Str_isLatin1_0 11 rfl) (bt bc_Str_isLatin1_0 12 rfl) (n := 7) rfl) (by decide) rfl (fun h => absurd rfl h) (fun _ => ?_)
  refine EJ_iconst 14 (dk_4 (bt bc_Str_isLatin1_0 13 rfl)) rfl (v := 1) (by decide) ?_
  refine EJ_goto 18 (dk_167 (bt bc_Str_isLatin1_0 14 rfl) (bt bc_Str_isLatin1_0 15 rfl) (bt bc_Str_isLatin1_0 16 rfl) (n := 4) rfl) (by decide) ?_
  exact EJ_zret rfl (by decide) (dk_172 (bt bc_Str_isLatin1_0 18 rfl))
set_option maxRecDepth 100000 in
set_option maxHeartbeats 4000000 in
theorem s_Str_length (G : Gx) (M : Mm) (i : Nat) (hi : i < 2) {v : Int32} (hv : Int32.ofNat (lenS.getD i 0) = v) : FnS G Y_Str_length cvI 2 [.ref (i + 1)] M (some (v, M)) := by
  refine FnS.ofF (by decide +kernel) (Nat.le_of_ble_eq_true rfl) ?_
  show EJ G Y_Str_length cvI 2 0 [(0, .ref (i + 1))] [] M _
  refine EJ_aload_n 1 0 (dk_42 (bt bc_Str_length_0 0 rfl)) rfl rfl ?_
  refine EJ_strVal i hi 4 (dk_180 (bt bc_Str_length_0 1 rfl) (bt bc_Str_length_0 2 rfl) (bt bc_Str_length_0 3 rfl) (n := 9) rfl) rfl rfl ?_
  refine EJ_tln i hi 5 hv (dk_190 (bt bc_Str_length_0 4 rfl)) rfl ?_
  refine EJ_aload_n 6 0 (dk_42 (bt bc_Str_length_0 5 rfl)) rfl rfl ?_
  have e : (some (v, M)) = bd (some ((0 : Int32), M)) (fun r1 M1 => some (v >>> (r1 &&& 31), M1)) := by show _ = some (v >>> ((0 : Int32) &&& 31), M); rw [sb_shr0]
  rw [e]
  refine EJ_callT (Y2 := Y_Str_coder) 9 hi (s_Str_coder G M i hi) rfl (dk_182 (bt bc_Str_length_0 6 rfl) (bt bc_Str_length_0 7 rfl) (bt bc_Str_length_0 8 rfl) (n := 335) rfl) rfl tw_652 tw_653 tw_654 tw_655 hd_Str_coder rfl (by decide) (Nat.le_of_ble_eq_true rfl) (fun r1 M1 => ?_)
  refine EJ_ishr 10 (dk_122 (bt bc_Str_length_0 9 rfl)) rfl ?_
  exact EJ_iret rfl (dk_172 (bt bc_Str_length_0 10 rfl))
set_option maxRecDepth 100000 in
set_option maxHeartbeats 4000000 in
theorem s_Pre_checkIndex (G : Gx) (M : Mm) (x n : Int32) (w : Value) (hw : w = .null ∨ w = .ref 7) (h0 : ¬ x < 0) (h1 : x < n) : FnS G Y_Pre_checkIndex cvI 1 [.int x, .int n, w] M (some (x, M)) := by
  refine FnS.ofF (by decide +kernel) (by rcases hw with rfl | rfl <;> exact Nat.le_of_ble_eq_true rfl) ?_
  show EJ G Y_Pre_checkIndex cvI 1 0 [(0, .int x), (1, .int n), (2, w)] [] M _
  refine EJ_iload_n 1 0 (dk_26 (bt bc_Pre_checkIndex_0 0 rfl)) rfl rfl ?_
  have e : (some (x, M)) = if x < 0 then none else (if x < n then some (x, M) else none) := by rw [if_neg h0, if_pos h1]
  rw [e]
  refine EJ_if_lt 9 4 (dk_155 (bt bc_Pre_checkIndex_0 1 rfl) (bt bc_Pre_checkIndex_0 2 rfl) (bt bc_Pre_checkIndex_0 3 rfl) (n := 8) rfl) (by decide) rfl (fun h => absurd h h0) (fun _ => ?_)
  refine EJ_iload_n 5 0 (dk_26 (bt bc_Pre_checkIndex_0 4 rfl)) rfl rfl ?_
  refine EJ_iload_n 6 1 (dk_27 (bt bc_Pre_checkIndex_0 5 rfl)) rfl rfl ?_
  refine EJ_icmp_lt 16 9 (dk_161 (bt bc_Pre_checkIndex_0 6 rfl) (bt bc_Pre_checkIndex_0 7 rfl) (bt bc_Pre_checkIndex_0 8 rfl) (n := 10) rfl) (by decide) rfl (fun _ => ?_) (fun h => absurd h1 h)
  refine EJ_iload_n 17 0 (dk_26 (bt bc_Pre_checkIndex_0 16 rfl)) rfl rfl ?_
  exact EJ_iret rfl (dk_172 (bt bc_Pre_checkIndex_0 17 rfl))
set_option maxRecDepth 100000 in
set_option maxHeartbeats 4000000 in
theorem s_Str_checkIndex (G : Gx) (M : Mm) (x n : Int32) (h0 : ¬ x < 0) (h1 : x < n) : FnS G Y_Str_checkIndex cvV 2 [.int x, .int n] M (some ((), M)) := by
  refine FnS.ofF (by decide +kernel) (Nat.le_of_ble_eq_true rfl) ?_
  show EJ G Y_Str_checkIndex cvV 2 0 [(0, .int x), (1, .int n)] [] M _
  refine EJ_iload_n 1 0 (dk_26 (bt bc_Str_checkIndex_0 0 rfl)) rfl rfl ?_
  refine EJ_iload_n 2 1 (dk_27 (bt bc_Str_checkIndex_0 1 rfl)) rfl rfl ?_
  have e : (some ((), M)) = bd (some (x, M)) (fun _ M1 => some ((), M1)) := rfl
  rw [e]
  refine EJ_gsF 5 (dk_178 (bt bc_Str_checkIndex_0 2 rfl) (bt bc_Str_checkIndex_0 3 rfl) (bt bc_Str_checkIndex_0 4 rfl) (n := 1053) rfl) rfl rfl ?_ ?_
  · refine EJ_callSi (Y2 := Y_Pre_checkIndex) 8 (s_Pre_checkIndex G M x n _ (Or.inl rfl) h0 h1) rfl (dk_184 (bt bc_Str_checkIndex_0 5 rfl) (bt bc_Str_checkIndex_0 6 rfl) (bt bc_Str_checkIndex_0 7 rfl) (n := 1059) rfl) rfl tw_674 tw_675 tw_15 tw_676 hd_Pre_checkIndex rfl (by decide) (Nat.le_of_ble_eq_true rfl) (fun r1 M1 => ?_)
    refine EJ_pop 9 (dk_87 (bt bc_Str_checkIndex_0 8 rfl)) rfl rfl ?_
    exact EJ_vret rfl (dk_177 (bt bc_Str_checkIndex_0 9 rfl))
  · refine EJ_callSi (Y2 := Y_Pre_checkIndex) 8 (s_Pre_checkIndex G M x n _ (Or.inr rfl) h0 h1) rfl (dk_184 (bt bc_Str_checkIndex_0 5 rfl) (bt bc_Str_checkIndex_0 6 rfl) (bt bc_Str_checkIndex_0 7 rfl) (n := 1059) rfl) rfl tw_674 tw_675 tw_15 tw_676 hd_Pre_checkIndex rfl (by decide) (Nat.le_of_ble_eq_true rfl) (fun r1 M1 => ?_)
    refine EJ_pop 9 (dk_87 (bt bc_Str_checkIndex_0 8 rfl)) rfl rfl ?_
    exact EJ_vret rfl (dk_177 (bt bc_Str_checkIndex_0 9 rfl))
set_option maxRecDepth 100000 in
set_option maxHeartbeats 4000000 in
theorem s_Lat_charAt (G : Gx) (M : Mm) (i : Nat) (hi : i < 2) (x : Int32) (hx : kS (lenS.getD i 0) x = true) (h0 : ¬ x < 0) (h1 : x < Int32.ofNat (lenS.getD i 0)) : FnS G Y_Lat_charAt cvI 3 [.ref (i + 4), .int x] M (some ((((bytS.getD i []).getD (ix x) 0 &&& 255).toUInt32 % 65536).toInt32, M)) := by
  refine FnS.ofF (by decide +kernel) (Nat.le_of_ble_eq_true rfl) ?_
  show EJ G Y_Lat_charAt cvI 3 0 [(0, .ref (i + 4)), (1, .int x)] [] M _
  refine EJ_iload_n 1 1 (dk_27 (bt bc_Lat_charAt_0 0 rfl)) rfl rfl ?_
  refine EJ_aload_n 2 0 (dk_42 (bt bc_Lat_charAt_0 1 rfl)) rfl rfl ?_
  refine EJ_tln i hi 3 rfl (dk_190 (bt bc_Lat_charAt_0 2 rfl)) rfl ?_
  have e : (some ((((bytS.getD i []).getD (ix x) 0 &&& 255).toUInt32 % 65536).toInt32, M)) = bd (some ((), M)) (fun _ M1 => some ((((bytS.getD i []).getD (ix x) 0 &&& 255).toUInt32 % 65536).toInt32, M1)) := rfl
  rw [e]
  refine EJ_callSv (Y2 := Y_Str_checkIndex) 6 (s_Str_checkIndex G M x _ h0 h1) rfl (dk_184 (bt bc_Lat_charAt_0 3 rfl) (bt bc_Lat_charAt_0 4 rfl) (bt bc_Lat_charAt_0 5 rfl) (n := 9) rfl) rfl tw_669 tw_670 tw_13 tw_671 hd_Str_checkIndex rfl (by decide) (Nat.le_of_ble_eq_true rfl) (fun _ M1 => ?_)
  refine EJ_aload_n 7 0 (dk_42 (bt bc_Lat_charAt_0 6 rfl)) rfl rfl ?_
  refine EJ_iload_n 8 1 (dk_27 (bt bc_Lat_charAt_0 7 rfl)) rfl rfl ?_
  refine EJ_tbl i hi 9 hx (dk_51 (bt bc_Lat_charAt_0 8 rfl)) rfl ?_
  refine EJ_sipush 12 (dk_17 (bt bc_Lat_charAt_0 9 rfl) (bt bc_Lat_charAt_0 10 rfl) (bt bc_Lat_charAt_0 11 rfl) (n := 255) rfl) rfl (v := 255) (by decide) ?_
  refine EJ_iand 13 (dk_126 (bt bc_Lat_charAt_0 12 rfl)) rfl ?_
  refine EJ_i2c 14 (dk_146 (bt bc_Lat_charAt_0 13 rfl)) rfl ?_
  exact EJ_nret rfl (pk_nc _) (dk_172 (bt bc_Lat_charAt_0 14 rfl))
set_option maxRecDepth 100000 in
set_option maxHeartbeats 4000000 in
theorem s_Str_charAt (G : Gx) (M : Mm) (i : Nat) (hi : i < 2) (x : Int32) (hx : kS (lenS.getD i 0) x = true) (h0 : ¬ x < 0) (h1 : x < Int32.ofNat (lenS.getD i 0)) : FnS G Y_Str_charAt cvI 4 [.ref (i + 1), .int x] M (some ((((bytS.getD i []).getD (ix x) 0 &&& 255).toUInt32 % 65536).toInt32, M)) := by
  refine FnS.ofF (by decide +kernel) (Nat.le_of_ble_eq_true rfl) ?_
  show EJ G Y_Str_charAt cvI 4 0 [(0, .ref (i + 1)), (1, .int x)] [] M _
  have key : ∀ M1 : Mm, FnS G Y_Lat_charAt cvI 3 [.ref (i + 4), .int x] M1 (some ((((bytS.getD i []).getD (ix x) 0 &&& 255).toUInt32 % 65536).toInt32, M1)) := fun M1 => s_Lat_charAt G M1 i hi x hx h0 h1
  have hnv : narrow .char (.int (((bytS.getD i []).getD (ix x) 0 &&& 255).toUInt32 % 65536).toInt32) = .int (((bytS.getD i []).getD (ix x) 0 &&& 255).toUInt32 % 65536).toInt32 := pk_nc _
  generalize (((bytS.getD i []).getD (ix x) 0 &&& 255).toUInt32 % 65536).toInt32 = v at key hnv
  refine EJ_aload_n 1 0 (dk_42 (bt bc_Str_charAt_0 0 rfl)) rfl rfl ?_
  have e : (some (v, M)) = bd (some ((1 : Int32), M)) (fun r1 M1 => if r1 = 0 then none else bd (some (v, M1)) (fun r2 M2 => ck (decide (r2 = v)) (some (r2, M2)))) := by
    show _ = if (1 : Int32) = 0 then none else ck (decide (v = v)) (some (v, M))
    rw [if_neg (by decide), decide_eq_true rfl]; rfl
  rw [e]
  refine EJ_callT (Y2 := Y_Str_isLatin1) 4 hi (s_Str_isLatin1 G M i hi) rfl (dk_182 (bt bc_Str_charAt_0 1 rfl) (bt bc_Str_charAt_0 2 rfl) (bt bc_Str_charAt_0 3 rfl) (n := 492) rfl) rfl tw_662 tw_663 tw_664 tw_665 hd_Str_isLatin1 rfl (by decide) (Nat.le_of_ble_eq_true rfl) (fun r1 M1 => ?_)
  refine EJ_if_eq 16 7 (dk_153 (bt bc_Str_charAt_0 4 rfl) (bt bc_Str_charAt_0 5 rfl) (bt bc_Str_charAt_0 6 rfl) (n := 12) rfl) (by decide) rfl (fun _ => EJ_none) (fun _ => ?_)
  refine EJ_aload_n 8 0 (dk_42 (bt bc_Str_charAt_0 7 rfl)) rfl rfl ?_
  refine EJ_strVal i hi 11 (dk_180 (bt bc_Str_charAt_0 8 rfl) (bt bc_Str_charAt_0 9 rfl) (bt bc_Str_charAt_0 10 rfl) (n := 9) rfl) rfl rfl ?_
  refine EJ_iload_n 12 1 (dk_27 (bt bc_Str_charAt_0 11 rfl)) rfl rfl ?_
  refine EJ_callSi (Y2 := Y_Lat_charAt) 15 (key M1) rfl (dk_184 (bt bc_Str_charAt_0 12 rfl) (bt bc_Str_charAt_0 13 rfl) (bt bc_Str_charAt_0 14 rfl) (n := 495) rfl) rfl tw_666 tw_667 tw_14 tw_668 hd_Lat_charAt rfl (by decide) (Nat.le_of_ble_eq_true rfl) (fun r2 M2 => ?_)
  refine EJ_ck (fun hr => ?_)
  have hr : r2 = v := of_decide_eq_true hr
  subst hr
  exact EJ_nret rfl hnv (dk_172 (bt bc_Str_charAt_0 15 rfl))
theorem tx_ok : ∀ i, i < 2 → ∀ j, j < lenS.getD i 0 → (((bytS.getD i []).getD j 0 &&& 255).toUInt32 % 65536).toInt32 = (bytS.getD i []).getD j 0 := by decide +kernel
theorem kS_two {i : Nat} (hi : i < 2) {x : Int32} (h : kS (lenS.getD i 0) x = true) : ¬ x < 0 ∧ x < Int32.ofNat (lenS.getD i 0) ∧ ix x < lenS.getD i 0 := by
  have h2 := kS_spec h
  have hn : lenS.getD i 0 < 2 ^ 31 := by
    rcases (show i = 0 ∨ i = 1 by omega) with rfl | rfl <;> decide
  obtain ⟨j, hj, rfl⟩ := vp_in_of h2 hn
  refine ⟨nI_pos (by omega), nI_lt hj hn, ?_⟩
  show (nI j).toNatClampNeg < _
  rw [nI_clamp (by omega)]; exact hj
section EJ6
variable {G : Gx} {Y : Ym} {ρ : Type} {cv : ρ → Option Value} {d pc : Nat} {lv : List (Nat × Value)} {st : List Value} {M : Mm} {o o1 o2 : Option (ρ × Mm)}
end EJ6
