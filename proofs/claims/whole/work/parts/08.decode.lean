def bat (b : ByteArray) (p n : Nat) : Prop := ∃ h : p < b.size, b[p].toNat = n
theorem u1_run {b : ByteArray} {p n : Nat} (h : bat b p n) : ClassFile.Reader.u1 (ε := DecodeError) b p = .ok (n, p + 1) := by
  obtain ⟨h1, h2⟩ := h
  subst h2
  show (if h : p < b.size then (do set (p + 1); Pure.pure b[p].toNat) else throw (HasTruncated.truncated p) : Decoder Nat) b p = _
  rw [dif_pos h1]
  rfl
theorem u2_run {b : ByteArray} {p x y : Nat} (h : bat b p x) (h2 : bat b (p + 1) y) : ClassFile.Reader.u2 (ε := DecodeError) b p = .ok (x * 256 + y, p + 1 + 1) := by
  change Except.bind (ClassFile.Reader.u1 (ε := DecodeError) b p) _ = _
  rw [u1_run h]
  change Except.bind (ClassFile.Reader.u1 (ε := DecodeError) b (p + 1)) _ = _
  rw [u1_run h2]
  rfl
theorem s1_run {b : ByteArray} {p x : Nat} (h : bat b p x) : ClassFile.Reader.s1 (ε := DecodeError) b p = .ok (ClassFile.Reader.signed 8 x, p + 1) := by
  change Except.bind (ClassFile.Reader.u1 (ε := DecodeError) b p) _ = _
  rw [u1_run h]
  rfl
theorem s2_run {b : ByteArray} {p x y : Nat} (h : bat b p x) (h2 : bat b (p + 1) y) : ClassFile.Reader.s2 (ε := DecodeError) b p = .ok (ClassFile.Reader.signed 16 (x * 256 + y), p + 1 + 1) := by
  change Except.bind (ClassFile.Reader.u2 (ε := DecodeError) b p) _ = _
  rw [u2_run h h2]
  rfl
theorem sb1 (p : Nat) : p + 1 - p = 1 := by omega
theorem sb2 (p : Nat) : p + 1 + 1 - p = 2 := by omega
theorem sb3 (p : Nat) : p + 1 + 1 + 1 - p = 3 := by omega
/-- bytes of a code, from a place on -/
def bts (b : ByteArray) (a : Nat) (l : List Nat) : Prop := ∀ j n, l[j]? = some n → bat b (a + j) n
def bchk (b : ByteArray) (a : Nat) (l : List Nat) : Bool := ((b.data.toList.drop a).take l.length).map UInt8.toNat == l
theorem bts_of {b : ByteArray} {a : Nat} {l : List Nat} (h : bchk b a l = true) : bts b a l := by
  intro j n hj
  have e : ((b.data.toList.drop a).take l.length).map UInt8.toNat = l := by simpa [bchk] using h
  rw [← e, List.getElem?_map, List.getElem?_take] at hj
  split at hj
  · rw [List.getElem?_drop] at hj
    cases hx : b.data.toList[a + j]? with
    | none => rw [hx] at hj; cases hj
    | some x =>
      rw [hx] at hj
      obtain ⟨h1, h2⟩ := List.getElem?_eq_some_iff.mp hx
      have h3 : a + j < b.size := h1
      refine ⟨h3, ?_⟩
      have h4 : b[a + j] = x := by
        rw [← h2]
        rfl
      rw [h4]
      exact Option.some.inj hj
  · cases hj
theorem bt {b : ByteArray} {a : Nat} {l : List Nat} (h : bts b a l) (j : Nat) {n : Nat} (hj : l[j]? = some n) : bat b (a + j) n := h j n hj
set_option maxRecDepth 100000 in
theorem dk_1 {b : ByteArray} {p : Nat} (h : bat b p 1) : decode b p = .ok (.aconst_null, 1) := by
  change Except.bind (Except.bind (ClassFile.Reader.u1 (ε := DecodeError) b p) _) _ = _
  rw [u1_run h]
  show (Except.ok (Instr.aconst_null, p + 1 - p) : Except DecodeError (Instr × Nat)) = _
  rw [sb1]
set_option maxRecDepth 100000 in
theorem dk_2 {b : ByteArray} {p : Nat} (h : bat b p 2) : decode b p = .ok (.iconst (-1), 1) := by
  change Except.bind (Except.bind (ClassFile.Reader.u1 (ε := DecodeError) b p) _) _ = _
  rw [u1_run h]
  show (Except.ok (Instr.iconst (-1), p + 1 - p) : Except DecodeError (Instr × Nat)) = _
  rw [sb1]
set_option maxRecDepth 100000 in
theorem dk_3 {b : ByteArray} {p : Nat} (h : bat b p 3) : decode b p = .ok (.iconst 0, 1) := by
  change Except.bind (Except.bind (ClassFile.Reader.u1 (ε := DecodeError) b p) _) _ = _
  rw [u1_run h]
  show (Except.ok (Instr.iconst 0, p + 1 - p) : Except DecodeError (Instr × Nat)) = _
  rw [sb1]
set_option maxRecDepth 100000 in
theorem dk_4 {b : ByteArray} {p : Nat} (h : bat b p 4) : decode b p = .ok (.iconst 1, 1) := by
  change Except.bind (Except.bind (ClassFile.Reader.u1 (ε := DecodeError) b p) _) _ = _
  rw [u1_run h]
  show (Except.ok (Instr.iconst 1, p + 1 - p) : Except DecodeError (Instr × Nat)) = _
  rw [sb1]
set_option maxRecDepth 100000 in
theorem dk_5 {b : ByteArray} {p : Nat} (h : bat b p 5) : decode b p = .ok (.iconst 2, 1) := by
  change Except.bind (Except.bind (ClassFile.Reader.u1 (ε := DecodeError) b p) _) _ = _
  rw [u1_run h]
  show (Except.ok (Instr.iconst 2, p + 1 - p) : Except DecodeError (Instr × Nat)) = _
  rw [sb1]
set_option maxRecDepth 100000 in
theorem dk_6 {b : ByteArray} {p : Nat} (h : bat b p 6) : decode b p = .ok (.iconst 3, 1) := by
  change Except.bind (Except.bind (ClassFile.Reader.u1 (ε := DecodeError) b p) _) _ = _
  rw [u1_run h]
  show (Except.ok (Instr.iconst 3, p + 1 - p) : Except DecodeError (Instr × Nat)) = _
  rw [sb1]
set_option maxRecDepth 100000 in
theorem dk_7 {b : ByteArray} {p : Nat} (h : bat b p 7) : decode b p = .ok (.iconst 4, 1) := by
  change Except.bind (Except.bind (ClassFile.Reader.u1 (ε := DecodeError) b p) _) _ = _
  rw [u1_run h]
  show (Except.ok (Instr.iconst 4, p + 1 - p) : Except DecodeError (Instr × Nat)) = _
  rw [sb1]
set_option maxRecDepth 100000 in
theorem dk_8 {b : ByteArray} {p : Nat} (h : bat b p 8) : decode b p = .ok (.iconst 5, 1) := by
  change Except.bind (Except.bind (ClassFile.Reader.u1 (ε := DecodeError) b p) _) _ = _
  rw [u1_run h]
  show (Except.ok (Instr.iconst 5, p + 1 - p) : Except DecodeError (Instr × Nat)) = _
  rw [sb1]
set_option maxRecDepth 100000 in
theorem dk_9 {b : ByteArray} {p : Nat} (h : bat b p 9) : decode b p = .ok (.lconst 0, 1) := by
  change Except.bind (Except.bind (ClassFile.Reader.u1 (ε := DecodeError) b p) _) _ = _
  rw [u1_run h]
  show (Except.ok (Instr.lconst 0, p + 1 - p) : Except DecodeError (Instr × Nat)) = _
  rw [sb1]
set_option maxRecDepth 100000 in
theorem dk_10 {b : ByteArray} {p : Nat} (h : bat b p 10) : decode b p = .ok (.lconst 1, 1) := by
  change Except.bind (Except.bind (ClassFile.Reader.u1 (ε := DecodeError) b p) _) _ = _
  rw [u1_run h]
  show (Except.ok (Instr.lconst 1, p + 1 - p) : Except DecodeError (Instr × Nat)) = _
  rw [sb1]
set_option maxRecDepth 100000 in
theorem dk_26 {b : ByteArray} {p : Nat} (h : bat b p 26) : decode b p = .ok (.iload_n 0, 1) := by
  change Except.bind (Except.bind (ClassFile.Reader.u1 (ε := DecodeError) b p) _) _ = _
  rw [u1_run h]
  show (Except.ok (Instr.iload_n 0, p + 1 - p) : Except DecodeError (Instr × Nat)) = _
  rw [sb1]
set_option maxRecDepth 100000 in
theorem dk_27 {b : ByteArray} {p : Nat} (h : bat b p 27) : decode b p = .ok (.iload_n 1, 1) := by
  change Except.bind (Except.bind (ClassFile.Reader.u1 (ε := DecodeError) b p) _) _ = _
  rw [u1_run h]
  show (Except.ok (Instr.iload_n 1, p + 1 - p) : Except DecodeError (Instr × Nat)) = _
  rw [sb1]
set_option maxRecDepth 100000 in
theorem dk_28 {b : ByteArray} {p : Nat} (h : bat b p 28) : decode b p = .ok (.iload_n 2, 1) := by
  change Except.bind (Except.bind (ClassFile.Reader.u1 (ε := DecodeError) b p) _) _ = _
  rw [u1_run h]
  show (Except.ok (Instr.iload_n 2, p + 1 - p) : Except DecodeError (Instr × Nat)) = _
  rw [sb1]
set_option maxRecDepth 100000 in
theorem dk_29 {b : ByteArray} {p : Nat} (h : bat b p 29) : decode b p = .ok (.iload_n 3, 1) := by
  change Except.bind (Except.bind (ClassFile.Reader.u1 (ε := DecodeError) b p) _) _ = _
  rw [u1_run h]
  show (Except.ok (Instr.iload_n 3, p + 1 - p) : Except DecodeError (Instr × Nat)) = _
  rw [sb1]
set_option maxRecDepth 100000 in
theorem dk_30 {b : ByteArray} {p : Nat} (h : bat b p 30) : decode b p = .ok (.lload_n 0, 1) := by
  change Except.bind (Except.bind (ClassFile.Reader.u1 (ε := DecodeError) b p) _) _ = _
  rw [u1_run h]
  show (Except.ok (Instr.lload_n 0, p + 1 - p) : Except DecodeError (Instr × Nat)) = _
  rw [sb1]
set_option maxRecDepth 100000 in
theorem dk_31 {b : ByteArray} {p : Nat} (h : bat b p 31) : decode b p = .ok (.lload_n 1, 1) := by
  change Except.bind (Except.bind (ClassFile.Reader.u1 (ε := DecodeError) b p) _) _ = _
  rw [u1_run h]
  show (Except.ok (Instr.lload_n 1, p + 1 - p) : Except DecodeError (Instr × Nat)) = _
  rw [sb1]
set_option maxRecDepth 100000 in
theorem dk_32 {b : ByteArray} {p : Nat} (h : bat b p 32) : decode b p = .ok (.lload_n 2, 1) := by
  change Except.bind (Except.bind (ClassFile.Reader.u1 (ε := DecodeError) b p) _) _ = _
  rw [u1_run h]
  show (Except.ok (Instr.lload_n 2, p + 1 - p) : Except DecodeError (Instr × Nat)) = _
  rw [sb1]
set_option maxRecDepth 100000 in
theorem dk_33 {b : ByteArray} {p : Nat} (h : bat b p 33) : decode b p = .ok (.lload_n 3, 1) := by
  change Except.bind (Except.bind (ClassFile.Reader.u1 (ε := DecodeError) b p) _) _ = _
  rw [u1_run h]
  show (Except.ok (Instr.lload_n 3, p + 1 - p) : Except DecodeError (Instr × Nat)) = _
  rw [sb1]
set_option maxRecDepth 100000 in
theorem dk_42 {b : ByteArray} {p : Nat} (h : bat b p 42) : decode b p = .ok (.aload_n 0, 1) := by
  change Except.bind (Except.bind (ClassFile.Reader.u1 (ε := DecodeError) b p) _) _ = _
  rw [u1_run h]
  show (Except.ok (Instr.aload_n 0, p + 1 - p) : Except DecodeError (Instr × Nat)) = _
  rw [sb1]
set_option maxRecDepth 100000 in
theorem dk_43 {b : ByteArray} {p : Nat} (h : bat b p 43) : decode b p = .ok (.aload_n 1, 1) := by
  change Except.bind (Except.bind (ClassFile.Reader.u1 (ε := DecodeError) b p) _) _ = _
  rw [u1_run h]
  show (Except.ok (Instr.aload_n 1, p + 1 - p) : Except DecodeError (Instr × Nat)) = _
  rw [sb1]
set_option maxRecDepth 100000 in
theorem dk_44 {b : ByteArray} {p : Nat} (h : bat b p 44) : decode b p = .ok (.aload_n 2, 1) := by
  change Except.bind (Except.bind (ClassFile.Reader.u1 (ε := DecodeError) b p) _) _ = _
  rw [u1_run h]
  show (Except.ok (Instr.aload_n 2, p + 1 - p) : Except DecodeError (Instr × Nat)) = _
  rw [sb1]
set_option maxRecDepth 100000 in
theorem dk_45 {b : ByteArray} {p : Nat} (h : bat b p 45) : decode b p = .ok (.aload_n 3, 1) := by
  change Except.bind (Except.bind (ClassFile.Reader.u1 (ε := DecodeError) b p) _) _ = _
  rw [u1_run h]
  show (Except.ok (Instr.aload_n 3, p + 1 - p) : Except DecodeError (Instr × Nat)) = _
  rw [sb1]
set_option maxRecDepth 100000 in
theorem dk_46 {b : ByteArray} {p : Nat} (h : bat b p 46) : decode b p = .ok (.iaload, 1) := by
  change Except.bind (Except.bind (ClassFile.Reader.u1 (ε := DecodeError) b p) _) _ = _
  rw [u1_run h]
  show (Except.ok (Instr.iaload, p + 1 - p) : Except DecodeError (Instr × Nat)) = _
  rw [sb1]
set_option maxRecDepth 100000 in
theorem dk_47 {b : ByteArray} {p : Nat} (h : bat b p 47) : decode b p = .ok (.laload, 1) := by
  change Except.bind (Except.bind (ClassFile.Reader.u1 (ε := DecodeError) b p) _) _ = _
  rw [u1_run h]
  show (Except.ok (Instr.laload, p + 1 - p) : Except DecodeError (Instr × Nat)) = _
  rw [sb1]
set_option maxRecDepth 100000 in
theorem dk_50 {b : ByteArray} {p : Nat} (h : bat b p 50) : decode b p = .ok (.aaload, 1) := by
  change Except.bind (Except.bind (ClassFile.Reader.u1 (ε := DecodeError) b p) _) _ = _
  rw [u1_run h]
  show (Except.ok (Instr.aaload, p + 1 - p) : Except DecodeError (Instr × Nat)) = _
  rw [sb1]
set_option maxRecDepth 100000 in
theorem dk_51 {b : ByteArray} {p : Nat} (h : bat b p 51) : decode b p = .ok (.baload, 1) := by
  change Except.bind (Except.bind (ClassFile.Reader.u1 (ε := DecodeError) b p) _) _ = _
  rw [u1_run h]
  show (Except.ok (Instr.baload, p + 1 - p) : Except DecodeError (Instr × Nat)) = _
  rw [sb1]
set_option maxRecDepth 100000 in
theorem dk_59 {b : ByteArray} {p : Nat} (h : bat b p 59) : decode b p = .ok (.istore_n 0, 1) := by
  change Except.bind (Except.bind (ClassFile.Reader.u1 (ε := DecodeError) b p) _) _ = _
  rw [u1_run h]
  show (Except.ok (Instr.istore_n 0, p + 1 - p) : Except DecodeError (Instr × Nat)) = _
  rw [sb1]
set_option maxRecDepth 100000 in
theorem dk_60 {b : ByteArray} {p : Nat} (h : bat b p 60) : decode b p = .ok (.istore_n 1, 1) := by
  change Except.bind (Except.bind (ClassFile.Reader.u1 (ε := DecodeError) b p) _) _ = _
  rw [u1_run h]
  show (Except.ok (Instr.istore_n 1, p + 1 - p) : Except DecodeError (Instr × Nat)) = _
  rw [sb1]
set_option maxRecDepth 100000 in
theorem dk_61 {b : ByteArray} {p : Nat} (h : bat b p 61) : decode b p = .ok (.istore_n 2, 1) := by
  change Except.bind (Except.bind (ClassFile.Reader.u1 (ε := DecodeError) b p) _) _ = _
  rw [u1_run h]
  show (Except.ok (Instr.istore_n 2, p + 1 - p) : Except DecodeError (Instr × Nat)) = _
  rw [sb1]
set_option maxRecDepth 100000 in
theorem dk_62 {b : ByteArray} {p : Nat} (h : bat b p 62) : decode b p = .ok (.istore_n 3, 1) := by
  change Except.bind (Except.bind (ClassFile.Reader.u1 (ε := DecodeError) b p) _) _ = _
  rw [u1_run h]
  show (Except.ok (Instr.istore_n 3, p + 1 - p) : Except DecodeError (Instr × Nat)) = _
  rw [sb1]
set_option maxRecDepth 100000 in
theorem dk_63 {b : ByteArray} {p : Nat} (h : bat b p 63) : decode b p = .ok (.lstore_n 0, 1) := by
  change Except.bind (Except.bind (ClassFile.Reader.u1 (ε := DecodeError) b p) _) _ = _
  rw [u1_run h]
  show (Except.ok (Instr.lstore_n 0, p + 1 - p) : Except DecodeError (Instr × Nat)) = _
  rw [sb1]
set_option maxRecDepth 100000 in
theorem dk_64 {b : ByteArray} {p : Nat} (h : bat b p 64) : decode b p = .ok (.lstore_n 1, 1) := by
  change Except.bind (Except.bind (ClassFile.Reader.u1 (ε := DecodeError) b p) _) _ = _
  rw [u1_run h]
  show (Except.ok (Instr.lstore_n 1, p + 1 - p) : Except DecodeError (Instr × Nat)) = _
  rw [sb1]
set_option maxRecDepth 100000 in
theorem dk_65 {b : ByteArray} {p : Nat} (h : bat b p 65) : decode b p = .ok (.lstore_n 2, 1) := by
  change Except.bind (Except.bind (ClassFile.Reader.u1 (ε := DecodeError) b p) _) _ = _
  rw [u1_run h]
  show (Except.ok (Instr.lstore_n 2, p + 1 - p) : Except DecodeError (Instr × Nat)) = _
  rw [sb1]
set_option maxRecDepth 100000 in
theorem dk_66 {b : ByteArray} {p : Nat} (h : bat b p 66) : decode b p = .ok (.lstore_n 3, 1) := by
  change Except.bind (Except.bind (ClassFile.Reader.u1 (ε := DecodeError) b p) _) _ = _
  rw [u1_run h]
  show (Except.ok (Instr.lstore_n 3, p + 1 - p) : Except DecodeError (Instr × Nat)) = _
  rw [sb1]
set_option maxRecDepth 100000 in
theorem dk_75 {b : ByteArray} {p : Nat} (h : bat b p 75) : decode b p = .ok (.astore_n 0, 1) := by
  change Except.bind (Except.bind (ClassFile.Reader.u1 (ε := DecodeError) b p) _) _ = _
  rw [u1_run h]
  show (Except.ok (Instr.astore_n 0, p + 1 - p) : Except DecodeError (Instr × Nat)) = _
  rw [sb1]
set_option maxRecDepth 100000 in
theorem dk_76 {b : ByteArray} {p : Nat} (h : bat b p 76) : decode b p = .ok (.astore_n 1, 1) := by
  change Except.bind (Except.bind (ClassFile.Reader.u1 (ε := DecodeError) b p) _) _ = _
  rw [u1_run h]
  show (Except.ok (Instr.astore_n 1, p + 1 - p) : Except DecodeError (Instr × Nat)) = _
  rw [sb1]
set_option maxRecDepth 100000 in
theorem dk_77 {b : ByteArray} {p : Nat} (h : bat b p 77) : decode b p = .ok (.astore_n 2, 1) := by
  change Except.bind (Except.bind (ClassFile.Reader.u1 (ε := DecodeError) b p) _) _ = _
  rw [u1_run h]
  show (Except.ok (Instr.astore_n 2, p + 1 - p) : Except DecodeError (Instr × Nat)) = _
  rw [sb1]
set_option maxRecDepth 100000 in
theorem dk_78 {b : ByteArray} {p : Nat} (h : bat b p 78) : decode b p = .ok (.astore_n 3, 1) := by
  change Except.bind (Except.bind (ClassFile.Reader.u1 (ε := DecodeError) b p) _) _ = _
  rw [u1_run h]
  show (Except.ok (Instr.astore_n 3, p + 1 - p) : Except DecodeError (Instr × Nat)) = _
  rw [sb1]
set_option maxRecDepth 100000 in
theorem dk_79 {b : ByteArray} {p : Nat} (h : bat b p 79) : decode b p = .ok (.iastore, 1) := by
  change Except.bind (Except.bind (ClassFile.Reader.u1 (ε := DecodeError) b p) _) _ = _
  rw [u1_run h]
  show (Except.ok (Instr.iastore, p + 1 - p) : Except DecodeError (Instr × Nat)) = _
  rw [sb1]
set_option maxRecDepth 100000 in
theorem dk_80 {b : ByteArray} {p : Nat} (h : bat b p 80) : decode b p = .ok (.lastore, 1) := by
  change Except.bind (Except.bind (ClassFile.Reader.u1 (ε := DecodeError) b p) _) _ = _
  rw [u1_run h]
  show (Except.ok (Instr.lastore, p + 1 - p) : Except DecodeError (Instr × Nat)) = _
  rw [sb1]
set_option maxRecDepth 100000 in
theorem dk_83 {b : ByteArray} {p : Nat} (h : bat b p 83) : decode b p = .ok (.aastore, 1) := by
  change Except.bind (Except.bind (ClassFile.Reader.u1 (ε := DecodeError) b p) _) _ = _
  rw [u1_run h]
  show (Except.ok (Instr.aastore, p + 1 - p) : Except DecodeError (Instr × Nat)) = _
  rw [sb1]
set_option maxRecDepth 100000 in
theorem dk_84 {b : ByteArray} {p : Nat} (h : bat b p 84) : decode b p = .ok (.bastore, 1) := by
  change Except.bind (Except.bind (ClassFile.Reader.u1 (ε := DecodeError) b p) _) _ = _
  rw [u1_run h]
  show (Except.ok (Instr.bastore, p + 1 - p) : Except DecodeError (Instr × Nat)) = _
  rw [sb1]
set_option maxRecDepth 100000 in
theorem dk_87 {b : ByteArray} {p : Nat} (h : bat b p 87) : decode b p = .ok (.pop, 1) := by
  change Except.bind (Except.bind (ClassFile.Reader.u1 (ε := DecodeError) b p) _) _ = _
  rw [u1_run h]
  show (Except.ok (Instr.pop, p + 1 - p) : Except DecodeError (Instr × Nat)) = _
  rw [sb1]
set_option maxRecDepth 100000 in
theorem dk_89 {b : ByteArray} {p : Nat} (h : bat b p 89) : decode b p = .ok (.dup, 1) := by
  change Except.bind (Except.bind (ClassFile.Reader.u1 (ε := DecodeError) b p) _) _ = _
  rw [u1_run h]
  show (Except.ok (Instr.dup, p + 1 - p) : Except DecodeError (Instr × Nat)) = _
  rw [sb1]
set_option maxRecDepth 100000 in
theorem dk_92 {b : ByteArray} {p : Nat} (h : bat b p 92) : decode b p = .ok (.dup2, 1) := by
  change Except.bind (Except.bind (ClassFile.Reader.u1 (ε := DecodeError) b p) _) _ = _
  rw [u1_run h]
  show (Except.ok (Instr.dup2, p + 1 - p) : Except DecodeError (Instr × Nat)) = _
  rw [sb1]
set_option maxRecDepth 100000 in
theorem dk_96 {b : ByteArray} {p : Nat} (h : bat b p 96) : decode b p = .ok (.iadd, 1) := by
  change Except.bind (Except.bind (ClassFile.Reader.u1 (ε := DecodeError) b p) _) _ = _
  rw [u1_run h]
  show (Except.ok (Instr.iadd, p + 1 - p) : Except DecodeError (Instr × Nat)) = _
  rw [sb1]
set_option maxRecDepth 100000 in
theorem dk_97 {b : ByteArray} {p : Nat} (h : bat b p 97) : decode b p = .ok (.ladd, 1) := by
  change Except.bind (Except.bind (ClassFile.Reader.u1 (ε := DecodeError) b p) _) _ = _
  rw [u1_run h]
  show (Except.ok (Instr.ladd, p + 1 - p) : Except DecodeError (Instr × Nat)) = _
  rw [sb1]
set_option maxRecDepth 100000 in
theorem dk_100 {b : ByteArray} {p : Nat} (h : bat b p 100) : decode b p = .ok (.isub, 1) := by
  change Except.bind (Except.bind (ClassFile.Reader.u1 (ε := DecodeError) b p) _) _ = _
  rw [u1_run h]
  show (Except.ok (Instr.isub, p + 1 - p) : Except DecodeError (Instr × Nat)) = _
  rw [sb1]
set_option maxRecDepth 100000 in
theorem dk_101 {b : ByteArray} {p : Nat} (h : bat b p 101) : decode b p = .ok (.lsub, 1) := by
  change Except.bind (Except.bind (ClassFile.Reader.u1 (ε := DecodeError) b p) _) _ = _
  rw [u1_run h]
  show (Except.ok (Instr.lsub, p + 1 - p) : Except DecodeError (Instr × Nat)) = _
  rw [sb1]
set_option maxRecDepth 100000 in
theorem dk_104 {b : ByteArray} {p : Nat} (h : bat b p 104) : decode b p = .ok (.imul, 1) := by
  change Except.bind (Except.bind (ClassFile.Reader.u1 (ε := DecodeError) b p) _) _ = _
  rw [u1_run h]
  show (Except.ok (Instr.imul, p + 1 - p) : Except DecodeError (Instr × Nat)) = _
  rw [sb1]
set_option maxRecDepth 100000 in
theorem dk_105 {b : ByteArray} {p : Nat} (h : bat b p 105) : decode b p = .ok (.lmul, 1) := by
  change Except.bind (Except.bind (ClassFile.Reader.u1 (ε := DecodeError) b p) _) _ = _
  rw [u1_run h]
  show (Except.ok (Instr.lmul, p + 1 - p) : Except DecodeError (Instr × Nat)) = _
  rw [sb1]
set_option maxRecDepth 100000 in
theorem dk_108 {b : ByteArray} {p : Nat} (h : bat b p 108) : decode b p = .ok (.idiv, 1) := by
  change Except.bind (Except.bind (ClassFile.Reader.u1 (ε := DecodeError) b p) _) _ = _
  rw [u1_run h]
  show (Except.ok (Instr.idiv, p + 1 - p) : Except DecodeError (Instr × Nat)) = _
  rw [sb1]
set_option maxRecDepth 100000 in
theorem dk_109 {b : ByteArray} {p : Nat} (h : bat b p 109) : decode b p = .ok (.ldiv, 1) := by
  change Except.bind (Except.bind (ClassFile.Reader.u1 (ε := DecodeError) b p) _) _ = _
  rw [u1_run h]
  show (Except.ok (Instr.ldiv, p + 1 - p) : Except DecodeError (Instr × Nat)) = _
  rw [sb1]
set_option maxRecDepth 100000 in
theorem dk_112 {b : ByteArray} {p : Nat} (h : bat b p 112) : decode b p = .ok (.irem, 1) := by
  change Except.bind (Except.bind (ClassFile.Reader.u1 (ε := DecodeError) b p) _) _ = _
  rw [u1_run h]
  show (Except.ok (Instr.irem, p + 1 - p) : Except DecodeError (Instr × Nat)) = _
  rw [sb1]
set_option maxRecDepth 100000 in
theorem dk_116 {b : ByteArray} {p : Nat} (h : bat b p 116) : decode b p = .ok (.ineg, 1) := by
  change Except.bind (Except.bind (ClassFile.Reader.u1 (ε := DecodeError) b p) _) _ = _
  rw [u1_run h]
  show (Except.ok (Instr.ineg, p + 1 - p) : Except DecodeError (Instr × Nat)) = _
  rw [sb1]
set_option maxRecDepth 100000 in
theorem dk_117 {b : ByteArray} {p : Nat} (h : bat b p 117) : decode b p = .ok (.lneg, 1) := by
  change Except.bind (Except.bind (ClassFile.Reader.u1 (ε := DecodeError) b p) _) _ = _
  rw [u1_run h]
  show (Except.ok (Instr.lneg, p + 1 - p) : Except DecodeError (Instr × Nat)) = _
  rw [sb1]
set_option maxRecDepth 100000 in
theorem dk_120 {b : ByteArray} {p : Nat} (h : bat b p 120) : decode b p = .ok (.ishl, 1) := by
  change Except.bind (Except.bind (ClassFile.Reader.u1 (ε := DecodeError) b p) _) _ = _
  rw [u1_run h]
  show (Except.ok (Instr.ishl, p + 1 - p) : Except DecodeError (Instr × Nat)) = _
  rw [sb1]
set_option maxRecDepth 100000 in
theorem dk_121 {b : ByteArray} {p : Nat} (h : bat b p 121) : decode b p = .ok (.lshl, 1) := by
  change Except.bind (Except.bind (ClassFile.Reader.u1 (ε := DecodeError) b p) _) _ = _
  rw [u1_run h]
  show (Except.ok (Instr.lshl, p + 1 - p) : Except DecodeError (Instr × Nat)) = _
  rw [sb1]
set_option maxRecDepth 100000 in
theorem dk_122 {b : ByteArray} {p : Nat} (h : bat b p 122) : decode b p = .ok (.ishr, 1) := by
  change Except.bind (Except.bind (ClassFile.Reader.u1 (ε := DecodeError) b p) _) _ = _
  rw [u1_run h]
  show (Except.ok (Instr.ishr, p + 1 - p) : Except DecodeError (Instr × Nat)) = _
  rw [sb1]
set_option maxRecDepth 100000 in
theorem dk_123 {b : ByteArray} {p : Nat} (h : bat b p 123) : decode b p = .ok (.lshr, 1) := by
  change Except.bind (Except.bind (ClassFile.Reader.u1 (ε := DecodeError) b p) _) _ = _
  rw [u1_run h]
  show (Except.ok (Instr.lshr, p + 1 - p) : Except DecodeError (Instr × Nat)) = _
  rw [sb1]
set_option maxRecDepth 100000 in
theorem dk_125 {b : ByteArray} {p : Nat} (h : bat b p 125) : decode b p = .ok (.lushr, 1) := by
  change Except.bind (Except.bind (ClassFile.Reader.u1 (ε := DecodeError) b p) _) _ = _
  rw [u1_run h]
  show (Except.ok (Instr.lushr, p + 1 - p) : Except DecodeError (Instr × Nat)) = _
  rw [sb1]
set_option maxRecDepth 100000 in
theorem dk_126 {b : ByteArray} {p : Nat} (h : bat b p 126) : decode b p = .ok (.iand, 1) := by
  change Except.bind (Except.bind (ClassFile.Reader.u1 (ε := DecodeError) b p) _) _ = _
  rw [u1_run h]
  show (Except.ok (Instr.iand, p + 1 - p) : Except DecodeError (Instr × Nat)) = _
  rw [sb1]
set_option maxRecDepth 100000 in
theorem dk_127 {b : ByteArray} {p : Nat} (h : bat b p 127) : decode b p = .ok (.land, 1) := by
  change Except.bind (Except.bind (ClassFile.Reader.u1 (ε := DecodeError) b p) _) _ = _
  rw [u1_run h]
  show (Except.ok (Instr.land, p + 1 - p) : Except DecodeError (Instr × Nat)) = _
  rw [sb1]
set_option maxRecDepth 100000 in
theorem dk_128 {b : ByteArray} {p : Nat} (h : bat b p 128) : decode b p = .ok (.ior, 1) := by
  change Except.bind (Except.bind (ClassFile.Reader.u1 (ε := DecodeError) b p) _) _ = _
  rw [u1_run h]
  show (Except.ok (Instr.ior, p + 1 - p) : Except DecodeError (Instr × Nat)) = _
  rw [sb1]
set_option maxRecDepth 100000 in
theorem dk_129 {b : ByteArray} {p : Nat} (h : bat b p 129) : decode b p = .ok (.lor, 1) := by
  change Except.bind (Except.bind (ClassFile.Reader.u1 (ε := DecodeError) b p) _) _ = _
  rw [u1_run h]
  show (Except.ok (Instr.lor, p + 1 - p) : Except DecodeError (Instr × Nat)) = _
  rw [sb1]
set_option maxRecDepth 100000 in
theorem dk_131 {b : ByteArray} {p : Nat} (h : bat b p 131) : decode b p = .ok (.lxor, 1) := by
  change Except.bind (Except.bind (ClassFile.Reader.u1 (ε := DecodeError) b p) _) _ = _
  rw [u1_run h]
  show (Except.ok (Instr.lxor, p + 1 - p) : Except DecodeError (Instr × Nat)) = _
  rw [sb1]
set_option maxRecDepth 100000 in
theorem dk_133 {b : ByteArray} {p : Nat} (h : bat b p 133) : decode b p = .ok (.i2l, 1) := by
  change Except.bind (Except.bind (ClassFile.Reader.u1 (ε := DecodeError) b p) _) _ = _
  rw [u1_run h]
  show (Except.ok (Instr.i2l, p + 1 - p) : Except DecodeError (Instr × Nat)) = _
  rw [sb1]
set_option maxRecDepth 100000 in
theorem dk_136 {b : ByteArray} {p : Nat} (h : bat b p 136) : decode b p = .ok (.l2i, 1) := by
  change Except.bind (Except.bind (ClassFile.Reader.u1 (ε := DecodeError) b p) _) _ = _
  rw [u1_run h]
  show (Except.ok (Instr.l2i, p + 1 - p) : Except DecodeError (Instr × Nat)) = _
  rw [sb1]
set_option maxRecDepth 100000 in
theorem dk_145 {b : ByteArray} {p : Nat} (h : bat b p 145) : decode b p = .ok (.i2b, 1) := by
  change Except.bind (Except.bind (ClassFile.Reader.u1 (ε := DecodeError) b p) _) _ = _
  rw [u1_run h]
  show (Except.ok (Instr.i2b, p + 1 - p) : Except DecodeError (Instr × Nat)) = _
  rw [sb1]
set_option maxRecDepth 100000 in
theorem dk_146 {b : ByteArray} {p : Nat} (h : bat b p 146) : decode b p = .ok (.i2c, 1) := by
  change Except.bind (Except.bind (ClassFile.Reader.u1 (ε := DecodeError) b p) _) _ = _
  rw [u1_run h]
  show (Except.ok (Instr.i2c, p + 1 - p) : Except DecodeError (Instr × Nat)) = _
  rw [sb1]
set_option maxRecDepth 100000 in
theorem dk_148 {b : ByteArray} {p : Nat} (h : bat b p 148) : decode b p = .ok (.lcmp, 1) := by
  change Except.bind (Except.bind (ClassFile.Reader.u1 (ε := DecodeError) b p) _) _ = _
  rw [u1_run h]
  show (Except.ok (Instr.lcmp, p + 1 - p) : Except DecodeError (Instr × Nat)) = _
  rw [sb1]
set_option maxRecDepth 100000 in
theorem dk_172 {b : ByteArray} {p : Nat} (h : bat b p 172) : decode b p = .ok (.ireturn, 1) := by
  change Except.bind (Except.bind (ClassFile.Reader.u1 (ε := DecodeError) b p) _) _ = _
  rw [u1_run h]
  show (Except.ok (Instr.ireturn, p + 1 - p) : Except DecodeError (Instr × Nat)) = _
  rw [sb1]
set_option maxRecDepth 100000 in
theorem dk_173 {b : ByteArray} {p : Nat} (h : bat b p 173) : decode b p = .ok (.lreturn, 1) := by
  change Except.bind (Except.bind (ClassFile.Reader.u1 (ε := DecodeError) b p) _) _ = _
  rw [u1_run h]
  show (Except.ok (Instr.lreturn, p + 1 - p) : Except DecodeError (Instr × Nat)) = _
  rw [sb1]
set_option maxRecDepth 100000 in
theorem dk_176 {b : ByteArray} {p : Nat} (h : bat b p 176) : decode b p = .ok (.areturn, 1) := by
  change Except.bind (Except.bind (ClassFile.Reader.u1 (ε := DecodeError) b p) _) _ = _
  rw [u1_run h]
  show (Except.ok (Instr.areturn, p + 1 - p) : Except DecodeError (Instr × Nat)) = _
  rw [sb1]
set_option maxRecDepth 100000 in
theorem dk_177 {b : ByteArray} {p : Nat} (h : bat b p 177) : decode b p = .ok (.return_, 1) := by
  change Except.bind (Except.bind (ClassFile.Reader.u1 (ε := DecodeError) b p) _) _ = _
  rw [u1_run h]
  show (Except.ok (Instr.return_, p + 1 - p) : Except DecodeError (Instr × Nat)) = _
  rw [sb1]
set_option maxRecDepth 100000 in
theorem dk_190 {b : ByteArray} {p : Nat} (h : bat b p 190) : decode b p = .ok (.arraylength, 1) := by
  change Except.bind (Except.bind (ClassFile.Reader.u1 (ε := DecodeError) b p) _) _ = _
  rw [u1_run h]
  show (Except.ok (Instr.arraylength, p + 1 - p) : Except DecodeError (Instr × Nat)) = _
  rw [sb1]
set_option maxRecDepth 100000 in
theorem dk_18 {b : ByteArray} {p n : Nat} (h : bat b p 18) (h1 : bat b (p + 1) n) : decode b p = .ok (.ldc n, 2) := by
  change Except.bind (Except.bind (ClassFile.Reader.u1 (ε := DecodeError) b p) _) _ = _
  rw [u1_run h]
  change Except.bind (Except.bind (ClassFile.Reader.u1 (ε := DecodeError) b (p + 1)) _) _ = _
  rw [u1_run h1]
  show (Except.ok (Instr.ldc n, p + 1 + 1 - p) : Except DecodeError (Instr × Nat)) = _
  rw [sb2]
set_option maxRecDepth 100000 in
theorem dk_21 {b : ByteArray} {p n : Nat} (h : bat b p 21) (h1 : bat b (p + 1) n) : decode b p = .ok (.iload n, 2) := by
  change Except.bind (Except.bind (ClassFile.Reader.u1 (ε := DecodeError) b p) _) _ = _
  rw [u1_run h]
  change Except.bind (Except.bind (ClassFile.Reader.u1 (ε := DecodeError) b (p + 1)) _) _ = _
  rw [u1_run h1]
  show (Except.ok (Instr.iload n, p + 1 + 1 - p) : Except DecodeError (Instr × Nat)) = _
  rw [sb2]
set_option maxRecDepth 100000 in
theorem dk_22 {b : ByteArray} {p n : Nat} (h : bat b p 22) (h1 : bat b (p + 1) n) : decode b p = .ok (.lload n, 2) := by
  change Except.bind (Except.bind (ClassFile.Reader.u1 (ε := DecodeError) b p) _) _ = _
  rw [u1_run h]
  change Except.bind (Except.bind (ClassFile.Reader.u1 (ε := DecodeError) b (p + 1)) _) _ = _
  rw [u1_run h1]
  show (Except.ok (Instr.lload n, p + 1 + 1 - p) : Except DecodeError (Instr × Nat)) = _
  rw [sb2]
set_option maxRecDepth 100000 in
theorem dk_25 {b : ByteArray} {p n : Nat} (h : bat b p 25) (h1 : bat b (p + 1) n) : decode b p = .ok (.aload n, 2) := by
  change Except.bind (Except.bind (ClassFile.Reader.u1 (ε := DecodeError) b p) _) _ = _
  rw [u1_run h]
  change Except.bind (Except.bind (ClassFile.Reader.u1 (ε := DecodeError) b (p + 1)) _) _ = _
  rw [u1_run h1]
  show (Except.ok (Instr.aload n, p + 1 + 1 - p) : Except DecodeError (Instr × Nat)) = _
  rw [sb2]
set_option maxRecDepth 100000 in
theorem dk_54 {b : ByteArray} {p n : Nat} (h : bat b p 54) (h1 : bat b (p + 1) n) : decode b p = .ok (.istore n, 2) := by
  change Except.bind (Except.bind (ClassFile.Reader.u1 (ε := DecodeError) b p) _) _ = _
  rw [u1_run h]
  change Except.bind (Except.bind (ClassFile.Reader.u1 (ε := DecodeError) b (p + 1)) _) _ = _
  rw [u1_run h1]
  show (Except.ok (Instr.istore n, p + 1 + 1 - p) : Except DecodeError (Instr × Nat)) = _
  rw [sb2]
set_option maxRecDepth 100000 in
theorem dk_55 {b : ByteArray} {p n : Nat} (h : bat b p 55) (h1 : bat b (p + 1) n) : decode b p = .ok (.lstore n, 2) := by
  change Except.bind (Except.bind (ClassFile.Reader.u1 (ε := DecodeError) b p) _) _ = _
  rw [u1_run h]
  change Except.bind (Except.bind (ClassFile.Reader.u1 (ε := DecodeError) b (p + 1)) _) _ = _
  rw [u1_run h1]
  show (Except.ok (Instr.lstore n, p + 1 + 1 - p) : Except DecodeError (Instr × Nat)) = _
  rw [sb2]
set_option maxRecDepth 100000 in
theorem dk_58 {b : ByteArray} {p n : Nat} (h : bat b p 58) (h1 : bat b (p + 1) n) : decode b p = .ok (.astore n, 2) := by
  change Except.bind (Except.bind (ClassFile.Reader.u1 (ε := DecodeError) b p) _) _ = _
  rw [u1_run h]
  change Except.bind (Except.bind (ClassFile.Reader.u1 (ε := DecodeError) b (p + 1)) _) _ = _
  rw [u1_run h1]
  show (Except.ok (Instr.astore n, p + 1 + 1 - p) : Except DecodeError (Instr × Nat)) = _
  rw [sb2]
set_option maxRecDepth 100000 in
theorem dk_19 {b : ByteArray} {p x y n : Nat} (h : bat b p 19) (h1 : bat b (p + 1) x) (h2 : bat b (p + 1 + 1) y) (hn : x * 256 + y = n) : decode b p = .ok (.ldc_w n, 3) := by
  subst hn
  change Except.bind (Except.bind (ClassFile.Reader.u1 (ε := DecodeError) b p) _) _ = _
  rw [u1_run h]
  change Except.bind (Except.bind (ClassFile.Reader.u2 (ε := DecodeError) b (p + 1)) _) _ = _
  rw [u2_run h1 h2]
  show (Except.ok (Instr.ldc_w (x * 256 + y), p + 1 + 1 + 1 - p) : Except DecodeError (Instr × Nat)) = _
  rw [sb3]
set_option maxRecDepth 100000 in
theorem dk_20 {b : ByteArray} {p x y n : Nat} (h : bat b p 20) (h1 : bat b (p + 1) x) (h2 : bat b (p + 1 + 1) y) (hn : x * 256 + y = n) : decode b p = .ok (.ldc2_w n, 3) := by
  subst hn
  change Except.bind (Except.bind (ClassFile.Reader.u1 (ε := DecodeError) b p) _) _ = _
  rw [u1_run h]
  change Except.bind (Except.bind (ClassFile.Reader.u2 (ε := DecodeError) b (p + 1)) _) _ = _
  rw [u2_run h1 h2]
  show (Except.ok (Instr.ldc2_w (x * 256 + y), p + 1 + 1 + 1 - p) : Except DecodeError (Instr × Nat)) = _
  rw [sb3]
set_option maxRecDepth 100000 in
theorem dk_178 {b : ByteArray} {p x y n : Nat} (h : bat b p 178) (h1 : bat b (p + 1) x) (h2 : bat b (p + 1 + 1) y) (hn : x * 256 + y = n) : decode b p = .ok (.getstatic n, 3) := by
  subst hn
  change Except.bind (Except.bind (ClassFile.Reader.u1 (ε := DecodeError) b p) _) _ = _
  rw [u1_run h]
  change Except.bind (Except.bind (ClassFile.Reader.u2 (ε := DecodeError) b (p + 1)) _) _ = _
  rw [u2_run h1 h2]
  show (Except.ok (Instr.getstatic (x * 256 + y), p + 1 + 1 + 1 - p) : Except DecodeError (Instr × Nat)) = _
  rw [sb3]
set_option maxRecDepth 100000 in
theorem dk_180 {b : ByteArray} {p x y n : Nat} (h : bat b p 180) (h1 : bat b (p + 1) x) (h2 : bat b (p + 1 + 1) y) (hn : x * 256 + y = n) : decode b p = .ok (.getfield n, 3) := by
  subst hn
  change Except.bind (Except.bind (ClassFile.Reader.u1 (ε := DecodeError) b p) _) _ = _
  rw [u1_run h]
  change Except.bind (Except.bind (ClassFile.Reader.u2 (ε := DecodeError) b (p + 1)) _) _ = _
  rw [u2_run h1 h2]
  show (Except.ok (Instr.getfield (x * 256 + y), p + 1 + 1 + 1 - p) : Except DecodeError (Instr × Nat)) = _
  rw [sb3]
set_option maxRecDepth 100000 in
theorem dk_181 {b : ByteArray} {p x y n : Nat} (h : bat b p 181) (h1 : bat b (p + 1) x) (h2 : bat b (p + 1 + 1) y) (hn : x * 256 + y = n) : decode b p = .ok (.putfield n, 3) := by
  subst hn
  change Except.bind (Except.bind (ClassFile.Reader.u1 (ε := DecodeError) b p) _) _ = _
  rw [u1_run h]
  change Except.bind (Except.bind (ClassFile.Reader.u2 (ε := DecodeError) b (p + 1)) _) _ = _
  rw [u2_run h1 h2]
  show (Except.ok (Instr.putfield (x * 256 + y), p + 1 + 1 + 1 - p) : Except DecodeError (Instr × Nat)) = _
  rw [sb3]
set_option maxRecDepth 100000 in
theorem dk_182 {b : ByteArray} {p x y n : Nat} (h : bat b p 182) (h1 : bat b (p + 1) x) (h2 : bat b (p + 1 + 1) y) (hn : x * 256 + y = n) : decode b p = .ok (.invokevirtual n, 3) := by
  subst hn
  change Except.bind (Except.bind (ClassFile.Reader.u1 (ε := DecodeError) b p) _) _ = _
  rw [u1_run h]
  change Except.bind (Except.bind (ClassFile.Reader.u2 (ε := DecodeError) b (p + 1)) _) _ = _
  rw [u2_run h1 h2]
  show (Except.ok (Instr.invokevirtual (x * 256 + y), p + 1 + 1 + 1 - p) : Except DecodeError (Instr × Nat)) = _
  rw [sb3]
set_option maxRecDepth 100000 in
theorem dk_183 {b : ByteArray} {p x y n : Nat} (h : bat b p 183) (h1 : bat b (p + 1) x) (h2 : bat b (p + 1 + 1) y) (hn : x * 256 + y = n) : decode b p = .ok (.invokespecial n, 3) := by
  subst hn
  change Except.bind (Except.bind (ClassFile.Reader.u1 (ε := DecodeError) b p) _) _ = _
  rw [u1_run h]
  change Except.bind (Except.bind (ClassFile.Reader.u2 (ε := DecodeError) b (p + 1)) _) _ = _
  rw [u2_run h1 h2]
  show (Except.ok (Instr.invokespecial (x * 256 + y), p + 1 + 1 + 1 - p) : Except DecodeError (Instr × Nat)) = _
  rw [sb3]
set_option maxRecDepth 100000 in
theorem dk_184 {b : ByteArray} {p x y n : Nat} (h : bat b p 184) (h1 : bat b (p + 1) x) (h2 : bat b (p + 1 + 1) y) (hn : x * 256 + y = n) : decode b p = .ok (.invokestatic n, 3) := by
  subst hn
  change Except.bind (Except.bind (ClassFile.Reader.u1 (ε := DecodeError) b p) _) _ = _
  rw [u1_run h]
  change Except.bind (Except.bind (ClassFile.Reader.u2 (ε := DecodeError) b (p + 1)) _) _ = _
  rw [u2_run h1 h2]
  show (Except.ok (Instr.invokestatic (x * 256 + y), p + 1 + 1 + 1 - p) : Except DecodeError (Instr × Nat)) = _
  rw [sb3]
set_option maxRecDepth 100000 in
theorem dk_187 {b : ByteArray} {p x y n : Nat} (h : bat b p 187) (h1 : bat b (p + 1) x) (h2 : bat b (p + 1 + 1) y) (hn : x * 256 + y = n) : decode b p = .ok (.new n, 3) := by
  subst hn
  change Except.bind (Except.bind (ClassFile.Reader.u1 (ε := DecodeError) b p) _) _ = _
  rw [u1_run h]
  change Except.bind (Except.bind (ClassFile.Reader.u2 (ε := DecodeError) b (p + 1)) _) _ = _
  rw [u2_run h1 h2]
  show (Except.ok (Instr.new (x * 256 + y), p + 1 + 1 + 1 - p) : Except DecodeError (Instr × Nat)) = _
  rw [sb3]
set_option maxRecDepth 100000 in
theorem dk_189 {b : ByteArray} {p x y n : Nat} (h : bat b p 189) (h1 : bat b (p + 1) x) (h2 : bat b (p + 1 + 1) y) (hn : x * 256 + y = n) : decode b p = .ok (.anewarray n, 3) := by
  subst hn
  change Except.bind (Except.bind (ClassFile.Reader.u1 (ε := DecodeError) b p) _) _ = _
  rw [u1_run h]
  change Except.bind (Except.bind (ClassFile.Reader.u2 (ε := DecodeError) b (p + 1)) _) _ = _
  rw [u2_run h1 h2]
  show (Except.ok (Instr.anewarray (x * 256 + y), p + 1 + 1 + 1 - p) : Except DecodeError (Instr × Nat)) = _
  rw [sb3]
set_option maxRecDepth 100000 in
theorem dk_192 {b : ByteArray} {p x y n : Nat} (h : bat b p 192) (h1 : bat b (p + 1) x) (h2 : bat b (p + 1 + 1) y) (hn : x * 256 + y = n) : decode b p = .ok (.checkcast n, 3) := by
  subst hn
  change Except.bind (Except.bind (ClassFile.Reader.u1 (ε := DecodeError) b p) _) _ = _
  rw [u1_run h]
  change Except.bind (Except.bind (ClassFile.Reader.u2 (ε := DecodeError) b (p + 1)) _) _ = _
  rw [u2_run h1 h2]
  show (Except.ok (Instr.checkcast (x * 256 + y), p + 1 + 1 + 1 - p) : Except DecodeError (Instr × Nat)) = _
  rw [sb3]
set_option maxRecDepth 100000 in
theorem dk_17 {b : ByteArray} {p x y : Nat} {n : Int} (h : bat b p 17) (h1 : bat b (p + 1) x) (h2 : bat b (p + 1 + 1) y) (hn : ClassFile.Reader.signed 16 (x * 256 + y) = n) : decode b p = .ok (.sipush n, 3) := by
  subst hn
  change Except.bind (Except.bind (ClassFile.Reader.u1 (ε := DecodeError) b p) _) _ = _
  rw [u1_run h]
  change Except.bind (Except.bind (ClassFile.Reader.s2 (ε := DecodeError) b (p + 1)) _) _ = _
  rw [s2_run h1 h2]
  show (Except.ok (Instr.sipush (ClassFile.Reader.signed 16 (x * 256 + y)), p + 1 + 1 + 1 - p) : Except DecodeError (Instr × Nat)) = _
  rw [sb3]
set_option maxRecDepth 100000 in
theorem dk_153 {b : ByteArray} {p x y : Nat} {n : Int} (h : bat b p 153) (h1 : bat b (p + 1) x) (h2 : bat b (p + 1 + 1) y) (hn : ClassFile.Reader.signed 16 (x * 256 + y) = n) : decode b p = .ok (.ifCond .eq n, 3) := by
  subst hn
  change Except.bind (Except.bind (ClassFile.Reader.u1 (ε := DecodeError) b p) _) _ = _
  rw [u1_run h]
  change Except.bind (Except.bind (ClassFile.Reader.s2 (ε := DecodeError) b (p + 1)) _) _ = _
  rw [s2_run h1 h2]
  show (Except.ok (Instr.ifCond .eq (ClassFile.Reader.signed 16 (x * 256 + y)), p + 1 + 1 + 1 - p) : Except DecodeError (Instr × Nat)) = _
  rw [sb3]
set_option maxRecDepth 100000 in
theorem dk_154 {b : ByteArray} {p x y : Nat} {n : Int} (h : bat b p 154) (h1 : bat b (p + 1) x) (h2 : bat b (p + 1 + 1) y) (hn : ClassFile.Reader.signed 16 (x * 256 + y) = n) : decode b p = .ok (.ifCond .ne n, 3) := by
  subst hn
  change Except.bind (Except.bind (ClassFile.Reader.u1 (ε := DecodeError) b p) _) _ = _
  rw [u1_run h]
  change Except.bind (Except.bind (ClassFile.Reader.s2 (ε := DecodeError) b (p + 1)) _) _ = _
  rw [s2_run h1 h2]
  show (Except.ok (Instr.ifCond .ne (ClassFile.Reader.signed 16 (x * 256 + y)), p + 1 + 1 + 1 - p) : Except DecodeError (Instr × Nat)) = _
  rw [sb3]
set_option maxRecDepth 100000 in
theorem dk_155 {b : ByteArray} {p x y : Nat} {n : Int} (h : bat b p 155) (h1 : bat b (p + 1) x) (h2 : bat b (p + 1 + 1) y) (hn : ClassFile.Reader.signed 16 (x * 256 + y) = n) : decode b p = .ok (.ifCond .lt n, 3) := by
  subst hn
  change Except.bind (Except.bind (ClassFile.Reader.u1 (ε := DecodeError) b p) _) _ = _
  rw [u1_run h]
  change Except.bind (Except.bind (ClassFile.Reader.s2 (ε := DecodeError) b (p + 1)) _) _ = _
  rw [s2_run h1 h2]
  show (Except.ok (Instr.ifCond .lt (ClassFile.Reader.signed 16 (x * 256 + y)), p + 1 + 1 + 1 - p) : Except DecodeError (Instr × Nat)) = _
  rw [sb3]
set_option maxRecDepth 100000 in
theorem dk_156 {b : ByteArray} {p x y : Nat} {n : Int} (h : bat b p 156) (h1 : bat b (p + 1) x) (h2 : bat b (p + 1 + 1) y) (hn : ClassFile.Reader.signed 16 (x * 256 + y) = n) : decode b p = .ok (.ifCond .ge n, 3) := by
  subst hn
  change Except.bind (Except.bind (ClassFile.Reader.u1 (ε := DecodeError) b p) _) _ = _
  rw [u1_run h]
  change Except.bind (Except.bind (ClassFile.Reader.s2 (ε := DecodeError) b (p + 1)) _) _ = _
  rw [s2_run h1 h2]
  show (Except.ok (Instr.ifCond .ge (ClassFile.Reader.signed 16 (x * 256 + y)), p + 1 + 1 + 1 - p) : Except DecodeError (Instr × Nat)) = _
  rw [sb3]
set_option maxRecDepth 100000 in
theorem dk_157 {b : ByteArray} {p x y : Nat} {n : Int} (h : bat b p 157) (h1 : bat b (p + 1) x) (h2 : bat b (p + 1 + 1) y) (hn : ClassFile.Reader.signed 16 (x * 256 + y) = n) : decode b p = .ok (.ifCond .gt n, 3) := by
  subst hn
  change Except.bind (Except.bind (ClassFile.Reader.u1 (ε := DecodeError) b p) _) _ = _
  rw [u1_run h]
  change Except.bind (Except.bind (ClassFile.Reader.s2 (ε := DecodeError) b (p + 1)) _) _ = _
  rw [s2_run h1 h2]
  show (Except.ok (Instr.ifCond .gt (ClassFile.Reader.signed 16 (x * 256 + y)), p + 1 + 1 + 1 - p) : Except DecodeError (Instr × Nat)) = _
  rw [sb3]
set_option maxRecDepth 100000 in
theorem dk_158 {b : ByteArray} {p x y : Nat} {n : Int} (h : bat b p 158) (h1 : bat b (p + 1) x) (h2 : bat b (p + 1 + 1) y) (hn : ClassFile.Reader.signed 16 (x * 256 + y) = n) : decode b p = .ok (.ifCond .le n, 3) := by
  subst hn
  change Except.bind (Except.bind (ClassFile.Reader.u1 (ε := DecodeError) b p) _) _ = _
  rw [u1_run h]
  change Except.bind (Except.bind (ClassFile.Reader.s2 (ε := DecodeError) b (p + 1)) _) _ = _
  rw [s2_run h1 h2]
  show (Except.ok (Instr.ifCond .le (ClassFile.Reader.signed 16 (x * 256 + y)), p + 1 + 1 + 1 - p) : Except DecodeError (Instr × Nat)) = _
  rw [sb3]
set_option maxRecDepth 100000 in
theorem dk_159 {b : ByteArray} {p x y : Nat} {n : Int} (h : bat b p 159) (h1 : bat b (p + 1) x) (h2 : bat b (p + 1 + 1) y) (hn : ClassFile.Reader.signed 16 (x * 256 + y) = n) : decode b p = .ok (.if_icmp .eq n, 3) := by
  subst hn
  change Except.bind (Except.bind (ClassFile.Reader.u1 (ε := DecodeError) b p) _) _ = _
  rw [u1_run h]
  change Except.bind (Except.bind (ClassFile.Reader.s2 (ε := DecodeError) b (p + 1)) _) _ = _
  rw [s2_run h1 h2]
  show (Except.ok (Instr.if_icmp .eq (ClassFile.Reader.signed 16 (x * 256 + y)), p + 1 + 1 + 1 - p) : Except DecodeError (Instr × Nat)) = _
  rw [sb3]
set_option maxRecDepth 100000 in
theorem dk_160 {b : ByteArray} {p x y : Nat} {n : Int} (h : bat b p 160) (h1 : bat b (p + 1) x) (h2 : bat b (p + 1 + 1) y) (hn : ClassFile.Reader.signed 16 (x * 256 + y) = n) : decode b p = .ok (.if_icmp .ne n, 3) := by
  subst hn
  change Except.bind (Except.bind (ClassFile.Reader.u1 (ε := DecodeError) b p) _) _ = _
  rw [u1_run h]
  change Except.bind (Except.bind (ClassFile.Reader.s2 (ε := DecodeError) b (p + 1)) _) _ = _
  rw [s2_run h1 h2]
  show (Except.ok (Instr.if_icmp .ne (ClassFile.Reader.signed 16 (x * 256 + y)), p + 1 + 1 + 1 - p) : Except DecodeError (Instr × Nat)) = _
  rw [sb3]
set_option maxRecDepth 100000 in
theorem dk_161 {b : ByteArray} {p x y : Nat} {n : Int} (h : bat b p 161) (h1 : bat b (p + 1) x) (h2 : bat b (p + 1 + 1) y) (hn : ClassFile.Reader.signed 16 (x * 256 + y) = n) : decode b p = .ok (.if_icmp .lt n, 3) := by
  subst hn
  change Except.bind (Except.bind (ClassFile.Reader.u1 (ε := DecodeError) b p) _) _ = _
  rw [u1_run h]
  change Except.bind (Except.bind (ClassFile.Reader.s2 (ε := DecodeError) b (p + 1)) _) _ = _
  rw [s2_run h1 h2]
  show (Except.ok (Instr.if_icmp .lt (ClassFile.Reader.signed 16 (x * 256 + y)), p + 1 + 1 + 1 - p) : Except DecodeError (Instr × Nat)) = _
  rw [sb3]
set_option maxRecDepth 100000 in
theorem dk_162 {b : ByteArray} {p x y : Nat} {n : Int} (h : bat b p 162) (h1 : bat b (p + 1) x) (h2 : bat b (p + 1 + 1) y) (hn : ClassFile.Reader.signed 16 (x * 256 + y) = n) : decode b p = .ok (.if_icmp .ge n, 3) := by
  subst hn
  change Except.bind (Except.bind (ClassFile.Reader.u1 (ε := DecodeError) b p) _) _ = _
  rw [u1_run h]
  change Except.bind (Except.bind (ClassFile.Reader.s2 (ε := DecodeError) b (p + 1)) _) _ = _
  rw [s2_run h1 h2]
  show (Except.ok (Instr.if_icmp .ge (ClassFile.Reader.signed 16 (x * 256 + y)), p + 1 + 1 + 1 - p) : Except DecodeError (Instr × Nat)) = _
  rw [sb3]
set_option maxRecDepth 100000 in
theorem dk_163 {b : ByteArray} {p x y : Nat} {n : Int} (h : bat b p 163) (h1 : bat b (p + 1) x) (h2 : bat b (p + 1 + 1) y) (hn : ClassFile.Reader.signed 16 (x * 256 + y) = n) : decode b p = .ok (.if_icmp .gt n, 3) := by
  subst hn
  change Except.bind (Except.bind (ClassFile.Reader.u1 (ε := DecodeError) b p) _) _ = _
  rw [u1_run h]
  change Except.bind (Except.bind (ClassFile.Reader.s2 (ε := DecodeError) b (p + 1)) _) _ = _
  rw [s2_run h1 h2]
  show (Except.ok (Instr.if_icmp .gt (ClassFile.Reader.signed 16 (x * 256 + y)), p + 1 + 1 + 1 - p) : Except DecodeError (Instr × Nat)) = _
  rw [sb3]
set_option maxRecDepth 100000 in
theorem dk_164 {b : ByteArray} {p x y : Nat} {n : Int} (h : bat b p 164) (h1 : bat b (p + 1) x) (h2 : bat b (p + 1 + 1) y) (hn : ClassFile.Reader.signed 16 (x * 256 + y) = n) : decode b p = .ok (.if_icmp .le n, 3) := by
  subst hn
  change Except.bind (Except.bind (ClassFile.Reader.u1 (ε := DecodeError) b p) _) _ = _
  rw [u1_run h]
  change Except.bind (Except.bind (ClassFile.Reader.s2 (ε := DecodeError) b (p + 1)) _) _ = _
  rw [s2_run h1 h2]
  show (Except.ok (Instr.if_icmp .le (ClassFile.Reader.signed 16 (x * 256 + y)), p + 1 + 1 + 1 - p) : Except DecodeError (Instr × Nat)) = _
  rw [sb3]
set_option maxRecDepth 100000 in
theorem dk_167 {b : ByteArray} {p x y : Nat} {n : Int} (h : bat b p 167) (h1 : bat b (p + 1) x) (h2 : bat b (p + 1 + 1) y) (hn : ClassFile.Reader.signed 16 (x * 256 + y) = n) : decode b p = .ok (.goto n, 3) := by
  subst hn
  change Except.bind (Except.bind (ClassFile.Reader.u1 (ε := DecodeError) b p) _) _ = _
  rw [u1_run h]
  change Except.bind (Except.bind (ClassFile.Reader.s2 (ε := DecodeError) b (p + 1)) _) _ = _
  rw [s2_run h1 h2]
  show (Except.ok (Instr.goto (ClassFile.Reader.signed 16 (x * 256 + y)), p + 1 + 1 + 1 - p) : Except DecodeError (Instr × Nat)) = _
  rw [sb3]
set_option maxRecDepth 100000 in
theorem dk_198 {b : ByteArray} {p x y : Nat} {n : Int} (h : bat b p 198) (h1 : bat b (p + 1) x) (h2 : bat b (p + 1 + 1) y) (hn : ClassFile.Reader.signed 16 (x * 256 + y) = n) : decode b p = .ok (.ifnull n, 3) := by
  subst hn
  change Except.bind (Except.bind (ClassFile.Reader.u1 (ε := DecodeError) b p) _) _ = _
  rw [u1_run h]
  change Except.bind (Except.bind (ClassFile.Reader.s2 (ε := DecodeError) b (p + 1)) _) _ = _
  rw [s2_run h1 h2]
  show (Except.ok (Instr.ifnull (ClassFile.Reader.signed 16 (x * 256 + y)), p + 1 + 1 + 1 - p) : Except DecodeError (Instr × Nat)) = _
  rw [sb3]
set_option maxRecDepth 100000 in
theorem dk_199 {b : ByteArray} {p x y : Nat} {n : Int} (h : bat b p 199) (h1 : bat b (p + 1) x) (h2 : bat b (p + 1 + 1) y) (hn : ClassFile.Reader.signed 16 (x * 256 + y) = n) : decode b p = .ok (.ifnonnull n, 3) := by
  subst hn
  change Except.bind (Except.bind (ClassFile.Reader.u1 (ε := DecodeError) b p) _) _ = _
  rw [u1_run h]
  change Except.bind (Except.bind (ClassFile.Reader.s2 (ε := DecodeError) b (p + 1)) _) _ = _
  rw [s2_run h1 h2]
  show (Except.ok (Instr.ifnonnull (ClassFile.Reader.signed 16 (x * 256 + y)), p + 1 + 1 + 1 - p) : Except DecodeError (Instr × Nat)) = _
  rw [sb3]
set_option maxRecDepth 100000 in
theorem dk_16 {b : ByteArray} {p x : Nat} {n : Int} (h : bat b p 16) (h1 : bat b (p + 1) x) (hn : ClassFile.Reader.signed 8 x = n) : decode b p = .ok (.bipush n, 2) := by
  subst hn
  change Except.bind (Except.bind (ClassFile.Reader.u1 (ε := DecodeError) b p) _) _ = _
  rw [u1_run h]
  change Except.bind (Except.bind (ClassFile.Reader.s1 (ε := DecodeError) b (p + 1)) _) _ = _
  rw [s1_run h1]
  show (Except.ok (Instr.bipush (ClassFile.Reader.signed 8 x), p + 1 + 1 - p) : Except DecodeError (Instr × Nat)) = _
  rw [sb2]
set_option maxRecDepth 100000 in
theorem dk_132 {b : ByteArray} {p x y : Nat} {n : Int} (h : bat b p 132) (h1 : bat b (p + 1) x) (h2 : bat b (p + 1 + 1) y) (hn : ClassFile.Reader.signed 8 y = n) : decode b p = .ok (.iinc x n, 3) := by
  subst hn
  change Except.bind (Except.bind (ClassFile.Reader.u1 (ε := DecodeError) b p) _) _ = _
  rw [u1_run h]
  change Except.bind (Except.bind (ClassFile.Reader.u1 (ε := DecodeError) b (p + 1)) _) _ = _
  rw [u1_run h1]
  change Except.bind (Except.bind (ClassFile.Reader.s1 (ε := DecodeError) b (p + 1 + 1)) _) _ = _
  rw [s1_run h2]
  show (Except.ok (Instr.iinc x (ClassFile.Reader.signed 8 y), p + 1 + 1 + 1 - p) : Except DecodeError (Instr × Nat)) = _
  rw [sb3]
set_option maxRecDepth 100000 in
theorem dk_188_4 {b : ByteArray} {p : Nat} (h : bat b p 188) (h1 : bat b (p + 1) 4) : decode b p = .ok (.newarray .boolean, 2) := by
  change Except.bind (Except.bind (ClassFile.Reader.u1 (ε := DecodeError) b p) _) _ = _
  rw [u1_run h]
  change Except.bind (Except.bind (ClassFile.Reader.u1 (ε := DecodeError) b (p + 1)) _) _ = _
  rw [u1_run h1]
  show (Except.ok (Instr.newarray .boolean, p + 1 + 1 - p) : Except DecodeError (Instr × Nat)) = _
  rw [sb2]
set_option maxRecDepth 100000 in
theorem dk_188_8 {b : ByteArray} {p : Nat} (h : bat b p 188) (h1 : bat b (p + 1) 8) : decode b p = .ok (.newarray .byte, 2) := by
  change Except.bind (Except.bind (ClassFile.Reader.u1 (ε := DecodeError) b p) _) _ = _
  rw [u1_run h]
  change Except.bind (Except.bind (ClassFile.Reader.u1 (ε := DecodeError) b (p + 1)) _) _ = _
  rw [u1_run h1]
  show (Except.ok (Instr.newarray .byte, p + 1 + 1 - p) : Except DecodeError (Instr × Nat)) = _
  rw [sb2]
set_option maxRecDepth 100000 in
theorem dk_188_10 {b : ByteArray} {p : Nat} (h : bat b p 188) (h1 : bat b (p + 1) 10) : decode b p = .ok (.newarray .int, 2) := by
  change Except.bind (Except.bind (ClassFile.Reader.u1 (ε := DecodeError) b p) _) _ = _
  rw [u1_run h]
  change Except.bind (Except.bind (ClassFile.Reader.u1 (ε := DecodeError) b (p + 1)) _) _ = _
  rw [u1_run h1]
  show (Except.ok (Instr.newarray .int, p + 1 + 1 - p) : Except DecodeError (Instr × Nat)) = _
  rw [sb2]
set_option maxRecDepth 100000 in
theorem dk_188_11 {b : ByteArray} {p : Nat} (h : bat b p 188) (h1 : bat b (p + 1) 11) : decode b p = .ok (.newarray .long, 2) := by
  change Except.bind (Except.bind (ClassFile.Reader.u1 (ε := DecodeError) b p) _) _ = _
  rw [u1_run h]
  change Except.bind (Except.bind (ClassFile.Reader.u1 (ε := DecodeError) b (p + 1)) _) _ = _
  rw [u1_run h1]
  show (Except.ok (Instr.newarray .long, p + 1 + 1 - p) : Except DecodeError (Instr × Nat)) = _
  rw [sb2]
