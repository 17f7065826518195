theorem store1_map (G : Gx) (lv : List (Nat × Value)) (i : Nat) (v : Value) : ((i, v) :: lv.filter (fun q => !(q.1 == i) && !(q.1 + 1 == i && q.2.category == 2))).map (fun q => (q.1, rho G q.2)) = (i, rho G v) :: (lv.map (fun q => (q.1, rho G q.2))).filter (fun q => !(q.1 == i) && !(q.1 + 1 == i && q.2.category == 2)) := by
  rw [List.map_cons, List.filter_map]
  congr 2
  apply List.filter_congr
  intro q _
  simp only [Function.comp, rho_cat]
theorem store2_map (G : Gx) (lv : List (Nat × Value)) (i : Nat) (v : Value) : ((i, v) :: lv.filter (fun q => !(q.1 == i) && (!(q.1 == i + 1) && !(q.1 + 1 == i && q.2.category == 2)))).map (fun q => (q.1, rho G q.2)) = (i, rho G v) :: (lv.map (fun q => (q.1, rho G q.2))).filter (fun q => !(q.1 == i) && (!(q.1 == i + 1) && !(q.1 + 1 == i && q.2.category == 2))) := by
  rw [List.map_cons, List.filter_map]
  congr 2
  apply List.filter_congr
  intro q _
  simp only [Function.comp, rho_cat]
section EJ2
variable {G : Gx} {Y : Ym} {ρ : Type} {cv : ρ → Option Value} {d pc : Nat} {lv : List (Nat × Value)} {st : List Value} {M : Mm} {o o1 o2 : Option (ρ × Mm)}
theorem EJ_iconst (pc2 : Nat) {n : Int} {v : Int32} (dd : decode Y.2.1 pc = .ok (.iconst n, 1)) (hp : pc + 1 = pc2) (hv : Int32.ofInt n = v) (k : EJ G Y cv d pc2 lv (.int v :: st) M o) : EJ G Y cv d pc lv st M o := by
  subst hp
  exact EJ_step (fun p e s m args below meth c R H locs cells slots ls Q hA hR hS hl w => lv_iconst hA.1 hA.2.1 dd hv w) k
theorem EJ_bipush (pc2 : Nat) {n : Int} {v : Int32} (dd : decode Y.2.1 pc = .ok (.bipush n, 2)) (hp : pc + 2 = pc2) (hv : (Int8.ofInt n).toInt32 = v) (k : EJ G Y cv d pc2 lv (.int v :: st) M o) : EJ G Y cv d pc lv st M o := by
  subst hp
  exact EJ_step (fun p e s m args below meth c R H locs cells slots ls Q hA hR hS hl w => lv_bipush hA.1 hA.2.1 dd hv w) k
theorem EJ_sipush (pc2 : Nat) {n : Int} {v : Int32} (dd : decode Y.2.1 pc = .ok (.sipush n, 3)) (hp : pc + 3 = pc2) (hv : (Int16.ofInt n).toInt32 = v) (k : EJ G Y cv d pc2 lv (.int v :: st) M o) : EJ G Y cv d pc lv st M o := by
  subst hp
  exact EJ_step (fun p e s m args below meth c R H locs cells slots ls Q hA hR hS hl w => lv_sipush hA.1 hA.2.1 dd hv w) k
theorem EJ_lconst (pc2 : Nat) {n : Fin 2} {v : Int64} (dd : decode Y.2.1 pc = .ok (.lconst n, 1)) (hp : pc + 1 = pc2) (hv : Int64.ofNat (n : Nat) = v) (k : EJ G Y cv d pc2 lv (.long v :: st) M o) : EJ G Y cv d pc lv st M o := by
  subst hp
  exact EJ_step (fun p e s m args below meth c R H locs cells slots ls Q hA hR hS hl w => lv_lconst hA.1 hA.2.1 dd hv w) k
theorem EJ_ldc (pc2 : Nat) {i : Nat} {v : Int32} (dd : decode Y.2.1 pc = .ok (.ldc i, 2)) (hp : pc + 2 = pc2) (hw : Cond.constant Y.1.cls i v ∈ gd_tbl) (k : EJ G Y cv d pc2 lv (.int v :: st) M o) : EJ G Y cv d pc lv st M o := by
  subst hp
  exact EJ_step (fun p e s m args below meth c R H locs cells slots ls Q hA hR hS hl w => lv_ldc hA.1 hA.2.1 hA.2.2.2.1 (hA.2.2.2.2.1 _ hw) dd w) k
theorem EJ_ldcw (pc2 : Nat) {i : Nat} {v : Int32} (dd : decode Y.2.1 pc = .ok (.ldc_w i, 3)) (hp : pc + 3 = pc2) (hw : Cond.constant Y.1.cls i v ∈ gd_tbl) (k : EJ G Y cv d pc2 lv (.int v :: st) M o) : EJ G Y cv d pc lv st M o := by
  subst hp
  exact EJ_step (fun p e s m args below meth c R H locs cells slots ls Q hA hR hS hl w => lv_ldcw hA.1 hA.2.1 hA.2.2.2.1 (hA.2.2.2.2.1 _ hw) dd w) k
theorem EJ_ldc2 (pc2 : Nat) {i : Nat} {v : Int64} (dd : decode Y.2.1 pc = .ok (.ldc2_w i, 3)) (hp : pc + 3 = pc2) (hw : Cond.constantLong Y.1.cls i v ∈ gd_tbl) (k : EJ G Y cv d pc2 lv (.long v :: st) M o) : EJ G Y cv d pc lv st M o := by
  subst hp
  exact EJ_step (fun p e s m args below meth c R H locs cells slots ls Q hA hR hS hl w => lv_ldc2 hA.1 hA.2.1 hA.2.2.2.1 (hA.2.2.2.2.1 _ hw) dd w) k
theorem lvm {ls : Array Slot} {n : Nat} {lv : List (Nat × Value)} {G : Gx} (h : lv_has ls n (lv.map (fun q => (q.1, rho G q.2)))) {q i : Nat} {v : Value} (hq : lv[q]? = some (i, v)) : ls[i]? = some (.val (rho G v)) := h.2.2 (i, rho G v) (List.mem_map.mpr ⟨(i, v), List.mem_of_getElem? hq, rfl⟩)
theorem EJ_iload_n (pc2 q : Nat) {n : Fin 4} {x : Int32} (dd : decode Y.2.1 pc = .ok (.iload_n n, 1)) (hp : pc + 1 = pc2) (hq : lv[q]? = some ((n : Nat), .int x)) (k : EJ G Y cv d pc2 lv (.int x :: st) M o) : EJ G Y cv d pc lv st M o := by
  subst hp
  exact EJ_step (fun p e s m args below meth c R H locs cells slots ls Q hA hR hS hl w => lv_iload_n hA.1 hA.2.1 dd rfl (lvm hl hq) w) k
theorem EJ_iload (pc2 q : Nat) {i : Nat} {x : Int32} (dd : decode Y.2.1 pc = .ok (.iload i, 2)) (hp : pc + 2 = pc2) (hq : lv[q]? = some (i, .int x)) (k : EJ G Y cv d pc2 lv (.int x :: st) M o) : EJ G Y cv d pc lv st M o := by
  subst hp
  exact EJ_step (fun p e s m args below meth c R H locs cells slots ls Q hA hR hS hl w => lv_iload hA.1 hA.2.1 dd (lvm hl hq) w) k
theorem EJ_lload_n (pc2 q : Nat) {n : Fin 4} {x : Int64} (dd : decode Y.2.1 pc = .ok (.lload_n n, 1)) (hp : pc + 1 = pc2) (hq : lv[q]? = some ((n : Nat), .long x)) (k : EJ G Y cv d pc2 lv (.long x :: st) M o) : EJ G Y cv d pc lv st M o := by
  subst hp
  exact EJ_step (fun p e s m args below meth c R H locs cells slots ls Q hA hR hS hl w => lv_lload_n hA.1 hA.2.1 dd rfl (lvm hl hq) w) k
theorem EJ_lload (pc2 q : Nat) {i : Nat} {x : Int64} (dd : decode Y.2.1 pc = .ok (.lload i, 2)) (hp : pc + 2 = pc2) (hq : lv[q]? = some (i, .long x)) (k : EJ G Y cv d pc2 lv (.long x :: st) M o) : EJ G Y cv d pc lv st M o := by
  subst hp
  exact EJ_step (fun p e s m args below meth c R H locs cells slots ls Q hA hR hS hl w => lv_lload hA.1 hA.2.1 dd (lvm hl hq) w) k
theorem EJ_aload_n (pc2 q : Nat) {n : Fin 4} {x : Nat} (dd : decode Y.2.1 pc = .ok (.aload_n n, 1)) (hp : pc + 1 = pc2) (hq : lv[q]? = some ((n : Nat), .ref x)) (k : EJ G Y cv d pc2 lv (.ref x :: st) M o) : EJ G Y cv d pc lv st M o := by
  subst hp
  exact EJ_step (fun p e s m args below meth c R H locs cells slots ls Q hA hR hS hl w => lv_aload_n hA.1 hA.2.1 dd rfl (lvm hl hq) w) k
theorem EJ_aload (pc2 q : Nat) {i : Nat} {x : Nat} (dd : decode Y.2.1 pc = .ok (.aload i, 2)) (hp : pc + 2 = pc2) (hq : lv[q]? = some (i, .ref x)) (k : EJ G Y cv d pc2 lv (.ref x :: st) M o) : EJ G Y cv d pc lv st M o := by
  subst hp
  exact EJ_step (fun p e s m args below meth c R H locs cells slots ls Q hA hR hS hl w => lv_aload hA.1 hA.2.1 dd (lvm hl hq) w) k
theorem EJ_iadd (pc2 : Nat) {x y : Int32} (dd : decode Y.2.1 pc = .ok (.iadd, 1)) (hp : pc + 1 = pc2)  (k : EJ G Y cv d pc2 lv (.int (x + y) :: st) M o) : EJ G Y cv d pc lv (.int y :: .int x :: st) M o := by
  subst hp
  exact EJ_step (fun p e s m args below meth c R H locs cells slots ls Q hA hR hS hl w => lv_iadd hA.1 hA.2.1 dd w) k
theorem EJ_isub (pc2 : Nat) {x y : Int32} (dd : decode Y.2.1 pc = .ok (.isub, 1)) (hp : pc + 1 = pc2)  (k : EJ G Y cv d pc2 lv (.int (x - y) :: st) M o) : EJ G Y cv d pc lv (.int y :: .int x :: st) M o := by
  subst hp
  exact EJ_step (fun p e s m args below meth c R H locs cells slots ls Q hA hR hS hl w => lv_isub hA.1 hA.2.1 dd w) k
theorem EJ_imul (pc2 : Nat) {x y : Int32} (dd : decode Y.2.1 pc = .ok (.imul, 1)) (hp : pc + 1 = pc2)  (k : EJ G Y cv d pc2 lv (.int (x * y) :: st) M o) : EJ G Y cv d pc lv (.int y :: .int x :: st) M o := by
  subst hp
  exact EJ_step (fun p e s m args below meth c R H locs cells slots ls Q hA hR hS hl w => lv_imul hA.1 hA.2.1 dd w) k
theorem EJ_iand (pc2 : Nat) {x y : Int32} (dd : decode Y.2.1 pc = .ok (.iand, 1)) (hp : pc + 1 = pc2)  (k : EJ G Y cv d pc2 lv (.int (x &&& y) :: st) M o) : EJ G Y cv d pc lv (.int y :: .int x :: st) M o := by
  subst hp
  exact EJ_step (fun p e s m args below meth c R H locs cells slots ls Q hA hR hS hl w => lv_iand hA.1 hA.2.1 dd w) k
theorem EJ_ior (pc2 : Nat) {x y : Int32} (dd : decode Y.2.1 pc = .ok (.ior, 1)) (hp : pc + 1 = pc2)  (k : EJ G Y cv d pc2 lv (.int (x ||| y) :: st) M o) : EJ G Y cv d pc lv (.int y :: .int x :: st) M o := by
  subst hp
  exact EJ_step (fun p e s m args below meth c R H locs cells slots ls Q hA hR hS hl w => lv_ior hA.1 hA.2.1 dd w) k
theorem EJ_ladd (pc2 : Nat) {x y : Int64} (dd : decode Y.2.1 pc = .ok (.ladd, 1)) (hp : pc + 1 = pc2)  (k : EJ G Y cv d pc2 lv (.long (x + y) :: st) M o) : EJ G Y cv d pc lv (.long y :: .long x :: st) M o := by
  subst hp
  exact EJ_step (fun p e s m args below meth c R H locs cells slots ls Q hA hR hS hl w => lv_ladd hA.1 hA.2.1 dd w) k
theorem EJ_lsub (pc2 : Nat) {x y : Int64} (dd : decode Y.2.1 pc = .ok (.lsub, 1)) (hp : pc + 1 = pc2)  (k : EJ G Y cv d pc2 lv (.long (x - y) :: st) M o) : EJ G Y cv d pc lv (.long y :: .long x :: st) M o := by
  subst hp
  exact EJ_step (fun p e s m args below meth c R H locs cells slots ls Q hA hR hS hl w => lv_lsub hA.1 hA.2.1 dd w) k
theorem EJ_lmul (pc2 : Nat) {x y : Int64} (dd : decode Y.2.1 pc = .ok (.lmul, 1)) (hp : pc + 1 = pc2)  (k : EJ G Y cv d pc2 lv (.long (x * y) :: st) M o) : EJ G Y cv d pc lv (.long y :: .long x :: st) M o := by
  subst hp
  exact EJ_step (fun p e s m args below meth c R H locs cells slots ls Q hA hR hS hl w => lv_lmul hA.1 hA.2.1 dd w) k
theorem EJ_land (pc2 : Nat) {x y : Int64} (dd : decode Y.2.1 pc = .ok (.land, 1)) (hp : pc + 1 = pc2)  (k : EJ G Y cv d pc2 lv (.long (x &&& y) :: st) M o) : EJ G Y cv d pc lv (.long y :: .long x :: st) M o := by
  subst hp
  exact EJ_step (fun p e s m args below meth c R H locs cells slots ls Q hA hR hS hl w => lv_land hA.1 hA.2.1 dd w) k
theorem EJ_lor (pc2 : Nat) {x y : Int64} (dd : decode Y.2.1 pc = .ok (.lor, 1)) (hp : pc + 1 = pc2)  (k : EJ G Y cv d pc2 lv (.long (x ||| y) :: st) M o) : EJ G Y cv d pc lv (.long y :: .long x :: st) M o := by
  subst hp
  exact EJ_step (fun p e s m args below meth c R H locs cells slots ls Q hA hR hS hl w => lv_lor hA.1 hA.2.1 dd w) k
theorem EJ_lxor (pc2 : Nat) {x y : Int64} (dd : decode Y.2.1 pc = .ok (.lxor, 1)) (hp : pc + 1 = pc2)  (k : EJ G Y cv d pc2 lv (.long (x ^^^ y) :: st) M o) : EJ G Y cv d pc lv (.long y :: .long x :: st) M o := by
  subst hp
  exact EJ_step (fun p e s m args below meth c R H locs cells slots ls Q hA hR hS hl w => lv_lxor hA.1 hA.2.1 dd w) k
theorem EJ_idiv (pc2 : Nat) {x y : Int32} (dd : decode Y.2.1 pc = .ok (.idiv, 1)) (hp : pc + 1 = pc2) (hn : ¬ y = 0) (k : EJ G Y cv d pc2 lv (.int (x / y) :: st) M o) : EJ G Y cv d pc lv (.int y :: .int x :: st) M o := by
  subst hp
  exact EJ_step (fun p e s m args below meth c R H locs cells slots ls Q hA hR hS hl w => lv_idiv hA.1 hA.2.1 dd hn w) k
theorem EJ_irem (pc2 : Nat) {x y : Int32} (dd : decode Y.2.1 pc = .ok (.irem, 1)) (hp : pc + 1 = pc2) (hn : ¬ y = 0) (k : EJ G Y cv d pc2 lv (.int (x - x / y * y) :: st) M o) : EJ G Y cv d pc lv (.int y :: .int x :: st) M o := by
  subst hp
  exact EJ_step (fun p e s m args below meth c R H locs cells slots ls Q hA hR hS hl w => lv_irem hA.1 hA.2.1 dd hn w) k
theorem EJ_ldiv (pc2 : Nat) {x y : Int64} (dd : decode Y.2.1 pc = .ok (.ldiv, 1)) (hp : pc + 1 = pc2) (hn : ¬ y = 0) (k : EJ G Y cv d pc2 lv (.long (x / y) :: st) M o) : EJ G Y cv d pc lv (.long y :: .long x :: st) M o := by
  subst hp
  exact EJ_step (fun p e s m args below meth c R H locs cells slots ls Q hA hR hS hl w => lv_ldiv hA.1 hA.2.1 dd hn w) k
theorem EJ_ineg (pc2 : Nat) {x : Int32} (dd : decode Y.2.1 pc = .ok (.ineg, 1)) (hp : pc + 1 = pc2)  (k : EJ G Y cv d pc2 lv (.int (-x) :: st) M o) : EJ G Y cv d pc lv (.int x :: st) M o := by
  subst hp
  exact EJ_step (fun p e s m args below meth c R H locs cells slots ls Q hA hR hS hl w => lv_ineg hA.1 hA.2.1 dd w) k
theorem EJ_lneg (pc2 : Nat) {x : Int64} (dd : decode Y.2.1 pc = .ok (.lneg, 1)) (hp : pc + 1 = pc2)  (k : EJ G Y cv d pc2 lv (.long (-x) :: st) M o) : EJ G Y cv d pc lv (.long x :: st) M o := by
  subst hp
  exact EJ_step (fun p e s m args below meth c R H locs cells slots ls Q hA hR hS hl w => lv_lneg hA.1 hA.2.1 dd w) k
theorem EJ_ishl (pc2 : Nat) {x y : Int32} (dd : decode Y.2.1 pc = .ok (.ishl, 1)) (hp : pc + 1 = pc2)  (k : EJ G Y cv d pc2 lv (.int (x <<< (y &&& 31)) :: st) M o) : EJ G Y cv d pc lv (.int y :: .int x :: st) M o := by
  subst hp
  exact EJ_step (fun p e s m args below meth c R H locs cells slots ls Q hA hR hS hl w => lv_ishl hA.1 hA.2.1 dd w) k
theorem EJ_ishr (pc2 : Nat) {x y : Int32} (dd : decode Y.2.1 pc = .ok (.ishr, 1)) (hp : pc + 1 = pc2)  (k : EJ G Y cv d pc2 lv (.int (x >>> (y &&& 31)) :: st) M o) : EJ G Y cv d pc lv (.int y :: .int x :: st) M o := by
  subst hp
  exact EJ_step (fun p e s m args below meth c R H locs cells slots ls Q hA hR hS hl w => lv_ishr hA.1 hA.2.1 dd w) k
theorem EJ_lshl (pc2 : Nat) {x : Int64} {y : Int32} (dd : decode Y.2.1 pc = .ok (.lshl, 1)) (hp : pc + 1 = pc2)  (k : EJ G Y cv d pc2 lv (.long (x <<< (y.toInt64 &&& 63)) :: st) M o) : EJ G Y cv d pc lv (.int y :: .long x :: st) M o := by
  subst hp
  exact EJ_step (fun p e s m args below meth c R H locs cells slots ls Q hA hR hS hl w => lv_lshl hA.1 hA.2.1 dd rfl w) k
theorem EJ_lshr (pc2 : Nat) {x : Int64} {y : Int32} (dd : decode Y.2.1 pc = .ok (.lshr, 1)) (hp : pc + 1 = pc2)  (k : EJ G Y cv d pc2 lv (.long (x >>> (y.toInt64 &&& 63)) :: st) M o) : EJ G Y cv d pc lv (.int y :: .long x :: st) M o := by
  subst hp
  exact EJ_step (fun p e s m args below meth c R H locs cells slots ls Q hA hR hS hl w => lv_lshr hA.1 hA.2.1 dd rfl w) k
theorem EJ_lushr (pc2 : Nat) {x : Int64} {y : Int32} (dd : decode Y.2.1 pc = .ok (.lushr, 1)) (hp : pc + 1 = pc2)  (k : EJ G Y cv d pc2 lv (.long ((x.toUInt64 >>> (y.toInt64.toUInt64 &&& Int64.toUInt64 63)).toInt64) :: st) M o) : EJ G Y cv d pc lv (.int y :: .long x :: st) M o := by
  subst hp
  exact EJ_step (fun p e s m args below meth c R H locs cells slots ls Q hA hR hS hl w => lv_lushr hA.1 hA.2.1 dd rfl w) k
theorem EJ_i2l (pc2 : Nat) {x : Int32} (dd : decode Y.2.1 pc = .ok (.i2l, 1)) (hp : pc + 1 = pc2)  (k : EJ G Y cv d pc2 lv (.long x.toInt64 :: st) M o) : EJ G Y cv d pc lv (.int x :: st) M o := by
  subst hp
  exact EJ_step (fun p e s m args below meth c R H locs cells slots ls Q hA hR hS hl w => lv_i2l hA.1 hA.2.1 dd rfl w) k
theorem EJ_l2i (pc2 : Nat) {x : Int64} (dd : decode Y.2.1 pc = .ok (.l2i, 1)) (hp : pc + 1 = pc2)  (k : EJ G Y cv d pc2 lv (.int x.toInt32 :: st) M o) : EJ G Y cv d pc lv (.long x :: st) M o := by
  subst hp
  exact EJ_step (fun p e s m args below meth c R H locs cells slots ls Q hA hR hS hl w => lv_l2i hA.1 hA.2.1 dd rfl w) k
theorem EJ_i2b (pc2 : Nat) {x : Int32} (dd : decode Y.2.1 pc = .ok (.i2b, 1)) (hp : pc + 1 = pc2)  (k : EJ G Y cv d pc2 lv (.int x.toInt8.toInt32 :: st) M o) : EJ G Y cv d pc lv (.int x :: st) M o := by
  subst hp
  exact EJ_step (fun p e s m args below meth c R H locs cells slots ls Q hA hR hS hl w => lv_i2b hA.1 hA.2.1 dd rfl w) k
theorem EJ_i2c (pc2 : Nat) {x : Int32} (dd : decode Y.2.1 pc = .ok (.i2c, 1)) (hp : pc + 1 = pc2)  (k : EJ G Y cv d pc2 lv (.int (x.toUInt32 % 65536).toInt32 :: st) M o) : EJ G Y cv d pc lv (.int x :: st) M o := by
  subst hp
  exact EJ_step (fun p e s m args below meth c R H locs cells slots ls Q hA hR hS hl w => lv_i2c hA.1 hA.2.1 dd rfl w) k
theorem EJ_dup (pc2 : Nat) {va : Value} (dd : decode Y.2.1 pc = .ok (.dup, 1)) (hp : pc + 1 = pc2) (hc : va.category = 1) (k : EJ G Y cv d pc2 lv (va :: va :: st) M o) : EJ G Y cv d pc lv (va :: st) M o := by
  subst hp
  exact EJ_step (fun p e s m args below meth c R H locs cells slots ls Q hA hR hS hl w => lv_dup hA.1 hA.2.1 dd (by rw [rho_cat]; exact hc) w) k
theorem EJ_pop (pc2 : Nat) {va : Value} (dd : decode Y.2.1 pc = .ok (.pop, 1)) (hp : pc + 1 = pc2) (hc : va.category = 1) (k : EJ G Y cv d pc2 lv (st) M o) : EJ G Y cv d pc lv (va :: st) M o := by
  subst hp
  exact EJ_step (fun p e s m args below meth c R H locs cells slots ls Q hA hR hS hl w => lv_pop hA.1 hA.2.1 dd (by rw [rho_cat]; exact hc) w) k
theorem EJ_dup2 (pc2 : Nat) {va vb : Value} (dd : decode Y.2.1 pc = .ok (.dup2, 1)) (hp : pc + 1 = pc2) (hc : va.category = 1) (hc2 : vb.category = 1) (k : EJ G Y cv d pc2 lv (va :: vb :: va :: vb :: st) M o) : EJ G Y cv d pc lv (va :: vb :: st) M o := by
  subst hp
  exact EJ_step (fun p e s m args below meth c R H locs cells slots ls Q hA hR hS hl w => lv_dup2_11 hA.1 hA.2.1 dd (by rw [rho_cat]; exact hc) (by rw [rho_cat]; exact hc2) w) k
theorem EJ_null (pc2 : Nat)  (dd : decode Y.2.1 pc = .ok (.aconst_null, 1)) (hp : pc + 1 = pc2)  (k : EJ G Y cv d pc2 lv (.null :: st) M o) : EJ G Y cv d pc lv (st) M o := by
  subst hp
  exact EJ_step (fun p e s m args below meth c R H locs cells slots ls Q hA hR hS hl w => lv_null hA.1 hA.2.1 dd w) k
theorem EJ_if_ne (tgt pc2 : Nat) {off : Int} {x : Int32} (dd : decode Y.2.1 pc = .ok (.ifCond .ne off, 3)) (ht : (pc : Int) + off = (tgt : Int)) (hp : pc + 3 = pc2) (kt : ¬ (x = 0) → EJ G Y cv d tgt lv st M o1) (kf : x = 0 → EJ G Y cv d pc2 lv st M o2) : EJ G Y cv d pc lv (.int x :: st) M (if x = 0 then o2 else o1) := by
  subst hp
  exact EJ_br (fun p e s m args below meth c R H locs cells slots ls Q hA w1 w2 => lv_if_ne hA.1 hA.2.1 dd ht w2 w1) kf kt
theorem EJ_icmp_ne (tgt pc2 : Nat) {off : Int} {x y : Int32} (dd : decode Y.2.1 pc = .ok (.if_icmp .ne off, 3)) (ht : (pc : Int) + off = (tgt : Int)) (hp : pc + 3 = pc2) (kt : ¬ (x = y) → EJ G Y cv d tgt lv st M o1) (kf : x = y → EJ G Y cv d pc2 lv st M o2) : EJ G Y cv d pc lv (.int y :: .int x :: st) M (if x = y then o2 else o1) := by
  subst hp
  exact EJ_br (fun p e s m args below meth c R H locs cells slots ls Q hA w1 w2 => lv_icmp_ne hA.1 hA.2.1 dd ht w2 w1) kf kt
theorem EJ_lcmp_ne (tgt pc2 : Nat) {off : Int} {x y : Int64} (dd : decode Y.2.1 pc = .ok (.lcmp, 1)) (dd2 : decode Y.2.1 (pc + 1) = .ok (.ifCond .ne off, 3)) (ht : ((pc + 1 : Nat) : Int) + off = (tgt : Int)) (hp : pc + 1 + 3 = pc2) (kt : ¬ (x = y) → EJ G Y cv d tgt lv st M o1) (kf : x = y → EJ G Y cv d pc2 lv st M o2) : EJ G Y cv d pc lv (.long y :: .long x :: st) M (if x = y then o2 else o1) := by
  subst hp
  exact EJ_br (fun p e s m args below meth c R H locs cells slots ls Q hA w1 w2 => W.lcmp hA.1 hA.2.1 dd (lv_if_ne hA.1 hA.2.1 dd2 ht (fun z => w2 (fun z2 => z ((lg_cmp_eq x y).mpr z2))) (fun z => w1 ((lg_cmp_eq x y).mp z)))) kf kt
theorem EJ_if_eq (tgt pc2 : Nat) {off : Int} {x : Int32} (dd : decode Y.2.1 pc = .ok (.ifCond .eq off, 3)) (ht : (pc : Int) + off = (tgt : Int)) (hp : pc + 3 = pc2) (kt : x = 0 → EJ G Y cv d tgt lv st M o1) (kf : ¬ (x = 0) → EJ G Y cv d pc2 lv st M o2) : EJ G Y cv d pc lv (.int x :: st) M (if x = 0 then o1 else o2) := by
  subst hp
  exact EJ_br (fun p e s m args below meth c R H locs cells slots ls Q hA w1 w2 => lv_if_eq hA.1 hA.2.1 dd ht w1 w2) kt kf
theorem EJ_if_lt (tgt pc2 : Nat) {off : Int} {x : Int32} (dd : decode Y.2.1 pc = .ok (.ifCond .lt off, 3)) (ht : (pc : Int) + off = (tgt : Int)) (hp : pc + 3 = pc2) (kt : x < 0 → EJ G Y cv d tgt lv st M o1) (kf : ¬ (x < 0) → EJ G Y cv d pc2 lv st M o2) : EJ G Y cv d pc lv (.int x :: st) M (if x < 0 then o1 else o2) := by
  subst hp
  exact EJ_br (fun p e s m args below meth c R H locs cells slots ls Q hA w1 w2 => lv_if_lt hA.1 hA.2.1 dd ht w1 w2) kt kf
theorem EJ_if_ge (tgt pc2 : Nat) {off : Int} {x : Int32} (dd : decode Y.2.1 pc = .ok (.ifCond .ge off, 3)) (ht : (pc : Int) + off = (tgt : Int)) (hp : pc + 3 = pc2) (kt : 0 ≤ x → EJ G Y cv d tgt lv st M o1) (kf : ¬ (0 ≤ x) → EJ G Y cv d pc2 lv st M o2) : EJ G Y cv d pc lv (.int x :: st) M (if 0 ≤ x then o1 else o2) := by
  subst hp
  exact EJ_br (fun p e s m args below meth c R H locs cells slots ls Q hA w1 w2 => lv_if_ge hA.1 hA.2.1 dd ht w1 w2) kt kf
theorem EJ_if_gt (tgt pc2 : Nat) {off : Int} {x : Int32} (dd : decode Y.2.1 pc = .ok (.ifCond .gt off, 3)) (ht : (pc : Int) + off = (tgt : Int)) (hp : pc + 3 = pc2) (kt : 0 < x → EJ G Y cv d tgt lv st M o1) (kf : ¬ (0 < x) → EJ G Y cv d pc2 lv st M o2) : EJ G Y cv d pc lv (.int x :: st) M (if 0 < x then o1 else o2) := by
  subst hp
  exact EJ_br (fun p e s m args below meth c R H locs cells slots ls Q hA w1 w2 => lv_if_gt hA.1 hA.2.1 dd ht w1 w2) kt kf
theorem EJ_if_le (tgt pc2 : Nat) {off : Int} {x : Int32} (dd : decode Y.2.1 pc = .ok (.ifCond .le off, 3)) (ht : (pc : Int) + off = (tgt : Int)) (hp : pc + 3 = pc2) (kt : x ≤ 0 → EJ G Y cv d tgt lv st M o1) (kf : ¬ (x ≤ 0) → EJ G Y cv d pc2 lv st M o2) : EJ G Y cv d pc lv (.int x :: st) M (if x ≤ 0 then o1 else o2) := by
  subst hp
  exact EJ_br (fun p e s m args below meth c R H locs cells slots ls Q hA w1 w2 => lv_if_le hA.1 hA.2.1 dd ht w1 w2) kt kf
theorem EJ_icmp_eq (tgt pc2 : Nat) {off : Int} {x y : Int32} (dd : decode Y.2.1 pc = .ok (.if_icmp .eq off, 3)) (ht : (pc : Int) + off = (tgt : Int)) (hp : pc + 3 = pc2) (kt : x = y → EJ G Y cv d tgt lv st M o1) (kf : ¬ (x = y) → EJ G Y cv d pc2 lv st M o2) : EJ G Y cv d pc lv (.int y :: .int x :: st) M (if x = y then o1 else o2) := by
  subst hp
  exact EJ_br (fun p e s m args below meth c R H locs cells slots ls Q hA w1 w2 => lv_icmp_eq hA.1 hA.2.1 dd ht w1 w2) kt kf
theorem EJ_icmp_lt (tgt pc2 : Nat) {off : Int} {x y : Int32} (dd : decode Y.2.1 pc = .ok (.if_icmp .lt off, 3)) (ht : (pc : Int) + off = (tgt : Int)) (hp : pc + 3 = pc2) (kt : x < y → EJ G Y cv d tgt lv st M o1) (kf : ¬ (x < y) → EJ G Y cv d pc2 lv st M o2) : EJ G Y cv d pc lv (.int y :: .int x :: st) M (if x < y then o1 else o2) := by
  subst hp
  exact EJ_br (fun p e s m args below meth c R H locs cells slots ls Q hA w1 w2 => lv_icmp_lt hA.1 hA.2.1 dd ht w1 w2) kt kf
theorem EJ_icmp_ge (tgt pc2 : Nat) {off : Int} {x y : Int32} (dd : decode Y.2.1 pc = .ok (.if_icmp .ge off, 3)) (ht : (pc : Int) + off = (tgt : Int)) (hp : pc + 3 = pc2) (kt : y ≤ x → EJ G Y cv d tgt lv st M o1) (kf : ¬ (y ≤ x) → EJ G Y cv d pc2 lv st M o2) : EJ G Y cv d pc lv (.int y :: .int x :: st) M (if y ≤ x then o1 else o2) := by
  subst hp
  exact EJ_br (fun p e s m args below meth c R H locs cells slots ls Q hA w1 w2 => lv_icmp_ge hA.1 hA.2.1 dd ht w1 w2) kt kf
theorem EJ_icmp_gt (tgt pc2 : Nat) {off : Int} {x y : Int32} (dd : decode Y.2.1 pc = .ok (.if_icmp .gt off, 3)) (ht : (pc : Int) + off = (tgt : Int)) (hp : pc + 3 = pc2) (kt : y < x → EJ G Y cv d tgt lv st M o1) (kf : ¬ (y < x) → EJ G Y cv d pc2 lv st M o2) : EJ G Y cv d pc lv (.int y :: .int x :: st) M (if y < x then o1 else o2) := by
  subst hp
  exact EJ_br (fun p e s m args below meth c R H locs cells slots ls Q hA w1 w2 => lv_icmp_gt hA.1 hA.2.1 dd ht w1 w2) kt kf
theorem EJ_icmp_le (tgt pc2 : Nat) {off : Int} {x y : Int32} (dd : decode Y.2.1 pc = .ok (.if_icmp .le off, 3)) (ht : (pc : Int) + off = (tgt : Int)) (hp : pc + 3 = pc2) (kt : x ≤ y → EJ G Y cv d tgt lv st M o1) (kf : ¬ (x ≤ y) → EJ G Y cv d pc2 lv st M o2) : EJ G Y cv d pc lv (.int y :: .int x :: st) M (if x ≤ y then o1 else o2) := by
  subst hp
  exact EJ_br (fun p e s m args below meth c R H locs cells slots ls Q hA w1 w2 => lv_icmp_le hA.1 hA.2.1 dd ht w1 w2) kt kf
theorem EJ_lcmp_eq (tgt pc2 : Nat) {off : Int} {x y : Int64} (dd : decode Y.2.1 pc = .ok (.lcmp, 1)) (dd2 : decode Y.2.1 (pc + 1) = .ok (.ifCond .eq off, 3)) (ht : ((pc + 1 : Nat) : Int) + off = (tgt : Int)) (hp : pc + 1 + 3 = pc2) (kt : x = y → EJ G Y cv d tgt lv st M o1) (kf : ¬ (x = y) → EJ G Y cv d pc2 lv st M o2) : EJ G Y cv d pc lv (.long y :: .long x :: st) M (if x = y then o1 else o2) := by
  subst hp
  exact EJ_br (fun p e s m args below meth c R H locs cells slots ls Q hA w1 w2 => W.lcmp hA.1 hA.2.1 dd (lv_if_eq hA.1 hA.2.1 dd2 ht (fun z => w1 ((lg_cmp_eq x y).mp z)) (fun z => w2 (fun z2 => z ((lg_cmp_eq x y).mpr z2))))) kt kf
theorem EJ_lcmp_lt (tgt pc2 : Nat) {off : Int} {x y : Int64} (dd : decode Y.2.1 pc = .ok (.lcmp, 1)) (dd2 : decode Y.2.1 (pc + 1) = .ok (.ifCond .lt off, 3)) (ht : ((pc + 1 : Nat) : Int) + off = (tgt : Int)) (hp : pc + 1 + 3 = pc2) (kt : x < y → EJ G Y cv d tgt lv st M o1) (kf : ¬ (x < y) → EJ G Y cv d pc2 lv st M o2) : EJ G Y cv d pc lv (.long y :: .long x :: st) M (if x < y then o1 else o2) := by
  subst hp
  exact EJ_br (fun p e s m args below meth c R H locs cells slots ls Q hA w1 w2 => W.lcmp hA.1 hA.2.1 dd (lv_if_lt hA.1 hA.2.1 dd2 ht (fun z => w1 ((lg_cmp_lt x y).mp z)) (fun z => w2 (fun z2 => z ((lg_cmp_lt x y).mpr z2))))) kt kf
theorem EJ_lcmp_ge (tgt pc2 : Nat) {off : Int} {x y : Int64} (dd : decode Y.2.1 pc = .ok (.lcmp, 1)) (dd2 : decode Y.2.1 (pc + 1) = .ok (.ifCond .ge off, 3)) (ht : ((pc + 1 : Nat) : Int) + off = (tgt : Int)) (hp : pc + 1 + 3 = pc2) (kt : y ≤ x → EJ G Y cv d tgt lv st M o1) (kf : ¬ (y ≤ x) → EJ G Y cv d pc2 lv st M o2) : EJ G Y cv d pc lv (.long y :: .long x :: st) M (if y ≤ x then o1 else o2) := by
  subst hp
  exact EJ_br (fun p e s m args below meth c R H locs cells slots ls Q hA w1 w2 => W.lcmp hA.1 hA.2.1 dd (lv_if_ge hA.1 hA.2.1 dd2 ht (fun z => w1 ((lg_cmp_ge x y).mp z)) (fun z => w2 (fun z2 => z ((lg_cmp_ge x y).mpr z2))))) kt kf
theorem EJ_lcmp_gt (tgt pc2 : Nat) {off : Int} {x y : Int64} (dd : decode Y.2.1 pc = .ok (.lcmp, 1)) (dd2 : decode Y.2.1 (pc + 1) = .ok (.ifCond .gt off, 3)) (ht : ((pc + 1 : Nat) : Int) + off = (tgt : Int)) (hp : pc + 1 + 3 = pc2) (kt : y < x → EJ G Y cv d tgt lv st M o1) (kf : ¬ (y < x) → EJ G Y cv d pc2 lv st M o2) : EJ G Y cv d pc lv (.long y :: .long x :: st) M (if y < x then o1 else o2) := by
  subst hp
  exact EJ_br (fun p e s m args below meth c R H locs cells slots ls Q hA w1 w2 => W.lcmp hA.1 hA.2.1 dd (lv_if_gt hA.1 hA.2.1 dd2 ht (fun z => w1 ((lg_cmp_gt x y).mp z)) (fun z => w2 (fun z2 => z ((lg_cmp_gt x y).mpr z2))))) kt kf
theorem EJ_lcmp_le (tgt pc2 : Nat) {off : Int} {x y : Int64} (dd : decode Y.2.1 pc = .ok (.lcmp, 1)) (dd2 : decode Y.2.1 (pc + 1) = .ok (.ifCond .le off, 3)) (ht : ((pc + 1 : Nat) : Int) + off = (tgt : Int)) (hp : pc + 1 + 3 = pc2) (kt : x ≤ y → EJ G Y cv d tgt lv st M o1) (kf : ¬ (x ≤ y) → EJ G Y cv d pc2 lv st M o2) : EJ G Y cv d pc lv (.long y :: .long x :: st) M (if x ≤ y then o1 else o2) := by
  subst hp
  exact EJ_br (fun p e s m args below meth c R H locs cells slots ls Q hA w1 w2 => W.lcmp hA.1 hA.2.1 dd (lv_if_le hA.1 hA.2.1 dd2 ht (fun z => w1 ((lg_cmp_le x y).mp z)) (fun z => w2 (fun z2 => z ((lg_cmp_le x y).mpr z2))))) kt kf
theorem EJ_goto (tgt : Nat) {off : Int} (dd : decode Y.2.1 pc = .ok (.goto off, 3)) (ht : (pc : Int) + off = (tgt : Int)) (k : EJ G Y cv d tgt lv st M o) : EJ G Y cv d pc lv st M o := EJ_step (fun p e s m args below meth c R H locs cells slots ls Q hA hR hS hl w => lv_goto hA.1 hA.2.1 dd ht w) k
theorem EJ_ifnull_N (tgt : Nat) {off : Int} (dd : decode Y.2.1 pc = .ok (.ifnull off, 3)) (ht : (pc : Int) + off = (tgt : Int)) (k : EJ G Y cv d tgt lv st M o) : EJ G Y cv d pc lv (.null :: st) M o := EJ_step (fun p e s m args below meth c R H locs cells slots ls Q hA hR hS hl w => lv_ifnullN hA.1 hA.2.1 dd ht w) k
theorem EJ_ifnull_R (pc2 : Nat) {off : Int} {a : Nat} (dd : decode Y.2.1 pc = .ok (.ifnull off, 3)) (hp : pc + 3 = pc2) (k : EJ G Y cv d pc2 lv st M o) : EJ G Y cv d pc lv (.ref a :: st) M o := by
  subst hp
  exact EJ_step (fun p e s m args below meth c R H locs cells slots ls Q hA hR hS hl w => lv_ifnull hA.1 hA.2.1 dd w) k
theorem EJ_ifnonnull_N (pc2 : Nat) {off : Int} (dd : decode Y.2.1 pc = .ok (.ifnonnull off, 3)) (hp : pc + 3 = pc2) (k : EJ G Y cv d pc2 lv st M o) : EJ G Y cv d pc lv (.null :: st) M o := by
  subst hp
  exact EJ_step (fun p e s m args below meth c R H locs cells slots ls Q hA hR hS hl w => lv_ifnonnullN hA.1 hA.2.1 dd w) k
theorem EJ_ifnonnull_R (tgt : Nat) {off : Int} {a : Nat} (dd : decode Y.2.1 pc = .ok (.ifnonnull off, 3)) (ht : (pc : Int) + off = (tgt : Int)) (k : EJ G Y cv d tgt lv st M o) : EJ G Y cv d pc lv (.ref a :: st) M o := EJ_step (fun p e s m args below meth c R H locs cells slots ls Q hA hR hS hl w => lv_ifnonnull hA.1 hA.2.1 dd ht w) k
theorem EJ_tabIn (tgt : Nat) {dflt lo hi off : Int} {offs : Array Int} {len : Nat} {x : Int32} (dd : decode Y.2.1 pc = .ok (.tableswitch dflt lo hi offs, len)) (h1 : ¬ x.toInt < lo) (h2 : ¬ hi < x.toInt) (ho : offs[(x.toInt - lo).toNat]? = some off) (ht : (pc : Int) + off = (tgt : Int)) (k : EJ G Y cv d tgt lv st M o) : EJ G Y cv d pc lv (.int x :: st) M o := EJ_step (fun p e s m args below meth c R H locs cells slots ls Q hA hR hS hl w => lv_tableIn hA.1 hA.2.1 dd h1 h2 ho ht w) k
theorem EJ_tabOut (tgt : Nat) {dflt lo hi : Int} {offs : Array Int} {len : Nat} {x : Int32} (dd : decode Y.2.1 pc = .ok (.tableswitch dflt lo hi offs, len)) (h1 : x.toInt < lo ∨ hi < x.toInt) (ht : (pc : Int) + dflt = (tgt : Int)) (k : EJ G Y cv d tgt lv st M o) : EJ G Y cv d pc lv (.int x :: st) M o := EJ_step (fun p e s m args below meth c R H locs cells slots ls Q hA hR hS hl w => lv_tableOut hA.1 hA.2.1 dd h1 ht w) k
/-- one case of a table -/
theorem EJ_case {dflt lo hi off : Int} {offs : Array Int} {len : Nat} {x : Int32} (v : Int32) (tgt : Nat) (dd : decode Y.2.1 pc = .ok (.tableswitch dflt lo hi offs, len)) (h1 : (decide (¬ v.toInt < lo) && decide (¬ hi < v.toInt)) = true) (ho : offs[(v.toInt - lo).toNat]? = some off) (ht : (pc : Int) + off = (tgt : Int)) (kt : x = v → EJ G Y cv d tgt lv st M o1) (kf : ¬ x = v → EJ G Y cv d pc lv (.int x :: st) M o2) : EJ G Y cv d pc lv (.int x :: st) M (if x = v then o1 else o2) := by
  by_cases e : x = v
  · rw [if_pos e]
    subst e
    simp only [Bool.and_eq_true, decide_eq_true_eq] at h1
    exact EJ_tabIn tgt dd h1.1 h1.2 ho ht (kt rfl)
  · rw [if_neg e]
    exact kf e
theorem EJ_istore_n (pc2 : Nat) {n : Fin 4} {x : Int32} {lv2 : List (Nat × Value)} (dd : decode Y.2.1 pc = .ok (.istore_n n, 1)) (hp : pc + 1 = pc2) (hi : (n : Nat) < Y.2.2.1) (hl2 : ((n : Nat), Value.int x) :: lv.filter (fun q => !(q.1 == (n : Nat)) && !(q.1 + 1 == (n : Nat) && q.2.category == 2)) = lv2) (k : EJ G Y cv d pc2 lv2 st M o) : EJ G Y cv d pc lv (.int x :: st) M o := by
  subst hp
  exact EJ_loc (fun p e s m args below meth c R H locs cells slots ls Q hA hl w => lv_istore_n hA.1 hA.2.1 dd rfl hl hi (by rw [← hl2]; exact (store1_map G lv _ (.int x)).symm) w) k
theorem EJ_istore (pc2 : Nat) {i : Nat} {x : Int32} {lv2 : List (Nat × Value)} (dd : decode Y.2.1 pc = .ok (.istore i, 2)) (hp : pc + 2 = pc2) (hi : i < Y.2.2.1) (hl2 : (i, Value.int x) :: lv.filter (fun q => !(q.1 == i) && !(q.1 + 1 == i && q.2.category == 2)) = lv2) (k : EJ G Y cv d pc2 lv2 st M o) : EJ G Y cv d pc lv (.int x :: st) M o := by
  subst hp
  exact EJ_loc (fun p e s m args below meth c R H locs cells slots ls Q hA hl w => lv_istore hA.1 hA.2.1 dd hl hi (by rw [← hl2]; exact (store1_map G lv _ (.int x)).symm) w) k
theorem EJ_astore_n (pc2 : Nat) {n : Fin 4} {x : Nat} {lv2 : List (Nat × Value)} (dd : decode Y.2.1 pc = .ok (.astore_n n, 1)) (hp : pc + 1 = pc2) (hi : (n : Nat) < Y.2.2.1) (hl2 : ((n : Nat), Value.ref x) :: lv.filter (fun q => !(q.1 == (n : Nat)) && !(q.1 + 1 == (n : Nat) && q.2.category == 2)) = lv2) (k : EJ G Y cv d pc2 lv2 st M o) : EJ G Y cv d pc lv (.ref x :: st) M o := by
  subst hp
  exact EJ_loc (fun p e s m args below meth c R H locs cells slots ls Q hA hl w => lv_astore_n hA.1 hA.2.1 dd rfl hl hi (by rw [← hl2]; exact (store1_map G lv _ (.ref x)).symm) w) k
theorem EJ_astore (pc2 : Nat) {i : Nat} {x : Nat} {lv2 : List (Nat × Value)} (dd : decode Y.2.1 pc = .ok (.astore i, 2)) (hp : pc + 2 = pc2) (hi : i < Y.2.2.1) (hl2 : (i, Value.ref x) :: lv.filter (fun q => !(q.1 == i) && !(q.1 + 1 == i && q.2.category == 2)) = lv2) (k : EJ G Y cv d pc2 lv2 st M o) : EJ G Y cv d pc lv (.ref x :: st) M o := by
  subst hp
  exact EJ_loc (fun p e s m args below meth c R H locs cells slots ls Q hA hl w => lv_astore hA.1 hA.2.1 dd hl hi (by rw [← hl2]; exact (store1_map G lv _ (.ref x)).symm) w) k
theorem EJ_lstore_n (pc2 : Nat) {n : Fin 4} {x : Int64} {lv2 : List (Nat × Value)} (dd : decode Y.2.1 pc = .ok (.lstore_n n, 1)) (hp : pc + 1 = pc2) (hi : (n : Nat) + 1 < Y.2.2.1) (hl2 : ((n : Nat), Value.long x) :: lv.filter (fun q => !(q.1 == (n : Nat)) && (!(q.1 == (n : Nat) + 1) && !(q.1 + 1 == (n : Nat) && q.2.category == 2))) = lv2) (k : EJ G Y cv d pc2 lv2 st M o) : EJ G Y cv d pc lv (.long x :: st) M o := by
  subst hp
  exact EJ_loc (fun p e s m args below meth c R H locs cells slots ls Q hA hl w => lv_lstore_n hA.1 hA.2.1 dd rfl hl hi (by rw [← hl2]; exact (store2_map G lv _ (.long x)).symm) w) k
theorem EJ_lstore (pc2 : Nat) {i : Nat} {x : Int64} {lv2 : List (Nat × Value)} (dd : decode Y.2.1 pc = .ok (.lstore i, 2)) (hp : pc + 2 = pc2) (hi : i + 1 < Y.2.2.1) (hl2 : (i, Value.long x) :: lv.filter (fun q => !(q.1 == i) && (!(q.1 == i + 1) && !(q.1 + 1 == i && q.2.category == 2))) = lv2) (k : EJ G Y cv d pc2 lv2 st M o) : EJ G Y cv d pc lv (.long x :: st) M o := by
  subst hp
  exact EJ_loc (fun p e s m args below meth c R H locs cells slots ls Q hA hl w => lv_lstore hA.1 hA.2.1 dd hl hi (by rw [← hl2]; exact (store2_map G lv _ (.long x)).symm) w) k
theorem EJ_iinc (pc2 q : Nat) {i : Nat} {n : Int} {x v : Int32} {lv2 : List (Nat × Value)} (dd : decode Y.2.1 pc = .ok (.iinc i n, 3)) (hp : pc + 3 = pc2) (hi : i < Y.2.2.1) (hq : lv[q]? = some (i, .int x)) (hv : Int32.ofInt n = v) (hl2 : (i, Value.int (x + v)) :: lv.filter (fun q => !(q.1 == i) && !(q.1 + 1 == i && q.2.category == 2)) = lv2) (k : EJ G Y cv d pc2 lv2 st M o) : EJ G Y cv d pc lv st M o := by
  subst hp; subst hv
  exact EJ_loc (fun p e s m args below meth c R H locs cells slots ls Q hA hl w => lv_iinc (k := q) hA.1 hA.2.1 dd hl (by rw [List.getElem?_map, hq]; rfl) rfl hi (by rw [← hl2]; exact (store1_map G lv _ (.int _)).symm) w) k
end EJ2
