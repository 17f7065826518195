section X5
variable {k : Nat} {ad : Nat → Nat → Nat} {C R : Mm}
/-- a session's own cells, behind its constructor; the session lies at z, the last place -/
def lC0 (C : Mm) (z : Nat) (t r : Int32) : Mm := sI (sI (sR (nw (sR (nw (sR (nw (sI (sI C z 0 t) z 7 r) 28 60) z 1 (some (z + 1))) 20 60) z 2 (some (z + 2))) 29 60) z 3 (some (z + 3))) z 8 (-1)) z 9 (-1)
theorem lC0_K (C : Mm) (z : Nat) (t r : Int32) (hz : mZ C = z + 1) (a : Nat) : mK (lC0 C z t r) a = if a = z + 3 then (29, 60) else if a = z + 2 then (20, 60) else if a = z + 1 then (28, 60) else mK C a := by
  show (if a = mZ C + 1 + 1 then (29, 60) else if a = mZ C + 1 then (20, 60) else if a = mZ C then (28, 60) else mK C a) = _
  rw [hz]
theorem lC0_I (C : Mm) (z : Nat) (t r : Int32) (hz : mZ C = z + 1) (a j : Nat) : mI (lC0 C z t r) a j = if a = z ∧ j = 9 then -1 else if a = z ∧ j = 8 then -1 else if a = z + 3 then 0 else if a = z + 2 then 0 else if a = z + 1 then 0 else if a = z ∧ j = 7 then r else if a = z ∧ j = 0 then t else mI C a j := by
  show (if a = z ∧ j = 9 then -1 else if a = z ∧ j = 8 then -1 else if a = mZ C + 1 + 1 then 0 else if a = mZ C + 1 then 0 else if a = mZ C then 0 else if a = z ∧ j = 7 then r else if a = z ∧ j = 0 then t else mI C a j) = _
  rw [hz]
theorem lC0_R (C : Mm) (z : Nat) (t r : Int32) (hz : mZ C = z + 1) (a j : Nat) : mR (lC0 C z t r) a j = if a = z ∧ j = 3 then some (z + 3) else if a = z + 3 then none else if a = z ∧ j = 2 then some (z + 2) else if a = z + 2 then none else if a = z ∧ j = 1 then some (z + 1) else if a = z + 1 then none else mR C a j := by
  show (if a = z ∧ j = 3 then some (z + 3) else if a = mZ C + 1 + 1 then none else if a = z ∧ j = 2 then some (z + 2) else if a = mZ C + 1 then none else if a = z ∧ j = 1 then some (z + 1) else if a = mZ C then none else mR C a j) = _
  rw [hz]
theorem ev_sesnew (C : Mm) (z : Nat) (t r : Int32) (hz : mZ C = z + 1) (hk : mK C z = (9, 11)) : Session_new C z t r = some ((), lC0 C z t r) := by
  have k0 : kO C z 9 11 = true := kO_t hk
  have z1 : mZ (sI (sI C z 0 t) z 7 r) = z + 1 := hz
  have k1 : kO (nw (sI (sI C z 0 t) z 7 r) 28 60) z 9 11 = true := kO_t (by
    rw [mK_nw, if_neg (by rw [z1]; omega)]; exact hk)
  have z2 : mZ (sR (nw (sI (sI C z 0 t) z 7 r) 28 60) z 1 (some (z + 1))) = z + 2 := by rw [mZ_sR, mZ_nw, z1]
  have k2 : kO (nw (sR (nw (sI (sI C z 0 t) z 7 r) 28 60) z 1 (some (z + 1))) 20 60) z 9 11 = true := kO_t (by
    rw [mK_nw, if_neg (by rw [z2]; omega), mK_sR, mK_nw, if_neg (by rw [z1]; omega)]; exact hk)
  have z3 : mZ (sR (nw (sR (nw (sI (sI C z 0 t) z 7 r) 28 60) z 1 (some (z + 1))) 20 60) z 2 (some (z + 2))) = z + 3 := by rw [mZ_sR, mZ_nw, z2]
  have k3 : kO (nw (sR (nw (sR (nw (sI (sI C z 0 t) z 7 r) 28 60) z 1 (some (z + 1))) 20 60) z 2 (some (z + 2))) 29 60) z 9 11 = true := kO_t (by
    rw [mK_nw, if_neg (by rw [z3]; omega), mK_sR, mK_nw, if_neg (by rw [z2]; omega), mK_sR, mK_nw, if_neg (by rw [z1]; omega)]; exact hk)
  unfold Session_new
  simp only [k0, ck_t]
  simp only [z1, k1, ck_t]
  simp only [z2, k2, ck_t]
  simp only [z3, k3, ck_t]
  rfl
end X5
