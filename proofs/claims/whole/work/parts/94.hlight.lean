section X9
variable {k : Nat} {ad : Nat → Nat → Nat} {C R : Mm}
/-- light, from what its constructor gives -/
theorem hl_step {M F L : Mm} {z : Nat} {t r n : Int32} (k8 : mK M 8 = (11, 18)) (r14 : mR M 8 14 = none) (i13 : mI M 8 13 = n) (lt : n < 24) (hz : mZ M = z) (k3 : mK (nw M 9 11) 8 = (11, 18)) (i16 : mI (nw M 9 11) 8 16 = t) (e : Hall_askLaw (nw M 9 11) 8 3 = some (r, F)) (es : Session_new F z t r = some ((), L)) (n0 : 0 ≤ n) (n24 : ix n < 24) (l8 : mK L 8 = (11, 18)) (l37 : mK L 37 = (26, 24)) (lz : mK L z = (9, 11)) (li : mI L 8 13 = n) (lr : mR L 8 12 = some 37) : Hall_light M 8 = some (n, sI (sR (sR L 8 14 (some z)) 37 (ix n) (some z)) 8 13 (n + 1)) := by
  have sub1 : n + 1 - 1 = n := by grind
  have q1 : kO (sR L 8 14 (some z)) z 9 11 = true := kO_t lz
  have q2 : kA (sR L 8 14 (some z)) 37 26 n = true := kA_t (n := 24) l37 n0 n24
  have q3 : mR (sR L 8 14 (some z)) 8 12 = some 37 := by rw [mR_sR, if_neg (by decide)]; exact lr
  have q4 : mR (sR L 8 14 (some z)) 8 14 = some z := by rw [mR_sR, if_pos ⟨rfl, rfl⟩]
  have q5 : mI (sR L 8 14 (some z)) 8 13 = n := li
  have q6 : mI (sR (sR L 8 14 (some z)) 37 (ix n) (some z)) 8 13 = n := li
  unfold Hall_light
  simp only [kO_t k8, ck_t, r14, nl_n, i13, if_pos lt, kO_t k3, e, bd_s, i16, hz, es, kO_t l8, q3, q4, nn_s, q5, q2, q1, q6]
  rw [mI_sI, if_pos ⟨rfl, rfl⟩, sub1]
/-- the class's memory behind light -/
def lC (C : Mm) (N : Nat) (v t r : Int32) : Mm := sI (sR (sR (lC0 (nw C 9 11) (mZ C) t r) 8 14 (some (mZ C))) 37 N (some (mZ C))) 8 13 v
theorem ev_hlight0 {F : Mm} (h : Rel k ad C R) (hf : Rel k ad F R) (hF : mZ F = mZ C) (off : mI R 39 73 = 0) (lt : mI R 39 70 < 24) {r : Int32} (e : Hall_askLaw (nw C 9 11) 8 3 = some (r, nw F 9 11)) : Hall_light C 8 = some (mI R 39 70, lC F (ix (mI R 39 70)) (mI R 39 70 + 1) (mI R 39 0) r) := by
  have hz := h.lv.1
  have hS : 0 ≤ mI R 39 70 ∧ mI R 39 70 ≤ 24 := h.isc.2.2.2.2.2.2.2.2.2.2.1
  have n24 : ix (mI R 39 70) < 24 := ix_b 24 hS.1 lt (by decide) (by decide)
  have zz : mZ (nw F 9 11) = mZ C + 1 := by rw [mZ_nw, hF]
  have K : ∀ a, a < mZ C → mK (lC0 (nw F 9 11) (mZ C) (mI R 39 0) r) a = mK F a := fun a q => by
    rw [lC0_K _ _ _ _ zz, if_neg (by omega), if_neg (by omega), if_neg (by omega), mK_nw, if_neg (by omega)]
  have Kz : mK (lC0 (nw F 9 11) (mZ C) (mI R 39 0) r) (mZ C) = (9, 11) := by
    rw [lC0_K _ _ _ _ zz, if_neg (by omega), if_neg (by omega), if_neg (by omega), mK_nw, hF, if_pos rfl]
  have I8 : mI (lC0 (nw F 9 11) (mZ C) (mI R 39 0) r) 8 13 = mI F 8 13 := by
    rw [lC0_I _ _ _ _ zz, if_neg (by omega), if_neg (by omega), if_neg (by omega), if_neg (by omega), if_neg (by omega), if_neg (by omega), if_neg (by omega), mI_nw, if_neg (by omega)]
  have R8 : mR (lC0 (nw F 9 11) (mZ C) (mI R 39 0) r) 8 12 = some 37 := by
    rw [lC0_R _ _ _ _ zz, if_neg (by omega), if_neg (by omega), if_neg (by omega), if_neg (by omega), if_neg (by omega), if_neg (by omega), mR_nw, if_neg (by omega)]
    exact hf.sc.r8_12
  have es := ev_sesnew (nw F 9 11) (mZ C) (mI R 39 0) r zz (by rw [mK_nw, hF, if_pos rfl])
  unfold lC
  rw [hF]
  exact hl_step h.sc.k8 (by rw [h.shn.2.1, if_pos off]) h.l8_13 lt rfl (by rw [mK_nw, if_neg (by omega)]; exact h.sc.k8) (by rw [mI_nw, if_neg (by omega)]; exact h.l8_16) e es hS.1 n24 (by rw [K 8 (by omega)]; exact hf.sc.k8) (by rw [K 37 (by omega)]; exact hf.sc.k37) Kz (by rw [I8]; exact hf.l8_13) R8
end X9
