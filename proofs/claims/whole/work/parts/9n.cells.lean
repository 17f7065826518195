/-! cells of persons and of the house, written on both sides -/
section Z5
variable {k : Nat} {ad : Nat → Nat → Nat} {C R : Mm}
def okL (k : Nat) (R : Mm) (v : Int64) : Prop := -(2000000000 * (mI R 39 71).toInt + 100000 * (k : Int)) ≤ v.toInt ∧ v.toInt ≤ 2000000000 * (mI R 39 71).toInt + 100000 * (k : Int)
def okP (R : Mm) (v : Int32) : Prop := -(5940 * (mI R 39 71).toInt) ≤ v.toInt ∧ v.toInt ≤ 5940 * (mI R 39 71).toInt
theorem Rel.okl (h : Rel k ad C R) {i : Nat} (hi : i < 16) : okL k R (mL R 52 i) := (h.ipe.1 i hi).2.2.2
theorem Rel.okp (h : Rel k ad C R) {i : Nat} (hi : i < 16) : okP R (mI R 47 i) := (h.ipe.1 i hi).2.2.1
theorem Rel.plt (h : Rel k ad C R) {i : Nat} (hi : i < ix (mI R 39 9)) : ad 1 i < mZ C := h.lv.in (h.shp i hi).2.1 (by decide)
theorem Rel.wL (h : Rel k ad C R) {i : Nat} (hi : i < ix (mI R 39 9)) {v : Int64} (hv : okL k R v) : Rel k ad (sL C (ad 1 i) 3 v) (sL R 52 i v) := by
  have q : Ipe k (sL R 52 i v) := by
    obtain ⟨h1, h2, h3, h4, h5, h6⟩ := h.ipe
    refine ⟨fun i' hi' => ?_, h2, h3, ?_, h5, h6⟩
    · obtain ⟨a, b, c, d⟩ := h1 i' hi'
      refine ⟨a, b, c, ?_⟩
      rw [mL_sL]
      split
      · exact hv
      · exact d
    · rw [mL_sL, if_neg (by omega)]; exact h4
  exact Rel.mk5 h.sc h.sr h.hA h.lv h.dt (h.dl.st h.hA 1 i 3 rfl (by decide) (h.plt hi)) h.isc h.ila q h.shp h.shs h.ist h.she h.ied h.shn h.ise h.ison h.g5
theorem Rel.wFu (h : Rel k ad C R) {v : Int64} (hv : -(2000000000000 * (mI R 39 71).toInt) ≤ v.toInt ∧ v.toInt ≤ 2000000000000 * (mI R 39 71).toInt) : Rel k ad (sL C 30 4 v) (sL R 39 18 v) := by
  have q : Ipe k (sL R 39 18 v) := by
    obtain ⟨h1, h2, h3, h4, h5, h6⟩ := h.ipe
    refine ⟨fun i' hi' => ?_, h2, h3, ?_, h5, h6⟩
    · obtain ⟨a, b, c, d⟩ := h1 i' hi'
      refine ⟨a, b, c, ?_⟩
      rw [mL_sL, if_neg (by omega)]
      exact d
    · rw [mL_sL, if_pos ⟨rfl, rfl⟩]; exact hv
  exact Rel.mk5 h.sc h.sr h.hA h.lv h.dt (h.dl.st h.hA 130 0 4 rfl (by decide) (h.lv.st (a := 30) (by decide))) h.isc h.ila q h.shp h.shs h.ist h.she h.ied h.shn h.ise h.ison h.g5
theorem Rel.wPos (h : Rel k ad C R) {i : Nat} (hi : i < ix (mI R 39 9)) {v : Int32} (hv : okP R v) : Rel k ad (sI C (ad 1 i) 4 v) (sI R 47 i v) := by
  have q : Ipe k (sI R 47 i v) := by
    obtain ⟨h1, h2, h3, h4, h5, h6⟩ := h.ipe
    refine ⟨fun i' hi' => ?_, h2, h3, h4, h5, h6⟩
    obtain ⟨a, b, c, d⟩ := h1 i' hi'
    refine ⟨a, b, ?_, d⟩
    rw [mI_sI (b := 47)]
    split
    · exact hv
    · exact c
  exact Rel.mk5 h.sc h.sr h.hA h.lv (h.dt.st h.hA 1 i 4 rfl (by decide) (h.plt hi)) h.dl h.isc h.ila q h.shp h.shs h.ist h.she h.ied h.shn h.ise h.ison (G5.p h.hA h.g5 (by decide))
theorem Rel.wCal (h : Rel k ad C R) {i : Nat} (hi : i < ix (mI R 39 9)) {v : Int32} (hv : -1 ≤ v ∧ v ≤ mI R 39 0) : Rel k ad (sI C (ad 1 i) 6 v) (sI R 49 i v) := by
  have q : Ipe k (sI R 49 i v) := by
    obtain ⟨h1, h2, h3, h4, h5, h6⟩ := h.ipe
    refine ⟨fun i' hi' => ?_, h2, h3, h4, h5, h6⟩
    obtain ⟨a, b, c, d⟩ := h1 i' hi'
    refine ⟨a, ?_, c, d⟩
    rw [mI_sI (b := 49)]
    split
    · exact hv
    · exact b
  exact Rel.mk5 h.sc h.sr h.hA h.lv (h.dt.st h.hA 1 i 6 rfl (by decide) (h.plt hi)) h.dl h.isc h.ila q h.shp h.shs h.ist h.she h.ied h.shn h.ise h.ison (G5.p h.hA h.g5 (by decide))
theorem Rel.wClo (h : Rel k ad C R) {i : Nat} (hi : i < ix (mI R 39 9)) {v : Int32} : Rel k ad (sI C (ad 1 i) 7 v) (sI R 50 i v) :=
  Rel.mk5 h.sc h.sr h.hA h.lv (h.dt.st h.hA 1 i 7 rfl (by decide) (h.plt hi)) h.dl h.isc h.ila h.ipe h.shp h.shs h.ist h.she h.ied h.shn h.ise h.ison (G5.p h.hA h.g5 (by decide))
theorem Rel.wFai (h : Rel k ad C R) {i : Nat} (hi : i < ix (mI R 39 9)) {v : Int32} : Rel k ad (sI C (ad 1 i) 8 v) (sI R 51 i v) :=
  Rel.mk5 h.sc h.sr h.hA h.lv (h.dt.st h.hA 1 i 8 rfl (by decide) (h.plt hi)) h.dl h.isc h.ila h.ipe h.shp h.shs h.ist h.she h.ied h.shn h.ise h.ison (G5.p h.hA h.g5 (by decide))
theorem Rel.wHp (h : Rel k ad C R) {v : Int32} (hv : -(2300000 * (mI R 39 71).toInt) ≤ v.toInt ∧ v.toInt ≤ 2300000 * (mI R 39 71).toInt) : Rel k ad (sI C 30 3 v) (sI R 39 21 v) := by
  have q : Ipe k (sI R 39 21 v) := by
    obtain ⟨h1, h2, h3, h4, h5, h6⟩ := h.ipe
    exact ⟨h1, h2, hv, h4, h5, h6⟩
  exact Rel.mk5 h.sc h.sr h.hA h.lv (h.dt.st h.hA 130 0 3 rfl (by decide) (h.lv.st (a := 30) (by decide))) h.dl h.isc h.ila q h.shp h.shs h.ist h.she h.ied h.shn h.ise h.ison (G5.s h.hA h.g5 (by decide))
end Z5
