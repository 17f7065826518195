section R1
variable {k : Nat} {ad : Nat → Nat → Nat} {C R : Mm}
theorem Rel.sc (h : Rel k ad C R) : SC C := h.1.1
theorem Rel.sr (h : Rel k ad C R) : SR R := h.1.2.1
theorem Rel.hA (h : Rel k ad C R) : Ad ad := h.1.2.2.1
theorem Rel.lv (h : Rel k ad C R) : Lv k C := h.1.2.2.2
theorem Rel.dt (h : Rel k ad C R) : Dt ad C R := h.2.1.1
theorem Rel.dl (h : Rel k ad C R) : DL ad C R := h.2.1.2
theorem Rel.isc (h : Rel k ad C R) : Isc R := h.2.2.1.1
theorem Rel.ila (h : Rel k ad C R) : Ila R := h.2.2.1.2.1
theorem Rel.ipe (h : Rel k ad C R) : Ipe k R := h.2.2.1.2.2
theorem Rel.shp (h : Rel k ad C R) : ShP ad C R := h.2.2.2.1
theorem Rel.shs (h : Rel k ad C R) : ShS ad C R := h.2.2.2.2.1.1
theorem Rel.ist (h : Rel k ad C R) : Ist R := h.2.2.2.2.1.2.1
theorem Rel.qs (h : Rel k ad C R) : Qs ad C R := h.2.2.2.2.1.2.2
theorem Rel.she (h : Rel k ad C R) : ShE ad C R := h.2.2.2.2.2.1.1
theorem Rel.ied (h : Rel k ad C R) : Ied R := h.2.2.2.2.2.1.2.1
theorem Rel.eds (h : Rel k ad C R) : Eds ad C R := h.2.2.2.2.2.1.2.2
theorem Rel.shn (h : Rel k ad C R) : ShN ad C R := h.2.2.2.2.2.2.1.1
theorem Rel.ise (h : Rel k ad C R) : Ise R := h.2.2.2.2.2.2.1.2.1
theorem Rel.ison (h : Rel k ad C R) : Ison R := h.2.2.2.2.2.2.1.2.2
theorem Rel.son (h : Rel k ad C R) : Son ad C R := h.2.2.2.2.2.2.2.1
theorem Rel.den (h : Rel k ad C R) : Den ad C R := h.2.2.2.2.2.2.2.2.1
theorem Rel.evs (h : Rel k ad C R) : Evs ad C R := h.2.2.2.2.2.2.2.2.2
theorem Rel.mk (sc : SC C) (sr : SR R) (hA : Ad ad) (lv : Lv k C) (dt : Dt ad C R) (dl : DL ad C R) (isc : Isc R) (ila : Ila R) (ipe : Ipe k R) (shp : ShP ad C R) (shs : ShS ad C R) (ist : Ist R) (qs : Qs ad C R) (she : ShE ad C R) (ied : Ied R) (eds : Eds ad C R) (shn : ShN ad C R) (ise : Ise R) (ison : Ison R) (son : Son ad C R) (den : Den ad C R) (evs : Evs ad C R) : Rel k ad C R := ⟨⟨sc, sr, hA, lv⟩, ⟨dt, dl⟩, ⟨isc, ila, ipe⟩, shp, ⟨shs, ist, qs⟩, ⟨she, ied, eds⟩, ⟨shn, ise, ison⟩, son, den, evs⟩
theorem Isc.now (h : Isc R) : 0 ≤ mI R 39 0 ∧ mI R 39 0 ≤ 57600 := h.1
theorem Isc.wind (h : Isc R) : 0 ≤ mI R 39 1 ∧ mI R 39 1 ≤ 9 := h.2.1
theorem Isc.towns (h : Isc R) : 1 ≤ mI R 39 2 ∧ mI R 39 2 ≤ 10 := h.2.2.1
theorem Isc.persons (h : Isc R) : 0 ≤ mI R 39 9 ∧ mI R 39 9 ≤ 16 := h.2.2.2.1
theorem Isc.stores (h : Isc R) : 0 ≤ mI R 39 22 ∧ mI R 39 22 ≤ 4 := h.2.2.2.2.1
theorem Isc.issues (h : Isc R) : 0 ≤ mI R 39 23 ∧ mI R 39 23 ≤ 60 := h.2.2.2.2.2.1
theorem Isc.waits (h : Isc R) : 0 ≤ mI R 39 24 ∧ mI R 39 24 ≤ 60 := h.2.2.2.2.2.2.1
theorem Isc.taped (h : Isc R) : 0 ≤ mI R 39 54 ∧ mI R 39 54 ≤ 500 := h.2.2.2.2.2.2.2.1
theorem Isc.closes (h : Isc R) : 0 ≤ mI R 39 71 ∧ mI R 39 71 ≤ 24 := h.2.2.2.2.2.2.2.2.1
theorem Isc.texts (h : Isc R) : 0 ≤ mI R 39 37 ∧ mI R 39 37 ≤ 8 := h.2.2.2.2.2.2.2.2.2.1
theorem Isc.sessions (h : Isc R) : 0 ≤ mI R 39 70 ∧ mI R 39 70 ≤ 24 := h.2.2.2.2.2.2.2.2.2.2.1
theorem Isc.on (h : Isc R) : mI R 39 73 = 0 ∨ mI R 39 73 = 1 := h.2.2.2.2.2.2.2.2.2.2.2.1
theorem Isc.cs (h : Isc R) : mI R 39 71 + mI R 39 73 ≤ mI R 39 70 := h.2.2.2.2.2.2.2.2.2.2.2.2
theorem Lv.in (h : Lv k C) {a c n : Nat} (e : mK C a = (c, n)) (hc : c ≠ 99) : a < mZ C := by
  apply Classical.byContradiction
  intro q
  rw [h.2.1 a (by omega)] at e
  exact hc (Prod.mk.inj e).1.symm
theorem Lv.st (h : Lv k C) {a : Nat} (ha : a < 116) : a < mZ C := Nat.lt_of_lt_of_le ha h.1
theorem Rel.l8_16 (h : Rel k ad C R) : mI C 8 16 = mI R 39 0 := h.dt.ld 108 0 16 rfl (by decide) (h.lv.st (a := 8) (by decide))
theorem Rel.l8_17 (h : Rel k ad C R) : mI C 8 17 = mI R 39 1 := h.dt.ld 108 0 17 rfl (by decide) (h.lv.st (a := 8) (by decide))
theorem Rel.l9_6 (h : Rel k ad C R) : mI C 9 6 = mI R 39 2 := h.dt.ld 109 0 6 rfl (by decide) (h.lv.st (a := 9) (by decide))
theorem Rel.l8_2 (h : Rel k ad C R) : mI C 8 2 = mI R 39 9 := h.dt.ld 108 0 2 rfl (by decide) (h.lv.st (a := 8) (by decide))
theorem Rel.l8_4 (h : Rel k ad C R) : mI C 8 4 = mI R 39 22 := h.dt.ld 108 0 4 rfl (by decide) (h.lv.st (a := 8) (by decide))
theorem Rel.l8_5 (h : Rel k ad C R) : mI C 8 5 = mI R 39 23 := h.dt.ld 108 0 5 rfl (by decide) (h.lv.st (a := 8) (by decide))
theorem Rel.l8_6 (h : Rel k ad C R) : mI C 8 6 = mI R 39 24 := h.dt.ld 108 0 6 rfl (by decide) (h.lv.st (a := 8) (by decide))
theorem Rel.l8_8 (h : Rel k ad C R) : mI C 8 8 = mI R 39 54 := h.dt.ld 108 0 8 rfl (by decide) (h.lv.st (a := 8) (by decide))
theorem Rel.l30_2 (h : Rel k ad C R) : mI C 30 2 = mI R 39 71 := h.dt.ld 130 0 2 rfl (by decide) (h.lv.st (a := 30) (by decide))
theorem Rel.l30_3 (h : Rel k ad C R) : mI C 30 3 = mI R 39 21 := h.dt.ld 130 0 3 rfl (by decide) (h.lv.st (a := 30) (by decide))
theorem Rel.l19_3 (h : Rel k ad C R) : mI C 19 3 = mI R 39 37 := h.dt.ld 119 0 3 rfl (by decide) (h.lv.st (a := 19) (by decide))
theorem Rel.l19_4 (h : Rel k ad C R) : mI C 19 4 = mI R 39 55 := h.dt.ld 119 0 4 rfl (by decide) (h.lv.st (a := 19) (by decide))
theorem Rel.l8_13 (h : Rel k ad C R) : mI C 8 13 = mI R 39 70 := h.dt.ld 108 0 13 rfl (by decide) (h.lv.st (a := 8) (by decide))
theorem Rel.la10 (h : Rel k ad C R) (j : Nat) : mI C 10 j = mI R 40 j := h.dt.ld 110 0 j rfl (by decide) (h.lv.st (a := 10) (by decide))
theorem Rel.la11 (h : Rel k ad C R) (j : Nat) : mI C 11 j = mI R 41 j := h.dt.ld 111 0 j rfl (by decide) (h.lv.st (a := 11) (by decide))
theorem Rel.la12 (h : Rel k ad C R) (j : Nat) : mI C 12 j = mI R 42 j := h.dt.ld 112 0 j rfl (by decide) (h.lv.st (a := 12) (by decide))
theorem Rel.la13 (h : Rel k ad C R) (j : Nat) : mI C 13 j = mI R 43 j := h.dt.ld 113 0 j rfl (by decide) (h.lv.st (a := 13) (by decide))
theorem Rel.la18 (h : Rel k ad C R) (j : Nat) : mI C 18 j = mI R 79 j := h.dt.ld 118 0 j rfl (by decide) (h.lv.st (a := 18) (by decide))
theorem Rel.la31 (h : Rel k ad C R) (j : Nat) : mI C 31 j = mI R 91 j := h.dt.ld 131 0 j rfl (by decide) (h.lv.st (a := 31) (by decide))
theorem Rel.ll30_4 (h : Rel k ad C R) : mL C 30 4 = mL R 39 18 := h.dl.ld 130 0 4 rfl (by decide) (h.lv.st (a := 30) (by decide))
theorem Rel.ll30_5 (h : Rel k ad C R) : mL C 30 5 = mL R 39 19 := h.dl.ld 130 0 5 rfl (by decide) (h.lv.st (a := 30) (by decide))
theorem Rel.ll30_6 (h : Rel k ad C R) : mL C 30 6 = mL R 39 20 := h.dl.ld 130 0 6 rfl (by decide) (h.lv.st (a := 30) (by decide))
theorem Rel.lp0 (h : Rel k ad C R) {i : Nat} (hi : i < ix (mI R 39 9)) : mI C (ad 1 i) 0 = mI R 46 i := h.dt.ld 1 i 0 rfl (by decide) (h.lv.in (h.shp i hi).2.1 (by decide))
theorem Rel.lp4 (h : Rel k ad C R) {i : Nat} (hi : i < ix (mI R 39 9)) : mI C (ad 1 i) 4 = mI R 47 i := h.dt.ld 1 i 4 rfl (by decide) (h.lv.in (h.shp i hi).2.1 (by decide))
theorem Rel.lp5 (h : Rel k ad C R) {i : Nat} (hi : i < ix (mI R 39 9)) : mI C (ad 1 i) 5 = mI R 48 i := h.dt.ld 1 i 5 rfl (by decide) (h.lv.in (h.shp i hi).2.1 (by decide))
theorem Rel.lp6 (h : Rel k ad C R) {i : Nat} (hi : i < ix (mI R 39 9)) : mI C (ad 1 i) 6 = mI R 49 i := h.dt.ld 1 i 6 rfl (by decide) (h.lv.in (h.shp i hi).2.1 (by decide))
theorem Rel.lp7 (h : Rel k ad C R) {i : Nat} (hi : i < ix (mI R 39 9)) : mI C (ad 1 i) 7 = mI R 50 i := h.dt.ld 1 i 7 rfl (by decide) (h.lv.in (h.shp i hi).2.1 (by decide))
theorem Rel.lp8 (h : Rel k ad C R) {i : Nat} (hi : i < ix (mI R 39 9)) : mI C (ad 1 i) 8 = mI R 51 i := h.dt.ld 1 i 8 rfl (by decide) (h.lv.in (h.shp i hi).2.1 (by decide))
theorem Rel.llp3 (h : Rel k ad C R) {i : Nat} (hi : i < ix (mI R 39 9)) : mL C (ad 1 i) 3 = mL R 52 i := h.dl.ld 1 i 3 rfl (by decide) (h.lv.in (h.shp i hi).2.1 (by decide))
theorem cm2 (i j : Nat) (hj : j < 4) : cm 2 i j = (53, 4 * i + j) := by show (if j < 4 then (53, 4 * i + j) else (0, 0)) = _; rw [if_pos hj]
theorem cm3 (i j : Nat) (hj : j < 16) : cm 3 i j = (112, 16 * i + j) := by show (if j < 16 then (112, 16 * i + j) else (0, 0)) = _; rw [if_pos hj]
theorem Rel.lpaper (h : Rel k ad C R) {i j : Nat} (hi : i < ix (mI R 39 9)) (hj : j < 4) : mI C (ad 2 i) j = mI R 53 (4 * i + j) := h.dt.ld 2 i j (cm2 i j hj) (by decide) (h.lv.in (h.shp i hi).2.2.2.2.1 (by decide))
theorem Rel.lowes (h : Rel k ad C R) {i j : Nat} (hi : i < ix (mI R 39 9)) (hj : j < 16) : mI C (ad 3 i) j = mI R 112 (16 * i + j) := h.dt.ld 3 i j (cm3 i j hj) (by decide) (h.lv.in (h.shp i hi).2.2.2.2.2 (by decide))
theorem Rel.ls8 (h : Rel k ad C R) {i : Nat} (hi : i < ix (mI R 39 22)) : mI C (ad 4 i) 8 = mI R 54 i := h.dt.ld 4 i 8 rfl (by decide) (h.lv.in (h.shs i hi).2.1 (by decide))
theorem Rel.ls11 (h : Rel k ad C R) {i : Nat} (hi : i < ix (mI R 39 22)) : mI C (ad 4 i) 11 = mI R 56 i := h.dt.ld 4 i 11 rfl (by decide) (h.lv.in (h.shs i hi).2.1 (by decide))
theorem Rel.ls12 (h : Rel k ad C R) {i : Nat} (hi : i < ix (mI R 39 22)) : mI C (ad 4 i) 12 = mI R 58 i := h.dt.ld 4 i 12 rfl (by decide) (h.lv.in (h.shs i hi).2.1 (by decide))
theorem Rel.ls13 (h : Rel k ad C R) {i : Nat} (hi : i < ix (mI R 39 22)) : mI C (ad 4 i) 13 = mI R 57 i := h.dt.ld 4 i 13 rfl (by decide) (h.lv.in (h.shs i hi).2.1 (by decide))
theorem Rel.le0 (h : Rel k ad C R) {i : Nat} (hi : i < ix (mI R 39 37)) : mI C (ad 16 i) 0 = mI R 68 i := h.dt.ld 16 i 0 rfl (by decide) (h.lv.in (h.she i hi).2.1 (by decide))
theorem Rel.ln0 (h : Rel k ad C R) {i : Nat} (hi : i < ix (mI R 39 70)) : mI C (ad 10 i) 0 = mI R 83 i := h.dt.ld 10 i 0 rfl (by decide) (h.lv.in (h.shn.1 i hi).2.1 (by decide))
theorem Rel.ln4 (h : Rel k ad C R) {i : Nat} (hi : i < ix (mI R 39 70)) : mI C (ad 10 i) 4 = mI R 87 i := h.dt.ld 10 i 4 rfl (by decide) (h.lv.in (h.shn.1 i hi).2.1 (by decide))
theorem Rel.ln5 (h : Rel k ad C R) {i : Nat} (hi : i < ix (mI R 39 70)) : mI C (ad 10 i) 5 = mI R 88 i := h.dt.ld 10 i 5 rfl (by decide) (h.lv.in (h.shn.1 i hi).2.1 (by decide))
theorem Rel.ln6 (h : Rel k ad C R) {i : Nat} (hi : i < ix (mI R 39 70)) : mI C (ad 10 i) 6 = mI R 89 i := h.dt.ld 10 i 6 rfl (by decide) (h.lv.in (h.shn.1 i hi).2.1 (by decide))
theorem Rel.ln8 (h : Rel k ad C R) {i : Nat} (hi : i < ix (mI R 39 70)) : mI C (ad 10 i) 8 = mI R 84 i := h.dt.ld 10 i 8 rfl (by decide) (h.lv.in (h.shn.1 i hi).2.1 (by decide))
theorem Rel.ln9 (h : Rel k ad C R) {i : Nat} (hi : i < ix (mI R 39 70)) : mI C (ad 10 i) 9 = mI R 85 i := h.dt.ld 10 i 9 rfl (by decide) (h.lv.in (h.shn.1 i hi).2.1 (by decide))
theorem Rel.ln10 (h : Rel k ad C R) {i : Nat} (hi : i < ix (mI R 39 70)) : mI C (ad 10 i) 10 = mI R 86 i := h.dt.ld 10 i 10 rfl (by decide) (h.lv.in (h.shn.1 i hi).2.1 (by decide))
theorem Rel.lc0 (h : Rel k ad C R) {s c : Nat} (hs : s < ix (mI R 39 70)) (hc : c < ix (mI R 87 s)) : mI C (ad 14 (60 * s + c)) 0 = mI R 92 (60 * s + c) := h.dt.ld 14 (60 * s + c) 0 rfl (by decide) (h.lv.in ((h.shn.1 s hs).2.2.2.2.2.2.2.2.1 c hc).2 (by decide))
theorem Rel.lc1 (h : Rel k ad C R) {s c : Nat} (hs : s < ix (mI R 39 70)) (hc : c < ix (mI R 87 s)) : mI C (ad 14 (60 * s + c)) 1 = mI R 97 (60 * s + c) := h.dt.ld 14 (60 * s + c) 1 rfl (by decide) (h.lv.in ((h.shn.1 s hs).2.2.2.2.2.2.2.2.1 c hc).2 (by decide))
theorem Rel.lc2 (h : Rel k ad C R) {s c : Nat} (hs : s < ix (mI R 39 70)) (hc : c < ix (mI R 87 s)) : mI C (ad 14 (60 * s + c)) 2 = mI R 93 (60 * s + c) := h.dt.ld 14 (60 * s + c) 2 rfl (by decide) (h.lv.in ((h.shn.1 s hs).2.2.2.2.2.2.2.2.1 c hc).2 (by decide))
theorem Rel.lc3 (h : Rel k ad C R) {s c : Nat} (hs : s < ix (mI R 39 70)) (hc : c < ix (mI R 87 s)) : mI C (ad 14 (60 * s + c)) 3 = mI R 94 (60 * s + c) := h.dt.ld 14 (60 * s + c) 3 rfl (by decide) (h.lv.in ((h.shn.1 s hs).2.2.2.2.2.2.2.2.1 c hc).2 (by decide))
theorem Rel.lc4 (h : Rel k ad C R) {s c : Nat} (hs : s < ix (mI R 39 70)) (hc : c < ix (mI R 87 s)) : mI C (ad 14 (60 * s + c)) 4 = mI R 95 (60 * s + c) := h.dt.ld 14 (60 * s + c) 4 rfl (by decide) (h.lv.in ((h.shn.1 s hs).2.2.2.2.2.2.2.2.1 c hc).2 (by decide))
theorem Rel.lb0 (h : Rel k ad C R) {s c : Nat} (hs : s < ix (mI R 39 70)) (hc : c < ix (mI R 88 s)) : mI C (ad 15 (60 * s + c)) 0 = mI R 98 (60 * s + c) := h.dt.ld 15 (60 * s + c) 0 rfl (by decide) (h.lv.in ((h.shn.1 s hs).2.2.2.2.2.2.2.2.2 c hc).2 (by decide))
theorem Rel.lb1 (h : Rel k ad C R) {s c : Nat} (hs : s < ix (mI R 39 70)) (hc : c < ix (mI R 88 s)) : mI C (ad 15 (60 * s + c)) 1 = mI R 99 (60 * s + c) := h.dt.ld 15 (60 * s + c) 1 rfl (by decide) (h.lv.in ((h.shn.1 s hs).2.2.2.2.2.2.2.2.2 c hc).2 (by decide))
theorem Rel.lb2 (h : Rel k ad C R) {s c : Nat} (hs : s < ix (mI R 39 70)) (hc : c < ix (mI R 88 s)) : mI C (ad 15 (60 * s + c)) 2 = mI R 100 (60 * s + c) := h.dt.ld 15 (60 * s + c) 2 rfl (by decide) (h.lv.in ((h.shn.1 s hs).2.2.2.2.2.2.2.2.2 c hc).2 (by decide))
theorem Rel.lb3 (h : Rel k ad C R) {s c : Nat} (hs : s < ix (mI R 39 70)) (hc : c < ix (mI R 88 s)) : mI C (ad 15 (60 * s + c)) 3 = mI R 101 (60 * s + c) := h.dt.ld 15 (60 * s + c) 3 rfl (by decide) (h.lv.in ((h.shn.1 s hs).2.2.2.2.2.2.2.2.2 c hc).2 (by decide))
theorem Rel.lb4 (h : Rel k ad C R) {s c : Nat} (hs : s < ix (mI R 39 70)) (hc : c < ix (mI R 88 s)) : mI C (ad 15 (60 * s + c)) 4 = mI R 102 (60 * s + c) := h.dt.ld 15 (60 * s + c) 4 rfl (by decide) (h.lv.in ((h.shn.1 s hs).2.2.2.2.2.2.2.2.2 c hc).2 (by decide))
theorem Rel.lb12 (h : Rel k ad C R) {s c : Nat} (hs : s < ix (mI R 39 70)) (hc : c < ix (mI R 88 s)) : mI C (ad 15 (60 * s + c)) 12 = mI R 103 (60 * s + c) := h.dt.ld 15 (60 * s + c) 12 rfl (by decide) (h.lv.in ((h.shn.1 s hs).2.2.2.2.2.2.2.2.2 c hc).2 (by decide))
theorem Rel.lb13 (h : Rel k ad C R) {s c : Nat} (hs : s < ix (mI R 39 70)) (hc : c < ix (mI R 88 s)) : mI C (ad 15 (60 * s + c)) 13 = mI R 104 (60 * s + c) := h.dt.ld 15 (60 * s + c) 13 rfl (by decide) (h.lv.in ((h.shn.1 s hs).2.2.2.2.2.2.2.2.2 c hc).2 (by decide))
theorem Rel.lb5 (h : Rel k ad C R) {s c : Nat} (hs : s < ix (mI R 39 70)) (hc : c < ix (mI R 88 s)) : mI C (ad 15 (60 * s + c)) 5 = mI R 107 (2 * (60 * s + c)) := h.dt.ld 15 (60 * s + c) 5 rfl (by decide) (h.lv.in ((h.shn.1 s hs).2.2.2.2.2.2.2.2.2 c hc).2 (by decide))
theorem Rel.lb7 (h : Rel k ad C R) {s c : Nat} (hs : s < ix (mI R 39 70)) (hc : c < ix (mI R 88 s)) : mI C (ad 15 (60 * s + c)) 7 = mI R 107 (2 * (60 * s + c) + 1) := h.dt.ld 15 (60 * s + c) 7 rfl (by decide) (h.lv.in ((h.shn.1 s hs).2.2.2.2.2.2.2.2.2 c hc).2 (by decide))
theorem Rel.lb6 (h : Rel k ad C R) {s c : Nat} (hs : s < ix (mI R 39 70)) (hc : c < ix (mI R 88 s)) : mI C (ad 15 (60 * s + c)) 6 = mI R 108 (2 * (60 * s + c)) := h.dt.ld 15 (60 * s + c) 6 rfl (by decide) (h.lv.in ((h.shn.1 s hs).2.2.2.2.2.2.2.2.2 c hc).2 (by decide))
theorem Rel.lb8 (h : Rel k ad C R) {s c : Nat} (hs : s < ix (mI R 39 70)) (hc : c < ix (mI R 88 s)) : mI C (ad 15 (60 * s + c)) 8 = mI R 108 (2 * (60 * s + c) + 1) := h.dt.ld 15 (60 * s + c) 8 rfl (by decide) (h.lv.in ((h.shn.1 s hs).2.2.2.2.2.2.2.2.2 c hc).2 (by decide))
/-! rows of the class that a store leaves alone -/
theorem row_s (hA : Ad ad) {a j : Nat} {v : Int32} (ha : a < 116) (c i : Nat) : mI (sI C a j v) (ad c i) = mI C (ad c i) := by
  funext x
  rw [mI_sI, if_neg (fun q => by have := hA.1 c i; omega)]
theorem row_d (hA : Ad ad) {c' i' j : Nat} {v : Int32} (c i : Nat) (hc : c ≠ c') : mI (sI C (ad c' i') j v) (ad c i) = mI C (ad c i) := by
  funext x
  rw [mI_sI, if_neg (fun q => hc (hA.2 _ _ _ _ q.1).1)]
theorem cel_f {c' i' j : Nat} {v : Int32} (c i x : Nat) (hx : x ≠ j) : mI (sI C (ad c' i') j v) (ad c i) x = mI C (ad c i) x := by
  rw [mI_sI, if_neg (fun q => hx q.2)]
/-! congruences -/
variable {C' R' : Mm}
theorem Qs.cg (h : Qs ad C R) (e1 : ∀ s j, (j = 2 ∨ j = 6 ∨ j = 7 ∨ j = 9 ∨ j = 10) → mI C' (ad 4 s) j = mI C (ad 4 s) j) (e2 : ∀ c s, 5 ≤ c → c ≤ 9 → mI C' (ad c s) = mI C (ad c s)) (r22 : mI R' 39 22 = mI R 39 22) (r23 : mI R' 39 23 = mI R 39 23) (r24 : mI R' 39 24 = mI R 39 24) (r53 : mI R' 53 = mI R 53) (r59 : mI R' 59 = mI R 59) (r60 : mI R' 60 = mI R 60) (r61 : mI R' 61 = mI R 61) (r62 : mI R' 62 = mI R 62) (r63 : mI R' 63 = mI R 63) (r64 : mI R' 64 = mI R 64) (r65 : mI R' 65 = mI R 65) : Qs ad C' R' := by
  intro s hs
  have q := h s (by rw [← r22]; exact hs)
  unfold sumP sumW at q ⊢
  rw [r23, r24, r53, r59, r60, r61, r62, r63, r64, r65, e1 s 2 (by decide), e1 s 6 (by decide), e1 s 7 (by decide), e1 s 9 (by decide), e1 s 10 (by decide), e2 5 s (by decide) (by decide), e2 6 s (by decide) (by decide), e2 7 s (by decide) (by decide), e2 8 s (by decide) (by decide), e2 9 s (by decide) (by decide)]
  exact q
theorem Eds.cg (h : Eds ad C R) (hK : mK C' = mK C) (e2 : ∀ c s, 17 ≤ c → c ≤ 20 → mI C' (ad c s) = mI C (ad c s)) (r37 : mI R' 39 37 = mI R 39 37) (r66 : mI R' 66 = mI R 66) (r67 : mI R' 67 = mI R 67) (r69 : mI R' 69 = mI R 69) (r70 : mI R' 70 = mI R 70) (r71 : mI R' 71 = mI R 71) (r72 : mI R' 72 = mI R 72) (r73 : mI R' 73 = mI R 73) (r74 : mI R' 74 = mI R 74) (r75 : mI R' 75 = mI R 75) (r76 : mI R' 76 = mI R 76) (r77 : mI R' 77 = mI R 77) : Eds ad C' R' := by
  intro t ht s hs
  have q := h t (by rw [← r37]; exact ht) s (by rw [← r67]; exact hs)
  unfold ceL Pf at q ⊢
  rw [hK, r66, r69, r70, r71, r72, r73, r74, r75, r76, r77, e2 17 t (by decide) (by decide), e2 18 t (by decide) (by decide), e2 19 t (by decide) (by decide), e2 20 t (by decide) (by decide)]
  exact q
theorem Son.cg (h : Son ad C R) (e1 : ∀ s, mI C' (ad 10 s) 7 = mI C (ad 10 s) 7) (e2 : ∀ s, mI C' (ad 12 s) = mI C (ad 12 s)) (r70 : mI R' 39 70 = mI R 39 70) (r72 : mI R' 39 72 = mI R 39 72) (r73 : mI R' 39 73 = mI R 39 73) (r109 : mI R' 109 = mI R 109) : Son ad C' R' := by
  unfold Son at h ⊢
  simp only [e1, e2, r70, r72, r73, r109]
  exact h
theorem Den.cg (h : Den ad C R) (e1 : ∀ x j, (j = 9 ∨ j = 10 ∨ j = 11) → mI C' (ad 15 x) j = mI C (ad 15 x) j) (r70 : mI R' 39 70 = mI R 39 70) (r88 : mI R' 88 = mI R 88) (r105 : mI R' 105 = mI R 105) (r106 : mI R' 106 = mI R 106) : Den ad C' R' := by
  intro s b hs hb
  rw [r105, r106, e1 _ 9 (by decide), e1 _ 10 (by decide), e1 _ 11 (by decide)]
  exact h s b (by rw [← r70]; exact hs) (by rw [← r88]; exact hb)
theorem Evs.cg (h : Evs ad C R) (e1 : ∀ x, mI C' (ad 14 x) 5 = mI C (ad 14 x) 5) (r70 : mI R' 39 70 = mI R 39 70) (r73 : mI R' 39 73 = mI R 39 73) (r87 : mI R' 87 = mI R 87) (r90 : mI R' 90 = mI R 90) (r96 : mI R' 96 = mI R 96) (r109 : mI R' 109 = mI R 109) : Evs ad C' R' := by
  unfold Evs at h ⊢
  simp only [e1, r70, r73, r87, r90, r96, r109]
  exact h
theorem Ipe.up (h : Ipe k R) (hk : k < 512) : Ipe (k + 1) R := by
  obtain ⟨h1, h2, h3, h4, h5, h6⟩ := h
  refine ⟨fun i hi => ?_, h2, h3, h4, h5, by omega⟩
  obtain ⟨a, b, c, d, e⟩ := h1 i hi
  exact ⟨a, b, c, by omega, by omega⟩
theorem Lv.up (h : Lv k C) : Lv (k + 1) C := ⟨h.1, h.2.1, h.2.2.1, by have := h.2.2.2.1; omega, by have := h.2.2.2.2; omega⟩
theorem Rel.up (h : Rel k ad C R) (hk : k < 512) : Rel (k + 1) ad C R := Rel.mk h.sc h.sr h.hA h.lv.up h.dt h.dl h.isc h.ila (h.ipe.up hk) h.shp h.shs h.ist h.qs h.she h.ied h.eds h.shn h.ise h.ison h.son h.den h.evs
/-! what a call must show -/
def Sim {ρ : Type} (k : Nat) (o p : Option (ρ × Mm)) : Prop := ∃ r C' R' ad', o = some (r, C') ∧ p = some (r, R') ∧ Rel (k + 1) ad' C' R'
theorem Sim.same {ρ : Type} {o p : Option (ρ × Mm)} {r : ρ} (h : Rel k ad C R) (hk : k < 512) (e1 : o = some (r, C)) (e2 : p = some (r, R)) : Sim k o p := ⟨r, C, R, ad, e1, e2, h.up hk⟩
theorem ev_within (M : Mm) (v a b : Int32) : Hall_isWithin M v a b = some (if a ≤ v ∧ v ≤ b then 1 else 0, M) := by
  unfold Hall_isWithin
  by_cases h1 : v < a
  · rw [if_pos h1, if_neg (by grind)]
  · by_cases h2 : b < v
    · rw [if_neg h1, if_pos h2, if_neg (by grind)]
    · rw [if_neg h1, if_neg h2, if_pos (by grind)]
theorem ev_in (M : Mm) (v a b : Int32) : Mod_in M v a b = some (if a ≤ v ∧ v ≤ b then 1 else 0, M) := by
  unfold Mod_in
  by_cases h1 : v < a
  · rw [if_pos h1, if_neg (by grind)]
  · by_cases h2 : b < v
    · rw [if_neg h1, if_pos h2, if_neg (by grind)]
    · rw [if_neg h1, if_neg h2, if_pos (by grind)]
theorem i10 : ((1 : Int32) = 0) = False := eq_false (by decide)
theorem i00 : ((0 : Int32) = 0) = True := eq_true rfl
theorem ix_lo {i : Int32} {n : Nat} {m : Int32} (h0 : 0 ≤ i) (h1 : i < m) (hm : m = Int32.ofNat n) (hn : n < 2147483648) : ix i < n := by
  subst hm
  exact (ix_lt i n h0 hn).mpr h1
theorem ix_mo {i j : Int32} (h0 : 0 ≤ i) (h1 : i < j) : ix i < ix j := by grind [ix_t]
end R1
