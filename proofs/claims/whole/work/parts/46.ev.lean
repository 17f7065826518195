section M1
variable {k : Nat} {ad : Nat → Nat → Nat} {C R : Mm}
theorem kO_sI {M : Mm} {a j : Nat} {v : Int32} (b c n : Nat) : kO (sI M a j v) b c n = kO M b c n := rfl
theorem kA_sI {M : Mm} {a j : Nat} {v : Int32} (b c : Nat) (i : Int32) : kA (sI M a j v) b c i = kA M b c i := rfl
theorem kT_sI {M : Mm} {a j : Nat} {v : Int32} (b c : Nat) : kT (sI M a j v) b c = kT M b c := rfl
theorem ln_sI {M : Mm} {a j : Nat} {v : Int32} (b : Nat) : ln (sI M a j v) b = ln M b := rfl
theorem kO_sL {M : Mm} {a j : Nat} {v : Int64} (b c n : Nat) : kO (sL M a j v) b c n = kO M b c n := rfl
theorem kA_sL {M : Mm} {a j : Nat} {v : Int64} (b c : Nat) (i : Int32) : kA (sL M a j v) b c i = kA M b c i := rfl
theorem kT_sL {M : Mm} {a j : Nat} {v : Int64} (b c : Nat) : kT (sL M a j v) b c = kT M b c := rfl
theorem ln_sL {M : Mm} {a j : Nat} {v : Int64} (b : Nat) : ln (sL M a j v) b = ln M b := rfl
theorem Rel.o8 (h : Rel k ad C R) : kO C 8 11 18 = true := kO_t h.sc.k8
theorem Rel.o9 (h : Rel k ad C R) : kO C 9 4 7 = true := kO_t h.sc.k9
theorem Rel.o19 (h : Rel k ad C R) : kO C 19 5 5 = true := kO_t h.sc.k19
theorem Rel.o20 (h : Rel k ad C R) : kO C 20 8 11 = true := kO_t h.sc.k20
theorem Rel.o30 (h : Rel k ad C R) : kO C 30 3 7 = true := kO_t h.sc.k30
theorem Rel.o33 (h : Rel k ad C R) : kO C 33 7 5 = true := kO_t h.sc.k33
theorem Rel.o39 (h : Rel k ad C R) : kO R 39 12 107 = true := kO_t h.sr.k39
theorem kZ0 : kZ 0 = true := rfl
theorem kZ1 : kZ 1 = true := rfl
theorem ev_has (h : Rel k ad C R) (t : Int32) : Land_has C 9 t = some (if 0 ≤ t ∧ t < mI R 39 2 then 1 else 0, C) := by
  unfold Land_has
  rw [h.o9, ck_t, h.l9_6]
  by_cases h1 : t < 0
  · rw [if_pos h1, if_neg (by grind)]
  · by_cases h2 : mI R 39 2 ≤ t
    · rw [if_neg h1, if_pos h2, if_neg (by grind)]
    · rw [if_neg h1, if_neg h2, if_pos (by grind)]
theorem ev_isT (h : Rel k ad C R) (t : Int32) : Mod_isTown R 39 t = some (if 0 ≤ t ∧ t < mI R 39 2 then 1 else 0, R) := by
  unfold Mod_isTown
  rw [h.o39, ck_t]
  by_cases h1 : t < 0
  · rw [if_pos h1, if_neg (by grind)]
  · by_cases h2 : mI R 39 2 ≤ t
    · rw [if_neg h1, if_pos h2, if_neg (by grind)]
    · rw [if_neg h1, if_neg h2, if_pos (by grind)]
theorem ev_isP (h : Rel k ad C R) (t : Int32) : Hall_isPerson C 8 t = some (if 0 ≤ t ∧ t < mI R 39 9 then 1 else 0, C) := by
  unfold Hall_isPerson
  rw [h.o8, ck_t, h.l8_2]
  by_cases h1 : t < 0
  · rw [if_pos h1, if_neg (by grind)]
  · by_cases h2 : mI R 39 9 ≤ t
    · rw [if_neg h1, if_pos h2, if_neg (by grind)]
    · rw [if_neg h1, if_neg h2, if_pos (by grind)]
theorem ev_mP (h : Rel k ad C R) (t : Int32) : Mod_isPerson R 39 t = some (if 0 ≤ t ∧ t < mI R 39 9 then 1 else 0, R) := by
  unfold Mod_isPerson
  rw [h.o39, ck_t]
  by_cases h1 : t < 0
  · rw [if_pos h1, if_neg (by grind)]
  · by_cases h2 : mI R 39 9 ≤ t
    · rw [if_neg h1, if_pos h2, if_neg (by grind)]
    · rw [if_neg h1, if_neg h2, if_pos (by grind)]
theorem ev_isS (h : Rel k ad C R) (t : Int32) : Hall_isStore C 8 t = some (if 0 ≤ t ∧ t < mI R 39 22 then 1 else 0, C) := by
  unfold Hall_isStore
  rw [h.o8, ck_t, h.l8_4]
  by_cases h1 : t < 0
  · rw [if_pos h1, if_neg (by grind)]
  · by_cases h2 : mI R 39 22 ≤ t
    · rw [if_neg h1, if_pos h2, if_neg (by grind)]
    · rw [if_neg h1, if_neg h2, if_pos (by grind)]
theorem ev_mS (h : Rel k ad C R) (t : Int32) : Mod_isStore R 39 t = some (if 0 ≤ t ∧ t < mI R 39 22 then 1 else 0, R) := by
  unfold Mod_isStore
  rw [h.o39, ck_t]
  by_cases h1 : t < 0
  · rw [if_pos h1, if_neg (by grind)]
  · by_cases h2 : mI R 39 22 ≤ t
    · rw [if_neg h1, if_pos h2, if_neg (by grind)]
    · rw [if_neg h1, if_neg h2, if_pos (by grind)]
theorem ev_isN (h : Rel k ad C R) (t : Int32) : Hall_isSession C 8 t = some (if 0 ≤ t ∧ t < mI R 39 70 then 1 else 0, C) := by
  unfold Hall_isSession
  rw [h.o8, ck_t, h.l8_13]
  by_cases h1 : t < 0
  · rw [if_pos h1, if_neg (by grind)]
  · by_cases h2 : mI R 39 70 ≤ t
    · rw [if_neg h1, if_pos h2, if_neg (by grind)]
    · rw [if_neg h1, if_neg h2, if_pos (by grind)]
/-- the groups that read the class's own rows -/
def G5 (ad : Nat → Nat → Nat) (C R : Mm) : Prop := Qs ad C R ∧ Eds ad C R ∧ Son ad C R ∧ Den ad C R ∧ Evs ad C R
theorem Rel.g5 (h : Rel k ad C R) : G5 ad C R := ⟨h.qs, h.eds, h.son, h.den, h.evs⟩
theorem G5.s (hA : Ad ad) (h : G5 ad C R) {a j : Nat} {v : Int32} (ha : a < 116) : G5 ad (sI C a j v) R :=
  ⟨h.1.cg (fun s j _ => congrFun (row_s hA ha 4 s) j) (fun c s _ _ => row_s hA ha c s) rfl rfl rfl rfl rfl rfl rfl rfl rfl rfl rfl,
   h.2.1.cg rfl (fun c s _ _ => row_s hA ha c s) rfl rfl rfl rfl rfl rfl rfl rfl rfl rfl rfl rfl,
   h.2.2.1.cg (fun s => congrFun (row_s hA ha 10 s) 7) (fun s => row_s hA ha 12 s) rfl rfl rfl rfl,
   h.2.2.2.1.cg (fun s j _ => congrFun (row_s hA ha 15 s) j) rfl rfl rfl rfl,
   h.2.2.2.2.cg (fun s => congrFun (row_s hA ha 14 s) 5) rfl rfl rfl rfl rfl rfl⟩
theorem G5.p (hA : Ad ad) (h : G5 ad C R) {c' i j : Nat} {v : Int32} (hc : c' < 4) : G5 ad (sI C (ad c' i) j v) R :=
  ⟨h.1.cg (fun s j _ => congrFun (row_d hA 4 s (by omega)) j) (fun c s _ _ => row_d hA c s (by omega)) rfl rfl rfl rfl rfl rfl rfl rfl rfl rfl rfl,
   h.2.1.cg rfl (fun c s _ _ => row_d hA c s (by omega)) rfl rfl rfl rfl rfl rfl rfl rfl rfl rfl rfl rfl,
   h.2.2.1.cg (fun s => congrFun (row_d hA 10 s (by omega)) 7) (fun s => row_d hA 12 s (by omega)) rfl rfl rfl rfl,
   h.2.2.2.1.cg (fun s j _ => congrFun (row_d hA 15 s (by omega)) j) rfl rfl rfl rfl,
   h.2.2.2.2.cg (fun s => congrFun (row_d hA 14 s (by omega)) 5) rfl rfl rfl rfl rfl rfl⟩
theorem Rel.mk5 (sc : SC C) (sr : SR R) (hA : Ad ad) (lv : Lv k C) (dt : Dt ad C R) (dl : DL ad C R) (isc : Isc R) (ila : Ila R) (ipe : Ipe k R) (shp : ShP ad C R) (shs : ShS ad C R) (ist : Ist R) (she : ShE ad C R) (ied : Ied R) (shn : ShN ad C R) (ise : Ise R) (ison : Ison R) (g : G5 ad C R) : Rel k ad C R := Rel.mk sc sr hA lv dt dl isc ila ipe shp shs ist g.1 she ied g.2.1 shn ise ison g.2.2.1 g.2.2.2.1 g.2.2.2.2
theorem sim_wind (h : Rel k ad C R) (hk : k < 512) (a : Int32) : Sim k (Hall_wind C 8 a) (Mod_wind R 39 a) := by
  unfold Hall_wind Mod_wind
  simp only [ev_within, ev_in, bd_s, h.o8, h.o39, ck_t]
  by_cases h1 : 0 ≤ a ∧ a ≤ 9
  · simp only [if_pos h1, i10, if_false]
    refine ⟨_, _, _, ad, rfl, rfl, ?_⟩
    exact Rel.mk5 h.sc h.sr h.hA h.lv.up (h.dt.st h.hA 108 0 17 rfl (by decide) (h.lv.st (a := 8) (by decide))) h.dl ⟨h.isc.1, h1, h.isc.2.2⟩ h.ila (h.ipe.up hk) h.shp h.shs h.ist h.she h.ied h.shn h.ise h.ison (G5.s h.hA h.g5 (by decide))
  · simp only [if_neg h1, if_true]
    exact ⟨_, _, _, ad, rfl, rfl, h.up hk⟩
end M1
