/-! who fails: what each has and owes -/
section W1
variable {k : Nat} {ad : Nat → Nat → Nat} {C R : Mm}
def sumL (f : Nat → Int64) : Nat → Int64
  | 0 => 0
  | n + 1 => sumL f n + f n
def cP (R : Mm) (p : Nat) : Int64 := if mL R 52 p ≤ 0 then 0 else mL R 52 p
def cM (R : Mm) (p : Nat) : Int64 := if 0 ≤ mL R 52 p then 0 else -(mL R 52 p)
def stT (R : Mm) (p s : Nat) : Int64 := Int32.toInt64 (mI R 53 (4 * p + s)) * Int32.toInt64 (lcl R) * Int32.toInt64 (shR R s) / 100
def ownR (R : Mm) (p : Nat) : Int64 := cP R p + sumL (stT R p) (ix (mI R 39 22))
def owT (R : Mm) (p : Nat) (rd : Int32) (q : Nat) : Int64 := if mI R 113 q ≤ 0 then Int32.toInt64 (mI R 112 (16 * q + p)) else if rd ≤ mI R 113 q then Int32.toInt64 (mI R 112 (16 * q + p)) else Int32.toInt64 (mI R 112 (16 * q + p)) * Int32.toInt64 (mI R 114 q) / 100
def asR (R : Mm) (p : Nat) (rd : Int32) : Int64 := ownR R p + sumL (owT R p rd) (ix (mI R 39 9))
def dbR (R : Mm) (p : Nat) : Int64 := cM R p + sumL (fun q => Int32.toInt64 (mI R 112 (16 * p + q))) (ix (mI R 39 9))
/-- the class's rows of a reckoning are the reference's -/
def TRf (C R : Mm) : Prop := ∀ i, i < ix (mI R 39 9) → mI C 34 i = mI R 113 i ∧ mI C 35 i = mI R 114 i
theorem x16 {i j : Nat} (hi : i < 16) (hj : j < 16) : 16 * Int32.ofNat i + Int32.ofNat j = Int32.ofNat (16 * i + j) := by
  rw [show (16 : Int32) = Int32.ofNat 16 from rfl, of_mul, of_add]
theorem x4 {i j : Nat} (hi : i < 16) (hj : j < 4) : 4 * Int32.ofNat i + Int32.ofNat j = Int32.ofNat (4 * i + j) := by
  rw [show (4 : Int32) = Int32.ofNat 4 from rfl, of_mul, of_add]
theorem lp_as2 (h : Rel k ad C R) {p : Nat} (hp : p < 16) (rd : Int32) (a : Int64) : ∀ (d m q : Nat), q + d = ix (mI R 39 9) → d < m → Mod_assets_L98 m 39 (Int32.ofNat p) rd (a + sumL (owT R p rd) q) (Int32.ofNat q) R = some (a + sumL (owT R p rd) (ix (mI R 39 9)), R) := by
  have h16 := p16 h
  have hP := h.isc.persons
  intro d
  induction d with
  | zero =>
    intro m q hq hm
    obtain ⟨m, rfl⟩ : ∃ x, m = x + 1 := ⟨m - 1, by omega⟩
    have e : mI R 39 9 ≤ Int32.ofNat q := by grind [ix_t, of_t]
    show Mod_assets_B98 _ _ _ _ _ _ _ = _
    unfold Mod_assets_B98
    rw [h.o39, ck_t, if_pos e, show q = ix (mI R 39 9) by omega]
  | succ d ih =>
    intro m q hq hm
    obtain ⟨m, rfl⟩ : ∃ x, m = x + 1 := ⟨m - 1, by omega⟩
    have e : ¬ mI R 39 9 ≤ Int32.ofNat q := by grind [ix_t, of_t]
    have e0 : (0 : Int32) ≤ Int32.ofNat q := of_nn q (by omega)
    have e1 : ix (Int32.ofNat q) = q := ix_of q (by omega)
    have y0 : (0 : Int32) ≤ Int32.ofNat (16 * q + p) := of_nn _ (by omega)
    have y1 : ix (Int32.ofNat (16 * q + p)) = 16 * q + p := ix_of _ (by omega)
    have z := ih m (q + 1) (by omega) (by omega)
    have es : sumL (owT R p rd) (q + 1) = sumL (owT R p rd) q + owT R p rd q := rfl
    rw [es, ← Int64.add_assoc] at z
    show Mod_assets_B98 _ _ _ _ _ _ _ = _
    unfold Mod_assets_B98 Mod_assets_J162 Mod_assets_J164
    simp only [h.o39, ck_t, if_neg e, h.sr.r39_103, h.sr.r39_104, h.sr.r39_105, nn_s, x16 (show q < 16 by omega) hp, kA_t h.sr.k112 y0 (show ix (Int32.ofNat (16 * q + p)) < 256 by omega), kA_t h.sr.k113 e0 (show ix (Int32.ofNat q) < 16 by omega), kA_t h.sr.k114 e0 (show ix (Int32.ofNat q) < 16 by omega), e1, y1, of_s1 q (by omega)]
    unfold owT at z ⊢
    by_cases c1 : mI R 113 q ≤ 0
    · rw [if_pos c1] at z ⊢
      exact z
    · rw [if_neg c1] at z ⊢
      by_cases c2 : rd ≤ mI R 113 q
      · rw [if_pos c2] at z ⊢
        exact z
      · rw [if_neg c2] at z ⊢
        exact z
theorem lp_as1 (h : Rel k ad C R) {p : Nat} (hp : p < ix (mI R 39 9)) (rd : Int32) (a : Int64) : ∀ (d m s : Nat), s + d = ix (mI R 39 22) → d < m → Mod_assets_L50 m 39 (Int32.ofNat p) rd (a + sumL (stT R p) s) (Int32.toInt64 (lcl R)) (Int32.ofNat s) R = some (a + sumL (stT R p) (ix (mI R 39 22)) + sumL (owT R p rd) (ix (mI R 39 9)), R) := by
  have h16 := p16 h
  have h4 := sto4 h
  have hS := h.isc.stores
  intro d
  induction d with
  | zero =>
    intro m s hs hm
    obtain ⟨m, rfl⟩ : ∃ x, m = x + 1 := ⟨m - 1, by omega⟩
    have e : mI R 39 22 ≤ Int32.ofNat s := by grind [ix_t, of_t]
    show Mod_assets_B50 _ _ _ _ _ _ _ _ = _
    unfold Mod_assets_B50
    rw [h.o39, ck_t, if_pos e, show s = ix (mI R 39 22) by omega]
    have z := lp_as2 h (show p < 16 by omega) rd (a + sumL (stT R p) (ix (mI R 39 22))) (ix (mI R 39 9)) fu 0 (by omega) (fu_g (by omega))
    have e0 : a + sumL (stT R p) (ix (mI R 39 22)) + sumL (owT R p rd) 0 = a + sumL (stT R p) (ix (mI R 39 22)) := Int64.add_zero _
    rw [e0] at z
    exact z
  | succ d ih =>
    intro m s hs hm
    obtain ⟨m, rfl⟩ : ∃ x, m = x + 1 := ⟨m - 1, by omega⟩
    have e : ¬ mI R 39 22 ≤ Int32.ofNat s := by grind [ix_t, of_t]
    have y0 : (0 : Int32) ≤ Int32.ofNat (4 * p + s) := of_nn _ (by omega)
    have y1 : ix (Int32.ofNat (4 * p + s)) = 4 * p + s := ix_of _ (by omega)
    have z := ih m (s + 1) (by omega) (by omega)
    have es : sumL (stT R p) (s + 1) = sumL (stT R p) s + stT R p s := rfl
    rw [es, ← Int64.add_assoc] at z
    show Mod_assets_B50 _ _ _ _ _ _ _ _ = _
    unfold Mod_assets_B50
    simp only [h.o39, ck_t, if_neg e, h.sr.r39_17, nn_s, x4 (show p < 16 by omega) (show s < 4 by omega), kA_t h.sr.k53 y0 (show ix (Int32.ofNat (4 * p + s)) < 64 by omega), ev_mshare h (show s < 4 by omega), bd_s, y1, of_s1 s (by omega)]
    exact z
theorem ev_assets (h : Rel k ad C R) {p : Nat} (hp : p < ix (mI R 39 9)) (rd : Int32) : Mod_assets R 39 (Int32.ofNat p) rd = some (asR R p rd, R) := by
  have h16 := p16 h
  have h4 := sto4 h
  have hc := h.isc.closes
  have e0 : (0 : Int32) ≤ Int32.ofNat p := of_nn p (by omega)
  have e1 : ix (Int32.ofNat p) = p := ix_of p (by omega)
  have key : ∀ a : Int64, Mod_assets_J21 39 (Int32.ofNat p) rd a R = some (a + sumL (stT R p) (ix (mI R 39 22)) + sumL (owT R p rd) (ix (mI R 39 9)), R) := by
    intro a
    have z := lp_as1 h hp rd a (ix (mI R 39 22)) fu 0 (by omega) (fu_g (by omega))
    have ez : a + sumL (stT R p) 0 = a := Int64.add_zero _
    rw [ez] at z
    unfold Mod_assets_J21 Mod_assets_J45
    rw [h.o39, ck_t]
    unfold lcl at z
    by_cases c : mI R 39 71 = 0
    · rw [if_pos c] at z ⊢
      exact z
    · have h2 : 0 ≤ mI R 39 71 - 1 := by grind
      rw [if_neg c] at z ⊢
      rw [h.sr.r39_82, nn_s, kA_t h.sr.k91 h2 (ix_b 24 h2 (show mI R 39 71 - 1 < 24 by grind) (by decide) (by decide)), ck_t]
      exact z
  unfold Mod_assets asR ownR cP
  simp only [h.o39, ck_t, h.sr.r39_16, nn_s, kA_t h.sr.k52 e0 (show ix (Int32.ofNat p) < 16 by omega), e1, key]
  split <;> rfl
theorem lp_db (h : Rel k ad C R) {p : Nat} (hp : p < 16) (a : Int64) : ∀ (d m q : Nat), q + d = ix (mI R 39 9) → d < m → Mod_debts_L26 m 39 (Int32.ofNat p) (a + sumL (fun q => Int32.toInt64 (mI R 112 (16 * p + q))) q) (Int32.ofNat q) R = some (a + sumL (fun q => Int32.toInt64 (mI R 112 (16 * p + q))) (ix (mI R 39 9)), R) := by
  have h16 := p16 h
  have hP := h.isc.persons
  intro d
  induction d with
  | zero =>
    intro m q hq hm
    obtain ⟨m, rfl⟩ : ∃ x, m = x + 1 := ⟨m - 1, by omega⟩
    have e : mI R 39 9 ≤ Int32.ofNat q := by grind [ix_t, of_t]
    show Mod_debts_B26 _ _ _ _ _ _ = _
    unfold Mod_debts_B26
    rw [h.o39, ck_t, if_pos e, show q = ix (mI R 39 9) by omega]
  | succ d ih =>
    intro m q hq hm
    obtain ⟨m, rfl⟩ : ∃ x, m = x + 1 := ⟨m - 1, by omega⟩
    have e : ¬ mI R 39 9 ≤ Int32.ofNat q := by grind [ix_t, of_t]
    have y0 : (0 : Int32) ≤ Int32.ofNat (16 * p + q) := of_nn _ (by omega)
    have y1 : ix (Int32.ofNat (16 * p + q)) = 16 * p + q := ix_of _ (by omega)
    have z := ih m (q + 1) (by omega) (by omega)
    have es : sumL (fun q => Int32.toInt64 (mI R 112 (16 * p + q))) (q + 1) = sumL (fun q => Int32.toInt64 (mI R 112 (16 * p + q))) q + Int32.toInt64 (mI R 112 (16 * p + q)) := rfl
    rw [es, ← Int64.add_assoc] at z
    show Mod_debts_B26 _ _ _ _ _ _ = _
    unfold Mod_debts_B26
    simp only [h.o39, ck_t, if_neg e, h.sr.r39_103, nn_s, x16 hp (show q < 16 by omega), kA_t h.sr.k112 y0 (show ix (Int32.ofNat (16 * p + q)) < 256 by omega), y1, of_s1 q (by omega)]
    exact z
theorem ev_debts (h : Rel k ad C R) {p : Nat} (hp : p < ix (mI R 39 9)) : Mod_debts R 39 (Int32.ofNat p) = some (dbR R p, R) := by
  have h16 := p16 h
  have e0 : (0 : Int32) ≤ Int32.ofNat p := of_nn p (by omega)
  have e1 : ix (Int32.ofNat p) = p := ix_of p (by omega)
  have key : ∀ a : Int64, Mod_debts_L26 fu 39 (Int32.ofNat p) a 0 R = some (a + sumL (fun q => Int32.toInt64 (mI R 112 (16 * p + q))) (ix (mI R 39 9)), R) := by
    intro a
    have z := lp_db h (show p < 16 by omega) a (ix (mI R 39 9)) fu 0 (by omega) (fu_g (by omega))
    have ez : a + sumL (fun q => Int32.toInt64 (mI R 112 (16 * p + q))) 0 = a := Int64.add_zero _
    rw [ez] at z
    exact z
  unfold Mod_debts Mod_debts_J22 dbR cM
  simp only [h.o39, ck_t, h.sr.r39_16, nn_s, kA_t h.sr.k52 e0 (show ix (Int32.ofNat p) < 16 by omega), e1, key]
  split <;> rfl
/-! the class's side -/
theorem lp_owed (h : Rel k ad C R) (ht : TRf C R) {p : Nat} (hp : p < 16) (rd : Int32) : ∀ (d m q : Nat), q + d = ix (mI R 39 9) → d < m → Ruin_owedTo_L6 m 33 (Int32.ofNat p) 16 (mI R 39 9) rd (sumL (owT R p rd) q) (Int32.ofNat q) C = some (sumL (owT R p rd) (ix (mI R 39 9)), C) := by
  have h16 := p16 h
  have hP := h.isc.persons
  have p0 : (0 : Int32) ≤ Int32.ofNat p := of_nn p (by omega)
  have p1 : ix (Int32.ofNat p) = p := ix_of p (by omega)
  intro d
  induction d with
  | zero =>
    intro m q hq hm
    obtain ⟨m, rfl⟩ : ∃ x, m = x + 1 := ⟨m - 1, by omega⟩
    have e : mI R 39 9 ≤ Int32.ofNat q := by grind [ix_t, of_t]
    show Ruin_owedTo_B6 _ _ _ _ _ _ _ _ _ = _
    unfold Ruin_owedTo_B6
    rw [if_pos e, show q = ix (mI R 39 9) by omega]
  | succ d ih =>
    intro m q hq hm
    obtain ⟨m, rfl⟩ : ∃ x, m = x + 1 := ⟨m - 1, by omega⟩
    have e : ¬ mI R 39 9 ≤ Int32.ofNat q := by grind [ix_t, of_t]
    have e0 : (0 : Int32) ≤ Int32.ofNat q := of_nn q (by omega)
    have e1 : ix (Int32.ofNat q) = q := ix_of q (by omega)
    have lt : q < ix (mI R 39 9) := by omega
    have sp := h.shp q lt
    obtain ⟨f1, f2⟩ := ht q (by omega)
    have z := ih m (q + 1) (by omega) (by omega)
    have es : sumL (owT R p rd) (q + 1) = sumL (owT R p rd) q + owT R p rd q := rfl
    rw [es] at z
    show Ruin_owedTo_B6 _ _ _ _ _ _ _ _ _ = _
    unfold Ruin_owedTo_B6 Ruin_owedTo_J49 Ruin_owedTo_J50 Ruin_owedTo_J81
    simp only [if_neg e, kA_t h.sc.k16 e0 (show ix (Int32.ofNat q) < 16 by omega), ck_t, e1, sp.1, nn_s, kO_t sp.2.1, sp.2.2.2.1, kA_t sp.2.2.2.2.2 p0 (show ix (Int32.ofNat p) < 16 by omega), p1, h.lowes lt hp, h.o33, h.sc.r33_0, h.sc.r33_1, kA_t h.sc.k34 e0 (show ix (Int32.ofNat q) < 16 by omega), kA_t h.sc.k35 e0 (show ix (Int32.ofNat q) < 16 by omega), f1, f2, if_true, i10, if_false, of_s1 q (by omega)]
    unfold owT at z ⊢
    by_cases c1 : mI R 113 q ≤ 0
    · rw [if_pos c1] at z ⊢
      exact z
    · rw [if_neg c1] at z ⊢
      by_cases c2 : rd ≤ mI R 113 q
      · rw [if_pos c2] at z ⊢
        exact z
      · rw [if_neg c2] at z ⊢
        exact z
theorem ev_owed (h : Rel k ad C R) (ht : TRf C R) {p : Nat} (hp : p < 16) (rd : Int32) : Ruin_owedTo C 33 (Int32.ofNat p) 16 (mI R 39 9) rd = some (sumL (owT R p rd) (ix (mI R 39 9)), C) := lp_owed h ht hp rd (ix (mI R 39 9)) fu 0 (by omega) (fu_g (by have := p16 h; omega))
theorem lp_cdb (h : Rel k ad C R) {p : Nat} (hp : p < ix (mI R 39 9)) (a : Int64) : ∀ (d m q : Nat), q + d = ix (mI R 39 9) → d < m → Ruin_debtsOf_L13 m (ad 1 p) (mI R 39 9) (a + sumL (fun q => Int32.toInt64 (mI R 112 (16 * p + q))) q) (Int32.ofNat q) C = some (a + sumL (fun q => Int32.toInt64 (mI R 112 (16 * p + q))) (ix (mI R 39 9)), C) := by
  have h16 := p16 h
  have hP := h.isc.persons
  have sp := h.shp p hp
  intro d
  induction d with
  | zero =>
    intro m q hq hm
    obtain ⟨m, rfl⟩ : ∃ x, m = x + 1 := ⟨m - 1, by omega⟩
    have e : mI R 39 9 ≤ Int32.ofNat q := by grind [ix_t, of_t]
    show Ruin_debtsOf_B13 _ _ _ _ _ _ = _
    unfold Ruin_debtsOf_B13
    rw [if_pos e, show q = ix (mI R 39 9) by omega]
  | succ d ih =>
    intro m q hq hm
    obtain ⟨m, rfl⟩ : ∃ x, m = x + 1 := ⟨m - 1, by omega⟩
    have e : ¬ mI R 39 9 ≤ Int32.ofNat q := by grind [ix_t, of_t]
    have e0 : (0 : Int32) ≤ Int32.ofNat q := of_nn q (by omega)
    have e1 : ix (Int32.ofNat q) = q := ix_of q (by omega)
    have z := ih m (q + 1) (by omega) (by omega)
    have es : sumL (fun q => Int32.toInt64 (mI R 112 (16 * p + q))) (q + 1) = sumL (fun q => Int32.toInt64 (mI R 112 (16 * p + q))) q + Int32.toInt64 (mI R 112 (16 * p + q)) := rfl
    rw [es, ← Int64.add_assoc] at z
    show Ruin_debtsOf_B13 _ _ _ _ _ _ = _
    unfold Ruin_debtsOf_B13
    simp only [if_neg e, kO_t sp.2.1, ck_t, sp.2.2.2.1, nn_s, kA_t sp.2.2.2.2.2 e0 (show ix (Int32.ofNat q) < 16 by omega), e1, h.lowes hp (show q < 16 by omega), of_s1 q (by omega)]
    exact z
theorem coins_b (h : Rel k ad C R) {p : Nat} (hp : p < 16) : -100000000000 ≤ (mL R 52 p).toInt ∧ (mL R 52 p).toInt ≤ 100000000000 := by
  have q := (h.ipe.1 p hp).2.2.2
  have hk := h.ipe.2.2.2.2.2
  have hc := h.isc.closes
  rw [I_le, I_le, i0T, show (24 : Int32).toInt = 24 from rfl] at hc
  omega
theorem L_neg (a : Int64) (h1 : -4000000000000000000 ≤ a.toInt) (h2 : a.toInt ≤ 4000000000000000000) : (-a).toInt = -a.toInt := by
  rw [Int64.toInt_neg, Int.bmod_def]
  split <;> omega
theorem ev_cdebts (h : Rel k ad C R) {p : Nat} (hp : p < ix (mI R 39 9)) : Ruin_debtsOf C (ad 1 p) (mI R 39 9) = some (dbR R p, C) := by
  have h16 := p16 h
  have sp := h.shp p hp
  have cb := coins_b h (show p < 16 by omega)
  have key : ∀ a : Int64, Ruin_debtsOf_L13 fu (ad 1 p) (mI R 39 9) a 0 C = some (a + sumL (fun q => Int32.toInt64 (mI R 112 (16 * p + q))) (ix (mI R 39 9)), C) := by
    intro a
    have z := lp_cdb h hp a (ix (mI R 39 9)) fu 0 (by omega) (fu_g (by omega))
    have ez : a + sumL (fun q => Int32.toInt64 (mI R 112 (16 * p + q))) 0 = a := Int64.add_zero _
    rw [ez] at z
    exact z
  have l0 : (0 : Int64).toInt = 0 := rfl
  unfold Ruin_debtsOf dbR cM Math_max_L
  rw [kO_t sp.2.1, ck_t, h.llp3 hp]
  by_cases c : 0 ≤ mL R 52 p
  · rw [if_pos c, if_neg (by rw [L_lt, l0, L_neg _ (by omega) (by omega)]; rw [L_le, l0] at c; omega), bd_s, key]
  · rw [if_neg c, if_pos (by rw [L_lt, l0, L_neg _ (by omega) (by omega)]; rw [L_le, l0] at c; omega), bd_s, key]
end W1
