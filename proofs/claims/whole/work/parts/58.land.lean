/-! news: minutes, fogs, the first clear minute -/
def fogN (F G h : Nat) : Prop := if G < F then F ≤ h ∨ h ≤ G else F ≤ h ∧ h ≤ G
def pnN (u : Nat) : Nat := if u % 1440 < 360 then u + 360 - u % 1440 else if 1079 < u % 1440 then u + 1440 + 360 - u % 1440 else u
def pfN (F G u : Nat) : Nat := if (G + 1440 - F) % 1440 < (u % 1440 + 1440 - F) % 1440 then u else u + (G + 1440 - F) % 1440 - (u % 1440 + 1440 - F) % 1440 + 1
theorem pn_ge (u : Nat) : u ≤ pnN u ∧ pnN u ≤ u + 1440 := by unfold pnN; repeat' split
                                                             all_goals omega
theorem pn_in {u v : Nat} (h1 : u ≤ v) (h2 : v < pnN u) : ¬ (360 ≤ v % 1440 ∧ v % 1440 ≤ 1079) := by
  unfold pnN at h2
  repeat' split at h2
  all_goals omega
theorem pn_eq {u : Nat} (h : pnN u = u) : 360 ≤ u % 1440 ∧ u % 1440 ≤ 1079 := by
  unfold pnN at h
  repeat' split at h
  all_goals omega
theorem pf_ge (F G u : Nat) (hF : F ≤ 1439) (hG : G ≤ 1439) : u ≤ pfN F G u ∧ pfN F G u ≤ u + 1440 := by
  unfold pfN
  split <;> omega
theorem pf_in {F G u v : Nat} (hF : F ≤ 1439) (hG : G ≤ 1439) (h1 : u ≤ v) (h2 : v < pfN F G u) : fogN F G (v % 1440) := by
  unfold pfN at h2
  unfold fogN
  split at h2
  · omega
  · split
    · omega
    · omega
theorem pf_eq {F G u : Nat} (hF : F ≤ 1439) (hG : G ≤ 1439) (h : pfN F G u = u) : ¬ fogN F G (u % 1440) := by
  unfold pfN at h
  unfold fogN
  split at h
  · split <;> omega
  · omega
theorem of_div (u c : Nat) (hu : u < 2147483648) (hc : 0 < c) (hc2 : c < 2147483648) : Int32.ofNat u / Int32.ofNat c = Int32.ofNat (u / c) := by
  have e1 : (Int32.ofNat u).toInt = u := of_t u hu
  have e2 : (Int32.ofNat c).toInt = c := of_t c hc2
  have h3 : u / c ≤ u := Nat.div_le_self u c
  have e3 : (Int32.ofNat (u / c)).toInt = (u / c : Nat) := of_t _ (by omega)
  apply I_eq
  rw [I_div _ _ (by omega) (by omega), e1, e2, e3]
  exact (Int.natCast_ediv u c).symm
theorem rm_of (u : Nat) (hu : u < 2147483648) : rm (Int32.ofNat u) 1440 = Int32.ofNat (u % 1440) := by
  show Int32.ofNat u - Int32.ofNat u / Int32.ofNat 1440 * Int32.ofNat 1440 = _
  rw [of_div u 1440 hu (by decide) (by decide), of_mul, of_sub _ _ (by omega)]
  congr 1
  omega
section N1
variable {k : Nat} {ad : Nat → Nat → Nat} {C R : Mm}
/-- town t has fog at an hour -/
def fgR (R : Mm) (t h : Nat) : Prop := mI R 40 t ≠ -1 ∧ fogN (ix (mI R 40 t)) (ix (mI R 41 t)) h
def clR (R : Mm) (a b u : Nat) : Prop := (360 ≤ u % 1440 ∧ u % 1440 ≤ 1079) ∧ ¬ fgR R a (u % 1440) ∧ ¬ fgR R b (u % 1440)
noncomputable def pfR (R : Mm) (t u : Nat) : Nat := if mI R 40 t = -1 then u else pfN (ix (mI R 40 t)) (ix (mI R 41 t)) u
theorem ila_b (h : Rel k ad C R) {t : Nat} (ht : t < 10) : mI R 40 t = -1 ∨ (0 ≤ mI R 40 t ∧ ix (mI R 40 t) ≤ 1439 ∧ 0 ≤ mI R 41 t ∧ ix (mI R 41 t) ≤ 1439) := by
  have := h.ila.1 t ht
  grind [ix_t]
theorem pfR_ge (h : Rel k ad C R) {t : Nat} (ht : t < 10) (u : Nat) : u ≤ pfR R t u ∧ pfR R t u ≤ u + 1440 := by
  unfold pfR
  split
  · omega
  · rcases ila_b h ht with e | e
    · contradiction
    · exact pf_ge _ _ u e.2.1 e.2.2.2
theorem pfR_in (h : Rel k ad C R) {t u v : Nat} (ht : t < 10) (h1 : u ≤ v) (h2 : v < pfR R t u) : fgR R t (v % 1440) := by
  unfold pfR at h2
  split at h2
  · omega
  · rename_i q
    rcases ila_b h ht with e | e
    · contradiction
    · exact ⟨q, pf_in e.2.1 e.2.2.2 h1 h2⟩
theorem pfR_eq (h : Rel k ad C R) {t u : Nat} (ht : t < 10) (h2 : pfR R t u = u) : ¬ fgR R t (u % 1440) := by
  unfold pfR at h2
  split at h2
  · rename_i q
    intro z
    exact z.1 q
  · rename_i q
    rcases ila_b h ht with e | e
    · contradiction
    · intro z
      exact pf_eq e.2.1 e.2.2.2 h2 z.2
noncomputable def nxR (R : Mm) (a b u : Nat) : Nat := pfR R b (pfR R a (pnN u))
theorem nx_ge (h : Rel k ad C R) {a b : Nat} (ha : a < 10) (hb : b < 10) (u : Nat) : u ≤ nxR R a b u ∧ nxR R a b u ≤ u + 4320 := by
  have h1 := pn_ge u
  have h2 := pfR_ge h ha (pnN u)
  have h3 := pfR_ge h hb (pfR R a (pnN u))
  unfold nxR
  omega
theorem nx_in (h : Rel k ad C R) {a b u v : Nat} (ha : a < 10) (hb : b < 10) (h1 : u ≤ v) (h2 : v < nxR R a b u) : ¬ clR R a b v := by
  intro z
  by_cases c1 : v < pnN u
  · exact pn_in h1 c1 z.1
  · by_cases c2 : v < pfR R a (pnN u)
    · exact z.2.1 (pfR_in h ha (by omega) c2)
    · exact z.2.2 (pfR_in h hb (by omega) h2)
theorem nx_eq (h : Rel k ad C R) {a b u : Nat} (ha : a < 10) (hb : b < 10) (h2 : nxR R a b u = u) : clR R a b u := by
  have g1 := pn_ge u
  have g2 := pfR_ge h ha (pnN u)
  have g3 := pfR_ge h hb (pfR R a (pnN u))
  unfold nxR at h2
  have e1 : pnN u = u := by omega
  rw [e1] at g2 g3 h2
  have e2 : pfR R a u = u := by omega
  rw [e2] at h2
  exact ⟨pn_eq e1, pfR_eq h ha e2, pfR_eq h hb h2⟩
theorem nx_ne (h : Rel k ad C R) {a b u : Nat} (ha : a < 10) (hb : b < 10) (hc : clR R a b u) : nxR R a b u = u := by
  have g := nx_ge h ha hb u
  apply Classical.byContradiction
  intro q
  exact nx_in h ha hb (Nat.le_refl u) (by omega) hc
/-- the first clear minute of d from u on -/
noncomputable def fcR (R : Mm) (a b : Nat) : Nat → Nat → Option Nat
  | _, 0 => none
  | u, d + 1 => @ite _ (clR R a b u) (Classical.propDecidable _) (some u) (fcR R a b (u + 1) d)
end N1
