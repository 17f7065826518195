/-! asking looks at the law, its edicts and the facts alone -/
section Z4
variable {ρ σ : Type} {M M' : Mm} {o o1 o2 o' o1' o2' : Option (ρ × Mm)}
/-- the same but for ints of houses, persons, sessions and bargains -/
def AG (M M' : Mm) : Prop := mR M' = mR M ∧ mK M' = mK M ∧ ∀ a, (mK M a).1 = 2 ∨ (mK M a).1 = 5 ∨ (mK M a).1 = 20 → mI M' a = mI M a
def CG (M M' : Mm) (o o' : Option (ρ × Mm)) : Prop := ∀ r N, o = some (r, N) → N = M ∧ o' = some (r, M')
theorem CG_some {r : ρ} : CG M M' (some (r, M)) (some (r, M')) := fun r' N e => by
  cases e
  exact ⟨rfl, rfl⟩
theorem CG_ck {b : Bool} (h : b = true → CG M M' o o') : CG M M' (ck b o) (ck b o') := by
  cases b
  · intro r N e; cases e
  · exact h rfl
theorem CG_kO {a c n : Nat} (hk : mK M' = mK M) (h : mK M a = (c, n) → CG M M' o o') : CG M M' (ck (kO M a c n) o) (ck (kO M' a c n) o') := by
  have e : kO M' a c n = kO M a c n := by unfold kO; rw [hk]
  rw [e]
  exact CG_ck (fun q => h (of_decide_eq_true q))
theorem CG_kA {a t : Nat} {i : Int32} (hk : mK M' = mK M) (h : (mK M a).1 = t → CG M M' o o') : CG M M' (ck (kA M a t i) o) (ck (kA M' a t i) o') := by
  have e : kA M' a t i = kA M a t i := by unfold kA; rw [hk]
  rw [e]
  refine CG_ck (fun q => h ?_)
  unfold kA at q
  rw [Bool.and_eq_true] at q
  exact of_decide_eq_true q.1
theorem CG_kT {a t : Nat} (hk : mK M' = mK M) (h : (mK M a).1 = t → CG M M' o o') : CG M M' (ck (kT M a t) o) (ck (kT M' a t) o') := by
  have e : kT M' a t = kT M a t := by unfold kT; rw [hk]
  rw [e]
  exact CG_ck (fun q => h (of_decide_eq_true q))
theorem CG_nn {p p' : Option Nat} {f f' : Nat → Option (ρ × Mm)} (e : p' = p) (h : ∀ a, CG M M' (f a) (f' a)) : CG M M' (nn p f) (nn p' f') := by
  subst e
  cases p'
  · intro r N e; cases e
  · exact h _
theorem CG_if {c : Prop} [Decidable c] (h1 : CG M M' o1 o1') (h2 : CG M M' o2 o2') : CG M M' (if c then o1 else o2) (if c then o1' else o2') := by
  by_cases q : c
  · rw [if_pos q, if_pos q]; exact h1
  · rw [if_neg q, if_neg q]; exact h2
theorem CG_bd {p p' : Option (σ × Mm)} {f f' : σ → Mm → Option (ρ × Mm)} (h : CG M M' p p') (g : ∀ r, CG M M' (f r M) (f' r M')) : CG M M' (bd p f) (bd p' f') := by
  intro r N e
  cases hp : p with
  | none => rw [hp] at e; cases e
  | some q =>
    obtain ⟨e1, e2⟩ := h q.1 q.2 hp
    rw [hp] at e
    rw [e2]
    have e : f q.1 q.2 = some (r, N) := e
    rw [e1] at e
    exact g q.1 r N e
theorem AG.i {a : Nat} (h : AG M M') (hk : (mK M a).1 = 2 ∨ (mK M a).1 = 5 ∨ (mK M a).1 = 20) (j : Nat) : mI M' a j = mI M a j := by rw [h.2.2 a hk]
theorem AG.rr (h : AG M M') (a j : Nat) : mR M' a j = mR M a j := by rw [h.1]
theorem AG.ln (h : AG M M') (a : Nat) : ln M' a = ln M a := by show Int32.ofNat (mK M' a).2 = Int32.ofNat (mK M a).2; rw [h.2.1]
theorem AG.tr {M2 : Mm} (h : AG M M') (h2 : AG M' M2) : AG M M2 := ⟨h2.1.trans h.1, h2.2.1.trans h.2.1, fun a q => (h2.2.2 a (by rw [h.2.1]; exact q)).trans (h.2.2 a q)⟩
theorem AG.rf : AG M M := ⟨rfl, rfl, fun _ _ => rfl⟩
theorem AG.s (h : AG M M') {a j : Nat} {v : Int32} (q : ¬ ((mK M a).1 = 2 ∨ (mK M a).1 = 5 ∨ (mK M a).1 = 20)) : AG M (sI M' a j v) := ⟨h.1, h.2.1, fun b hb => by
  rw [row_n (fun e => q (by rw [← e]; exact hb))]
  exact h.2.2 b hb⟩
theorem AG.l (h : AG M M') {a j : Nat} {v : Int64} : AG M (sL M' a j v) := h
theorem cg_fact (h : AG M M') (x : Int32) (a : Nat) : CG M M' (Edict_isFact M x a) (Edict_isFact M' x a) := by
  unfold Edict_isFact
  refine CG_if CG_some (CG_kT h.2.1 (fun q => ?_))
  simp only [h.ln, h.i (Or.inr (Or.inr q))]
  exact CG_if (CG_if (CG_kA h.2.1 (fun _ => CG_if CG_some CG_some)) (CG_if (CG_kA h.2.1 (fun _ => CG_if CG_some CG_some)) (CG_kA h.2.1 (fun _ => CG_if CG_some CG_some)))) CG_some
theorem cg_hold15 (h : AG M M') : ∀ (n a : Nat) (x2 : Int32) (b : Nat) (x4 : Int64) (x6 : Int32), CG M M' (Edict_holds_L15 n a x2 b x4 x6 M) (Edict_holds_L15 n a x2 b x4 x6 M')
  | 0, _, _, _, _, _ => fun r N e => by cases e
  | n + 1, a, x2, b, x4, x6 => by
    have ih := cg_hold15 h n
    show CG M M' (Edict_holds_B15 _ _ _ _ _ _ _) (Edict_holds_B15 _ _ _ _ _ _ _)
    unfold Edict_holds_B15 Edict_holds_J138 Edict_holds_J119 Edict_holds_J63 Edict_holds_J132
    refine CG_if (CG_if CG_some CG_some) (CG_kO h.2.1 (fun _ => CG_nn (h.rr _ _) (fun b2 => CG_kT h.2.1 (fun q2 => ?_))))
    simp only [h.ln]
    refine CG_if (CG_if CG_some CG_some) (CG_nn (h.rr _ _) (fun b4 => CG_kA h.2.1 (fun q4 => ?_)))
    simp only [h.i (Or.inr (Or.inr q4))]
    exact CG_if (CG_if (ih _ _ _ _ _) (CG_if (ih _ _ _ _ _) (ih _ _ _ _ _))) (CG_bd (cg_fact h _ _) (fun r => CG_if (ih _ _ _ _ _) (ih _ _ _ _ _)))
theorem cg_hold (h : AG M M') (a : Nat) (x y : Int32) (b : Nat) : CG M M' (Edict_holds M a x y b) (Edict_holds M' a x y b) := by
  unfold Edict_holds Edict_holds_J10
  exact CG_if (cg_hold15 h _ _ _ _ _ _) (cg_hold15 h _ _ _ _ _ _)
theorem cg_last8 (h : AG M M') : ∀ (n a : Nat) (x1 : Int32) (b : Nat) (x3 : Int32), CG M M' (Edict_lastThatHolds_L8 n a x1 b x3 M) (Edict_lastThatHolds_L8 n a x1 b x3 M')
  | 0, _, _, _, _ => fun r N e => by cases e
  | n + 1, a, x1, b, x3 => by
    have ih := cg_last8 h n
    show CG M M' (Edict_lastThatHolds_B8 _ _ _ _ _ _) (Edict_lastThatHolds_B8 _ _ _ _ _ _)
    unfold Edict_lastThatHolds_B8 Edict_lastThatHolds_J39 Edict_lastThatHolds_J54
    refine CG_if CG_some (CG_kO h.2.1 (fun _ => CG_nn (h.rr _ _) (fun b6 => CG_kA h.2.1 (fun q6 => ?_))))
    simp only [h.i (Or.inr (Or.inr q6))]
    refine CG_if (CG_if (CG_kO h.2.1 (fun _ => CG_nn (h.rr _ _) (fun b12 => CG_kA h.2.1 (fun q12 => CG_kO h.2.1 (fun _ => ?_))))) (CG_nn (h.rr _ _) (fun b9 => CG_kA h.2.1 (fun q9 => CG_kO h.2.1 (fun _ => CG_nn (h.rr _ _) (fun b12 => CG_kA h.2.1 (fun q12 => CG_kO h.2.1 (fun _ => ?_)))))))) (ih _ _ _ _)
    · simp only [h.i (Or.inr (Or.inr q12))]
      exact CG_bd (cg_hold h _ _ _ _) (fun r => CG_if (ih _ _ _ _) CG_some)
    · simp only [h.i (Or.inr (Or.inr q12)), h.i (Or.inr (Or.inr q9))]
      exact CG_bd (cg_hold h _ _ _ _) (fun r => CG_if (ih _ _ _ _) CG_some)
theorem cg_last (h : AG M M') (a : Nat) (x : Int32) (b : Nat) : CG M M' (Edict_lastThatHolds M a x b) (Edict_lastThatHolds M' a x b) := by
  unfold Edict_lastThatHolds
  refine CG_kO h.2.1 (fun _ => CG_nn (h.rr _ _) (fun b2 => CG_kT h.2.1 (fun _ => ?_)))
  simp only [h.ln]
  exact cg_last8 h _ _ _ _ _
theorem cg_force4 (h : AG M M') : ∀ (n a : Nat) (x1 x2 x3 : Int32), CG M M' (Law_inForce_L4 n a x1 x2 x3 M) (Law_inForce_L4 n a x1 x2 x3 M')
  | 0, _, _, _, _ => fun r N e => by cases e
  | n + 1, a, x1, x2, x3 => by
    have ih := cg_force4 h n
    show CG M M' (Law_inForce_B4 _ _ _ _ _ _) (Law_inForce_B4 _ _ _ _ _ _)
    unfold Law_inForce_B4 Law_inForce_J51 Law_inForce_J53
    refine CG_kO h.2.1 (fun q => ?_)
    simp only [h.i (Or.inr (Or.inl (show (mK M a).1 = 5 by rw [q])))]
    refine CG_if CG_some (CG_nn (h.rr _ _) (fun b2 => CG_kA h.2.1 (fun _ => CG_nn (h.rr _ _) (fun b4 => CG_kO h.2.1 (fun q4 => ?_)))))
    simp only [h.i (Or.inl (show (mK M b4).1 = 2 by rw [q4]))]
    refine CG_if (ih _ _ _ _) (CG_if (ih _ _ _ _) (CG_nn (h.rr _ _) (fun b7 => CG_kA h.2.1 (fun _ => CG_nn (h.rr _ _) (fun b9 => CG_kO h.2.1 (fun q9 => CG_nn (h.rr _ _) (fun b11 => CG_kA h.2.1 (fun _ => CG_nn (h.rr _ _) (fun b13 => CG_kO h.2.1 (fun q13 => ?_))))))))))
    simp only [h.i (Or.inl (show (mK M b9).1 = 2 by rw [q9])), h.i (Or.inl (show (mK M b13).1 = 2 by rw [q13]))]
    exact CG_if (ih _ _ _ _) (ih _ _ _ _)
theorem cg_ask (h : AG M M') (a : Nat) (w t : Int32) : CG M M' (Law_ask M a w t) (Law_ask M' a w t) := by
  have j29 : ∀ r s0, CG M M' (Law_ask_J29 a w r s0 M) (Law_ask_J29 a w r s0 M') := fun r s0 => by
    unfold Law_ask_J29
    refine CG_if (CG_if CG_some (CG_if CG_some (CG_ck (fun _ => CG_some)))) (CG_kO h.2.1 (fun _ => CG_nn (h.rr _ _) (fun b14 => CG_kA h.2.1 (fun _ => CG_nn (h.rr _ _) (fun b16 => CG_kO h.2.1 (fun _ => CG_nn (h.rr _ _) (fun b18 => CG_kA h.2.1 (fun q18 => ?_))))))))
    simp only [h.i (Or.inr (Or.inr q18))]
    exact CG_some
  unfold Law_ask
  exact CG_kO h.2.1 (fun _ => CG_bd (cg_force4 h _ _ _ _ _) (fun r => CG_if (j29 _ _) (CG_kO h.2.1 (fun _ => CG_nn (h.rr _ _) (fun b5 => CG_kA h.2.1 (fun _ => CG_nn (h.rr _ _) (fun b7 => CG_nn (h.rr _ _) (fun b8 => CG_kO h.2.1 (fun _ => CG_bd (cg_last h _ _ _) (fun r10 => j29 _ _))))))))))
/-- what was asked is answered so again -/
theorem ask_again (h : AG M M') {w t r : Int32} {N : Mm} (e : Law_ask M 19 w t = some (r, N)) : Law_ask M' 19 w t = some (r, M') := (cg_ask h 19 w t r N e).2
end Z4
