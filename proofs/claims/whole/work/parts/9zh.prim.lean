/-! what readers of rules do with a token: both sides -/
section ZP
variable {B D E E' G : Mm} {f : Nat → Int32} {N T : Nat}
/-- the class's reader stands at token i, with c entries of code -/
def Cst (f : Nat → Int32) (N T : Nat) (B D : Mm) (i c : Nat) : Prop := (mR D = mR B ∧ mK D = mK B ∧ mZ D = mZ B ∧ mS D = mS B ∧ mL D = mL B) ∧ (∀ a, a ≠ 20 → a ≠ 24 → mI D a = mI B a) ∧ (∀ j, j ≠ 5 → j ≠ 10 → mI D 20 j = mI B 20 j) ∧ mI D 20 10 = Int32.ofNat i ∧ mI D 20 5 = Int32.ofNat c ∧ i ≤ T ∧ c ≤ 400
/-- a class's memory with the text's tokens -/
def Bas (f : Nat → Int32) (N T : Nat) (B : Mm) : Prop := Txt f N T ∧ SC B ∧ CTk f N T B
theorem Cst.sc {i c : Nat} (h : Cst f N T B D i c) (b : Bas f N T B) : SC D := b.2.1.sm h.1.2.1 h.1.1
theorem Cst.tk {i c : Nat} (h : Cst f N T B D i c) (hi : i < T) : Cst f N T B (sI D 20 10 (Int32.ofNat (i + 1))) (i + 1) c := by
  obtain ⟨h1, h2, h3, h4, h5, h6, h7⟩ := h
  exact ⟨h1, fun a q1 q2 => by rw [row_n q1]; exact h2 a q1 q2, fun j q1 q2 => by rw [mI_sI, if_neg (fun w => q2 w.2)]; exact h3 j q1 q2, by rw [mI_sI, if_pos ⟨rfl, rfl⟩], by rw [mI_sI, if_neg (by omega)]; exact h5, by omega, h7⟩
theorem Cst.pt {i c : Nat} {v : Int32} (h : Cst f N T B D i c) (hc : c < 400) : Cst f N T B (sI (sI D 24 c v) 20 5 (Int32.ofNat (c + 1))) i (c + 1) := by
  obtain ⟨h1, h2, h3, h4, h5, h6, h7⟩ := h
  exact ⟨h1, fun a q1 q2 => by rw [row_n q1, row_n q2]; exact h2 a q1 q2, fun j q1 q2 => by rw [mI_sI, if_neg (fun w => q1 w.2), row_n (by decide)]; exact h3 j q1 q2, by rw [mI_sI, if_neg (by omega), row_n (by decide)]; exact h4, by rw [mI_sI, if_pos ⟨rfl, rfl⟩], h6, by omega⟩
theorem KK_T {i : Nat} (h : ¬ i < T) : KK f N T i = 31 := by unfold KK; rw [if_neg h]
theorem Cst.end {i c : Nat} (h : Cst f N T B D i c) (b : Bas f N T B) : Scribe_isAtEnd D 20 = some (if i < T then 0 else 1, D) := by
  have sc := h.sc b
  have e9 : mI D 20 9 = Int32.ofNat T := by rw [h.2.2.1 9 (by decide) (by decide)]; exact b.2.2.2.2.2.1
  have hT := b.1.2.2.1
  have hN := b.1.1
  have hi := h.2.2.2.2.2.1
  unfold Scribe_isAtEnd
  rw [kO_t sc.k20, ck_t, h.2.2.2.1, e9]
  by_cases c' : i < T
  · rw [if_pos ((of_lt i T (by omega) (by omega)).mpr c'), if_pos c']
  · rw [if_neg (fun w => c' ((of_lt i T (by omega) (by omega)).mp w)), if_neg c']
theorem Cst.le {i c : Nat} (h : Cst f N T B D i c) (b : Bas f N T B) : mI D 20 9 ≤ mI D 20 10 ↔ ¬ i < T := by
  have e9 : mI D 20 9 = Int32.ofNat T := by rw [h.2.2.1 9 (by decide) (by decide)]; exact b.2.2.2.2.2.1
  have hT := b.1.2.2.1
  have hN := b.1.1
  have hi := h.2.2.2.2.2.1
  rw [h.2.2.2.1, e9, of_le T i (by omega) (by omega)]
  omega
theorem Cst.kd {i c : Nat} (h : Cst f N T B D i c) (b : Bas f N T B) (hi : i < T) : mI D 25 i = KK f N T i ∧ (KK f N T i = 30 → mI D 27 i = nbT f N (PT f N i)) := by
  have t := b.2.2.2.2.2.2.2 i hi
  unfold tkC at t
  rw [h.2.1 25 (by decide) (by decide), h.2.1 27 (by decide) (by decide)]
  unfold KK
  rw [if_pos hi]
  exact ⟨t.1, fun q => by rw [t.2, if_pos q]⟩
theorem ev_take {i c : Nat} (h : Cst f N T B D i c) (b : Bas f N T B) {k : Int32} (hk : k ≠ 31) : Scribe_take D 20 k = some (if KK f N T i = k then 1 else 0, if KK f N T i = k then sI D 20 10 (Int32.ofNat (i + 1)) else D) := by
  have sc := h.sc b
  have hT := b.1.2.2.1
  have hN := b.1.1
  have I0 : (0 : Int32) ≤ Int32.ofNat i := of_nn _ (by have := h.2.2.2.2.2.1; omega)
  have I1 : ix (Int32.ofNat i) = i := ix_of _ (by have := h.2.2.2.2.2.1; omega)
  unfold Scribe_take
  rw [kO_t sc.k20, ck_t]
  by_cases c' : i < T
  · rw [if_neg (fun q => (h.le b).mp q c')]
    simp only [kO_t sc.k20, ck_t, sc.r20_6, nn_s, h.2.2.2.1, kA_t sc.k25 I0 (show ix (Int32.ofNat i) < 501 by omega), I1, (h.kd b c').1, of_s1 i (by omega)]
    by_cases e : KK f N T i = k
    · simp only [if_pos e]
    · simp only [if_neg e]
  · rw [if_pos ((h.le b).mpr c'), KK_T c', if_neg (fun q => hk q.symm), if_neg (fun q => hk q.symm)]
theorem ev_takeOf {i c : Nat} (h : Cst f N T B D i c) (b : Bas f N T B) {lo hi : Int32} (hh : hi < 31) : Scribe_takeOf D 20 lo hi = some (if lo ≤ KK f N T i ∧ KK f N T i ≤ hi then KK f N T i - lo else -1, if lo ≤ KK f N T i ∧ KK f N T i ≤ hi then sI D 20 10 (Int32.ofNat (i + 1)) else D) := by
  have sc := h.sc b
  have hT := b.1.2.2.1
  have hN := b.1.1
  have I0 : (0 : Int32) ≤ Int32.ofNat i := of_nn _ (by have := h.2.2.2.2.2.1; omega)
  have I1 : ix (Int32.ofNat i) = i := ix_of _ (by have := h.2.2.2.2.2.1; omega)
  unfold Scribe_takeOf
  rw [kO_t sc.k20, ck_t]
  by_cases c' : i < T
  · rw [if_neg (fun q => (h.le b).mp q c')]
    have k25 : mI (sI D 20 10 (Int32.ofNat (i + 1))) 25 i = KK f N T i := (h.kd b c').1
    have s1 : mI (sI D 20 10 (Int32.ofNat (i + 1))) 20 10 - 1 = Int32.ofNat i := by rw [mI_sI, if_pos ⟨rfl, rfl⟩, ← of_s1 i (by omega)]; clear h b; grind
    simp only [kO_t sc.k20, ck_t, sc.r20_6, nn_s, h.2.2.2.1, kA_t sc.k25 I0 (show ix (Int32.ofNat i) < 501 by omega), I1, (h.kd b c').1, of_s1 i (by omega), mR_sI, s1, kA_sI, k25]
    by_cases e1 : KK f N T i < lo
    · rw [if_pos e1, if_neg (fun q => by have := q.1; clear h b; grind), if_neg (fun q => by have := q.1; clear h b; grind)]
    · rw [if_neg e1]
      by_cases e2 : KK f N T i ≤ hi
      · rw [if_pos e2, if_pos ⟨by clear h b; grind, e2⟩, if_pos ⟨by clear h b; grind, e2⟩]
      · rw [if_neg e2, if_neg (fun q => e2 q.2), if_neg (fun q => e2 q.2)]
  · have n : ¬ (lo ≤ KK f N T i ∧ KK f N T i ≤ hi) := fun q => by
      rw [KK_T c'] at q
      have := q.2
      clear h b; grind
    rw [if_pos ((h.le b).mpr c'), if_neg n, if_neg n]
theorem ev_takeN {i c : Nat} (h : Cst f N T B D i c) (b : Bas f N T B) {lo : Int32} : Scribe_takeNumber D 20 lo = some (if KK f N T i = 30 ∧ lo ≤ nbT f N (PT f N i) then nbT f N (PT f N i) else -1, if KK f N T i = 30 ∧ lo ≤ nbT f N (PT f N i) then sI D 20 10 (Int32.ofNat (i + 1)) else D) := by
  have sc := h.sc b
  have hT := b.1.2.2.1
  have hN := b.1.1
  have I0 : (0 : Int32) ≤ Int32.ofNat i := of_nn _ (by have := h.2.2.2.2.2.1; omega)
  have I1 : ix (Int32.ofNat i) = i := ix_of _ (by have := h.2.2.2.2.2.1; omega)
  unfold Scribe_takeNumber
  rw [kO_t sc.k20, ck_t]
  by_cases c' : i < T
  · rw [if_neg (fun q => (h.le b).mp q c')]
    have s1 : mI (sI D 20 10 (Int32.ofNat (i + 1))) 20 10 - 1 = Int32.ofNat i := by rw [mI_sI, if_pos ⟨rfl, rfl⟩, ← of_s1 i (by omega)]; clear h b; grind
    by_cases e0 : KK f N T i = 30
    · have k27 := (h.kd b c').2 e0
      have k27' : mI (sI D 20 10 (Int32.ofNat (i + 1))) 27 i = nbT f N (PT f N i) := k27
      simp only [kO_t sc.k20, ck_t, sc.r20_6, nn_s, h.2.2.2.1, kA_t sc.k25 I0 (show ix (Int32.ofNat i) < 501 by omega), I1, (h.kd b c').1, if_pos e0, sc.r20_8, kA_t sc.k27 I0 (show ix (Int32.ofNat i) < 501 by omega), k27, of_s1 i (by omega), mR_sI, s1, kA_sI, k27']
      by_cases e1 : lo ≤ nbT f N (PT f N i)
      · rw [if_pos e1, if_pos ⟨e0, e1⟩, if_pos ⟨e0, e1⟩]
      · rw [if_neg e1, if_neg (fun q => e1 q.2), if_neg (fun q => e1 q.2)]
    · simp only [kO_t sc.k20, ck_t, sc.r20_6, nn_s, h.2.2.2.1, kA_t sc.k25 I0 (show ix (Int32.ofNat i) < 501 by omega), I1, (h.kd b c').1, if_neg e0]
      rw [if_neg (fun q => e0 q.1), if_neg (fun q => e0 q.1)]
  · have n : ¬ (KK f N T i = 30 ∧ lo ≤ nbT f N (PT f N i)) := fun q => by
      rw [KK_T c'] at q
      exact absurd q.1 (by decide)
    rw [if_pos ((h.le b).mpr c'), if_neg n, if_neg n]
theorem ev_put {i c : Nat} (h : Cst f N T B D i c) (b : Bas f N T B) (hc : c < 400) (v : Int32) : Scribe_put D 20 v = some (1, sI (sI D 24 c v) 20 5 (Int32.ofNat (c + 1))) := by
  have sc := h.sc b
  have C0 : (0 : Int32) ≤ Int32.ofNat c := of_nn _ (by omega)
  have C1 : ix (Int32.ofNat c) = c := ix_of _ (by omega)
  have l24 : ln D 24 = 500 := by
    show Int32.ofNat (mK D 24).2 = 500
    rw [sc.k24]; rfl
  have k5 : mI (sI D 24 c v) 20 5 = Int32.ofNat c := h.2.2.2.2.1
  unfold Scribe_put
  simp only [kO_t sc.k20, ck_t, sc.r20_3, nn_s, kT_t sc.k24, h.2.2.2.2.1, l24, if_pos (show Int32.ofNat c < 500 from (of_lt c 500 (by omega) (by omega)).mpr (by omega)), kA_t sc.k24 C0 (show ix (Int32.ofNat c) < 500 by omega), C1, k5, of_s1 c (by omega)]
/-! the reference's side -/
/-- cells that reading a condition may change -/
def SP (j : Nat) : Prop := j = 52 ∨ j = 55 ∨ (57 ≤ j ∧ j ≤ 63) ∨ j = 65 ∨ j = 69
def Est (G E : Mm) : Prop := mR E = mR G ∧ mK E = mK G ∧ (∀ a, a ≠ 39 → ¬ (74 ≤ a ∧ a ≤ 77) → ¬ (80 ≤ a ∧ a ≤ 82) → mI E a = mI G a) ∧ (∀ a, a ≠ 39 → mL E a = mL G a) ∧ (∀ j, j ≠ 64 → mL E 39 j = mL G 39 j) ∧ (∀ j, ¬ SP j → mI E 39 j = mI G 39 j)
theorem Est.rf : Est G G := ⟨rfl, rfl, fun _ _ _ _ => rfl, fun _ _ => rfl, fun _ _ => rfl, fun _ _ => rfl⟩
theorem Est.x (h : Est G E) (r : Rx S5 E E') : Est G E' := ⟨r.1.trans h.1, r.2.1.trans h.2.1, fun a q1 q2 q3 => (r.2.2.1 a q1).1.trans (h.2.2.1 a q1 q2 q3), fun a q => (r.2.2.1 a q).2.trans (h.2.2.2.1 a q), fun j q => (r.2.2.2.2 j q).trans (h.2.2.2.2.1 j q), fun j q => (r.2.2.2.1 j (fun w => q (by unfold S5 at w; unfold SP; omega))).trans (h.2.2.2.2.2 j q)⟩
theorem Est.s {j : Nat} {v : Int32} (h : Est G E) (hj : SP j) : Est G (sI E 39 j v) := ⟨h.1, h.2.1, fun a q1 q2 q3 => by rw [row_n q1]; exact h.2.2.1 a q1 q2 q3, h.2.2.2.1, h.2.2.2.2.1, fun i q => by rw [mI_sI, if_neg (fun w => q (by rw [w.2]; exact hj))]; exact h.2.2.2.2.2 i q⟩
theorem Est.r {a j : Nat} {v : Int32} (h : Est G E) (ha : (74 ≤ a ∧ a ≤ 77) ∨ (80 ≤ a ∧ a ≤ 82)) : Est G (sI E a j v) := ⟨h.1, h.2.1, fun b q1 q2 q3 => by rw [row_n (fun e => by omega)]; exact h.2.2.1 b q1 q2 q3, h.2.2.2.1, h.2.2.2.2.1, fun i q => by rw [row_n (by omega)]; exact h.2.2.2.2.2 i q⟩
theorem AtE.s {i j : Nat} {v : Int32} (a : AtE f N T E i) (hj : j < 56 ∨ 61 < j) : AtE f N T (sI E 39 j v) i := by
  obtain ⟨a1, a2, a3, a4, a5, a6, a7⟩ := a
  have e : ∀ x, 56 ≤ x → x ≤ 61 → mI (sI E 39 j v) 39 x = mI E 39 x := fun x q1 q2 => by rw [mI_sI, if_neg (by omega)]
  refine ⟨a1, a2, by rw [e 56 (by decide) (by decide)]; exact a3, a4, by rw [e 58 (by decide) (by decide)]; exact a5, by rw [e 57 (by decide) (by decide)]; exact a6, ?_⟩
  unfold TK at a7 ⊢
  rw [e 59 (by decide) (by decide), e 60 (by decide) (by decide), e 61 (by decide) (by decide), mL_sI]
  exact a7
theorem AtE.r {i a j : Nat} {v : Int32} (h : AtE f N T E i) (ha : a ≠ 39) (hb : a ≠ 79) : AtE f N T (sI E a j v) i := by
  obtain ⟨a1, a2, a3, a4, a5, a6, a7⟩ := h
  have e : mI (sI E a j v) 39 = mI E 39 := row_n (fun q => ha q.symm)
  refine ⟨a1, by rw [row_n (fun q => hb q.symm)]; exact a2, by rw [e]; exact a3, a4, by rw [e]; exact a5, by rw [e]; exact a6, ?_⟩
  unfold TK at a7 ⊢
  rw [e, mL_sI]
  exact a7
theorem ev_isW {i : Nat} (a : AtE f N T E i) {k : Nat} (hk : k < 24) {w : Int64} (hw : w = Wd k) : Mod_isWord E 39 w = some (if KK f N T i = Int32.ofNat k then 1 else 0, E) := by
  have t := a.2.2.2.2.2.2.2.1 k hk
  unfold Mod_isWord
  rw [kO_t a.1.k39, ck_t, hw]
  by_cases c1 : mI E 39 59 = 1
  · rw [if_pos c1]
    by_cases c2 : mL E 39 64 = Wd k
    · rw [if_pos c2, if_pos (t.mp ⟨c1, c2⟩)]
    · rw [if_neg c2, if_neg (fun q => c2 (t.mpr q).2)]
  · rw [if_neg c1, if_neg (fun q => c1 (t.mpr q).1)]
theorem ev_isSg {i : Nat} (a : AtE f N T E i) {j : Nat} (hj : j < 6) {w : Int32} (hw : w = sgC j) : Mod_isSign E 39 w = some (if KK f N T i = Int32.ofNat (24 + j) then 1 else 0, E) := by
  have t := a.2.2.2.2.2.2.2.2.1 j hj
  unfold Mod_isSign
  rw [kO_t a.1.k39, ck_t, hw]
  by_cases c1 : mI E 39 59 = 3
  · rw [if_pos c1]
    by_cases c2 : mI E 39 60 = sgC j
    · rw [if_pos c2, if_pos (t.mp ⟨c1, c2⟩)]
    · rw [if_neg c2, if_neg (fun q => c2 (t.mpr q).2)]
  · rw [if_neg c1, if_neg (fun q => c1 (t.mpr q).1)]
/-- the name or the word that the token is -/
theorem ev_name {i : Nat} (a : AtE f N T E i) : ∃ s0, (∀ K : Int32 → Mm → Option (Unit × Mm), (if mI E 39 59 = 1 then bd (Mod_nameOf E 39 (mL E 39 64)) (fun r M => K r M) else K (-1) E) = K s0 E) ∧ s0 = (if 11 ≤ KK f N T i ∧ KK f N T i ≤ 17 then KK f N T i - 11 else -1) := by
  have t := fun k (hk : k < 24) => a.2.2.2.2.2.2.2.1 k hk
  refine ⟨_, fun K => ?_, rfl⟩
  have hit : ∀ k, 11 ≤ k → k ≤ 17 → KK f N T i = Int32.ofNat k → (if 11 ≤ KK f N T i ∧ KK f N T i ≤ 17 then KK f N T i - 11 else -1 : Int32) = Int32.ofNat (k - 11) := fun k h1 h2 e => by
    rw [e, if_pos ⟨(of_le 11 k (by omega) (by omega)).mpr h1, (of_le k 17 (by omega) (by omega)).mpr h2⟩]
    exact of_sub k 11 h1
  by_cases c1 : mI E 39 59 = 1
  · rw [if_pos c1]
    unfold Mod_nameOf
    by_cases d0 : mL E 39 64 = 2968
    · rw [if_pos d0, bd_s, hit 11 (by decide) (by decide) ((t 11 (by decide)).mp ⟨c1, d0⟩)]; rfl
    rw [if_neg d0]
    by_cases d1 : mL E 39 64 = 168984
    · rw [if_pos d1, bd_s, hit 12 (by decide) (by decide) ((t 12 (by decide)).mp ⟨c1, d1⟩)]; rfl
    rw [if_neg d1]
    by_cases d2 : mL E 39 64 = 459652
    · rw [if_pos d2, bd_s, hit 13 (by decide) (by decide) ((t 13 (by decide)).mp ⟨c1, d2⟩)]; rfl
    rw [if_neg d2]
    by_cases d3 : mL E 39 64 = 1841972
    · rw [if_pos d3, bd_s, hit 14 (by decide) (by decide) ((t 14 (by decide)).mp ⟨c1, d3⟩)]; rfl
    rw [if_neg d3]
    by_cases d4 : mL E 39 64 = 200966728393
    · rw [if_pos d4, bd_s, hit 15 (by decide) (by decide) ((t 15 (by decide)).mp ⟨c1, d4⟩)]; rfl
    rw [if_neg d4]
    by_cases d5 : mL E 39 64 = 360941
    · rw [if_pos d5, bd_s, hit 16 (by decide) (by decide) ((t 16 (by decide)).mp ⟨c1, d5⟩)]; rfl
    rw [if_neg d5]
    by_cases d6 : mL E 39 64 = 11522
    · rw [if_pos d6, bd_s, hit 17 (by decide) (by decide) ((t 17 (by decide)).mp ⟨c1, d6⟩)]; rfl
    rw [if_neg d6, bd_s]
    rw [if_neg]
    intro q
    have : KK f N T i = 11 ∨ KK f N T i = 12 ∨ KK f N T i = 13 ∨ KK f N T i = 14 ∨ KK f N T i = 15 ∨ KK f N T i = 16 ∨ KK f N T i = 17 := by clear t hit a; grind
    rcases this with e | e | e | e | e | e | e
    · exact d0 ((t 11 (by decide)).mpr e).2
    · exact d1 ((t 12 (by decide)).mpr e).2
    · exact d2 ((t 13 (by decide)).mpr e).2
    · exact d3 ((t 14 (by decide)).mpr e).2
    · exact d4 ((t 15 (by decide)).mpr e).2
    · exact d5 ((t 16 (by decide)).mpr e).2
    · exact d6 ((t 17 (by decide)).mpr e).2
  · rw [if_neg c1, if_neg]
    intro q
    have : KK f N T i = 11 ∨ KK f N T i = 12 ∨ KK f N T i = 13 ∨ KK f N T i = 14 ∨ KK f N T i = 15 ∨ KK f N T i = 16 ∨ KK f N T i = 17 := by clear t hit a; grind
    rcases this with e | e | e | e | e | e | e
    · exact c1 ((t 11 (by decide)).mpr e).1
    · exact c1 ((t 12 (by decide)).mpr e).1
    · exact c1 ((t 13 (by decide)).mpr e).1
    · exact c1 ((t 14 (by decide)).mpr e).1
    · exact c1 ((t 15 (by decide)).mpr e).1
    · exact c1 ((t 16 (by decide)).mpr e).1
    · exact c1 ((t 17 (by decide)).mpr e).1
theorem ev_wordR {i : Nat} (a : AtE f N T E i) : ∃ s0, (∀ K : Int32 → Mm → Option (Unit × Mm), (if mI E 39 59 = 1 then bd (Mod_wordOf E 39 (mL E 39 64)) (fun r M => K r M) else K (-1) E) = K s0 E) ∧ s0 = (if 0 ≤ KK f N T i ∧ KK f N T i ≤ 10 then KK f N T i else -1) := by
  have t := fun k (hk : k < 24) => a.2.2.2.2.2.2.2.1 k hk
  refine ⟨_, fun K => ?_, rfl⟩
  have hit : ∀ k, k ≤ 10 → KK f N T i = Int32.ofNat k → (if 0 ≤ KK f N T i ∧ KK f N T i ≤ 10 then KK f N T i else -1 : Int32) = Int32.ofNat k := fun k h2 e => by
    rw [e, if_pos ⟨of_nn k (by omega), (of_le k 10 (by omega) (by omega)).mpr h2⟩]
  by_cases c1 : mI E 39 59 = 1
  · rw [if_pos c1]
    unfold Mod_wordOf
    by_cases d0 : mL E 39 64 = 3436200
    · rw [if_pos d0, bd_s, hit 0 (by decide) ((t 0 (by decide)).mp ⟨c1, d0⟩)]; rfl
    rw [if_neg d0]
    by_cases d1 : mL E 39 64 = 1239032113
    · rw [if_pos d1, bd_s, hit 1 (by decide) ((t 1 (by decide)).mp ⟨c1, d1⟩)]; rfl
    rw [if_neg d1]
    by_cases d2 : mL E 39 64 = 187426886
    · rw [if_pos d2, bd_s, hit 2 (by decide) ((t 2 (by decide)).mp ⟨c1, d2⟩)]; rfl
    rw [if_neg d2]
    by_cases d3 : mL E 39 64 = 133925
    · rw [if_pos d3, bd_s, hit 3 (by decide) ((t 3 (by decide)).mp ⟨c1, d3⟩)]; rfl
    rw [if_neg d3]
    by_cases d4 : mL E 39 64 = 55175
    · rw [if_pos d4, bd_s, hit 4 (by decide) ((t 4 (by decide)).mp ⟨c1, d4⟩)]; rfl
    rw [if_neg d4]
    by_cases d5 : mL E 39 64 = 153623
    · rw [if_pos d5, bd_s, hit 5 (by decide) ((t 5 (by decide)).mp ⟨c1, d5⟩)]; rfl
    rw [if_neg d5]
    by_cases d6 : mL E 39 64 = 5146
    · rw [if_pos d6, bd_s, hit 6 (by decide) ((t 6 (by decide)).mp ⟨c1, d6⟩)]; rfl
    rw [if_neg d6]
    by_cases d7 : mL E 39 64 = 4075196
    · rw [if_pos d7, bd_s, hit 7 (by decide) ((t 7 (by decide)).mp ⟨c1, d7⟩)]; rfl
    rw [if_neg d7]
    by_cases d8 : mL E 39 64 = 275695007
    · rw [if_pos d8, bd_s, hit 8 (by decide) ((t 8 (by decide)).mp ⟨c1, d8⟩)]; rfl
    rw [if_neg d8]
    by_cases d9 : mL E 39 64 = 10423497
    · rw [if_pos d9, bd_s, hit 9 (by decide) ((t 9 (by decide)).mp ⟨c1, d9⟩)]; rfl
    rw [if_neg d9]
    by_cases d10 : mL E 39 64 = 158537
    · rw [if_pos d10, bd_s, hit 10 (by decide) ((t 10 (by decide)).mp ⟨c1, d10⟩)]; rfl
    rw [if_neg d10, bd_s]
    rw [if_neg]
    intro q
    have : KK f N T i = 0 ∨ KK f N T i = 1 ∨ KK f N T i = 2 ∨ KK f N T i = 3 ∨ KK f N T i = 4 ∨ KK f N T i = 5 ∨ KK f N T i = 6 ∨ KK f N T i = 7 ∨ KK f N T i = 8 ∨ KK f N T i = 9 ∨ KK f N T i = 10 := by clear t hit a; grind
    rcases this with e | e | e | e | e | e | e | e | e | e | e
    · exact d0 ((t 0 (by decide)).mpr e).2
    · exact d1 ((t 1 (by decide)).mpr e).2
    · exact d2 ((t 2 (by decide)).mpr e).2
    · exact d3 ((t 3 (by decide)).mpr e).2
    · exact d4 ((t 4 (by decide)).mpr e).2
    · exact d5 ((t 5 (by decide)).mpr e).2
    · exact d6 ((t 6 (by decide)).mpr e).2
    · exact d7 ((t 7 (by decide)).mpr e).2
    · exact d8 ((t 8 (by decide)).mpr e).2
    · exact d9 ((t 9 (by decide)).mpr e).2
    · exact d10 ((t 10 (by decide)).mpr e).2
  · rw [if_neg c1, if_neg]
    intro q
    have : KK f N T i = 0 ∨ KK f N T i = 1 ∨ KK f N T i = 2 ∨ KK f N T i = 3 ∨ KK f N T i = 4 ∨ KK f N T i = 5 ∨ KK f N T i = 6 ∨ KK f N T i = 7 ∨ KK f N T i = 8 ∨ KK f N T i = 9 ∨ KK f N T i = 10 := by clear t hit a; grind
    rcases this with e | e | e | e | e | e | e | e | e | e | e
    · exact c1 ((t 0 (by decide)).mpr e).1
    · exact c1 ((t 1 (by decide)).mpr e).1
    · exact c1 ((t 2 (by decide)).mpr e).1
    · exact c1 ((t 3 (by decide)).mpr e).1
    · exact c1 ((t 4 (by decide)).mpr e).1
    · exact c1 ((t 5 (by decide)).mpr e).1
    · exact c1 ((t 6 (by decide)).mpr e).1
    · exact c1 ((t 7 (by decide)).mpr e).1
    · exact c1 ((t 8 (by decide)).mpr e).1
    · exact c1 ((t 9 (by decide)).mpr e).1
    · exact c1 ((t 10 (by decide)).mpr e).1
theorem ev_beginR (sr : SR E) {d : Nat} (hd : d < 100) (h69 : mI E 39 69 = Int32.ofNat d) (w : Int32) : Mod_begin E 39 w = some ((), sI (sI (sI (sI E 80 d w) 81 d 0) 82 d (-1)) 39 69 (Int32.ofNat (d + 1))) := by
  have D0 : (0 : Int32) ≤ Int32.ofNat d := of_nn _ (by omega)
  have D1 : ix (Int32.ofNat d) = d := ix_of _ (by omega)
  have a1 : mI (sI E 80 d w) 39 69 = Int32.ofNat d := h69
  have a2 : mI (sI (sI E 80 d w) 81 d 0) 39 69 = Int32.ofNat d := h69
  have a3 : mI (sI (sI (sI E 80 d w) 81 d 0) 82 d (-1)) 39 69 = Int32.ofNat d := h69
  unfold Mod_begin
  simp only [kO_t sr.k39, ck_t, sr.r39_66, nn_s, h69, kA_t sr.k80 D0 (show ix (Int32.ofNat d) < 100 by omega), D1, mR_sI, sr.r39_67, kA_sI, a1, kA_t sr.k81 D0 (show ix (Int32.ofNat d) < 100 by omega), sr.r39_68, a2, kA_t sr.k82 D0 (show ix (Int32.ofNat d) < 100 by omega), a3, of_s1 d (by omega)]
theorem ev_endsR (sr : SR E) {d : Nat} (hd : d < 100) (h69 : mI E 39 69 = Int32.ofNat (d + 1)) (g : Int32) : Mod_ends E 39 g = some ((), sI (sI E 39 63 g) 39 69 (Int32.ofNat d)) := by
  have a1 : mI (sI E 39 63 g) 39 69 - 1 = Int32.ofNat d := by
    have : mI (sI E 39 63 g) 39 69 = mI E 39 69 := rfl
    rw [this, h69, ← of_s1 d (by omega)]; grind
  unfold Mod_ends
  simp only [kO_t sr.k39, ck_t, a1]
theorem ev_nodeR (sr : SR E) {n : Nat} (hn : n < 2100) (h52 : mI E 39 52 = Int32.ofNat n) (kd x y z : Int32) : Mod_node E 39 kd x y z = some (Int32.ofNat n, sI (sI (sI (sI (sI E 74 n kd) 75 n x) 76 n y) 77 n z) 39 52 (Int32.ofNat (n + 1))) := by
  have D0 : (0 : Int32) ≤ Int32.ofNat n := of_nn _ (by omega)
  have D1 : ix (Int32.ofNat n) = n := ix_of _ (by omega)
  have Dl : ix (Int32.ofNat n) < 2100 := by omega
  have a1 : mI (sI E 74 n kd) 39 52 = Int32.ofNat n := h52
  have a2 : mI (sI (sI E 74 n kd) 75 n x) 39 52 = Int32.ofNat n := h52
  have a3 : mI (sI (sI (sI E 74 n kd) 75 n x) 76 n y) 39 52 = Int32.ofNat n := h52
  have a4 : mI (sI (sI (sI (sI E 74 n kd) 75 n x) 76 n y) 77 n z) 39 52 = Int32.ofNat n := h52
  have a5 : mI (sI (sI (sI (sI (sI E 74 n kd) 75 n x) 76 n y) 77 n z) 39 52 (Int32.ofNat (n + 1))) 39 52 - 1 = Int32.ofNat n := by
    rw [mI_sI, if_pos ⟨rfl, rfl⟩, ← of_s1 n (by omega)]; grind
  unfold Mod_node
  simp only [kO_t sr.k39, ck_t, sr.r39_47, nn_s, h52, kA_t sr.k74 D0 Dl, D1, mR_sI, sr.r39_48, kA_sI, a1, kA_t sr.k75 D0 Dl, sr.r39_49, a2, kA_t sr.k76 D0 Dl, sr.r39_50, a3, kA_t sr.k77 D0 Dl, a4, of_s1 n (by omega), a5]
theorem ev_failR (sr : SR E) (h65 : mI E 39 65 = 0) : Mod_fails0 E 39 = some ((), sI (sI E 39 65 1) 39 55 (mI E 39 58)) := by
  have a1 : mI (sI E 39 65 1) 39 58 = mI E 39 58 := rfl
  unfold Mod_fails0
  simp only [kO_t sr.k39, ck_t, if_pos h65, a1]
end ZP
