/-! conditions: what both readers make of them -/
section ZQ
variable {B G D E D' E' D1 E1 : Mm} {f : Nat → Int32} {N T base : Nat}
def PX (base : Nat) (D E : Mm) (lo hi : Nat) (X Y : List Nat) : Prop := ∃ S : Nat → List Nat, S lo = X ∧ (∀ j, lo ≤ j → j < hi → EN (mI D 24 j) (mI E 74 (base + j)) (mI E 75 (base + j)) (mI E 76 (base + j)) (mI E 77 (base + j)) ∧ Sk (mI E 74 (base + j)) (mI E 75 (base + j)) (mI E 76 (base + j)) (base + j) (S j) (S (j + 1)) ∧ (S (j + 1)).length ≤ 40) ∧ S hi = Y
theorem PX.tr {lo mid hi : Nat} {X Y Z : List Nat} (h : PX base D E lo mid X Y) (h2 : PX base D E mid hi Y Z) (l1 : lo ≤ mid) (l2 : mid ≤ hi) : PX base D E lo hi X Z := by
  obtain ⟨S, a1, a2, a3⟩ := h
  obtain ⟨S', b1, b2, b3⟩ := h2
  refine ⟨fun j => if j ≤ mid then S j else S' j, by show (if lo ≤ mid then S lo else S' lo) = X; rw [if_pos l1]; exact a1, fun j h1 h2 => ?_, ?_⟩
  · show EN _ _ _ _ _ ∧ Sk _ _ _ _ (if j ≤ mid then S j else S' j) (if j + 1 ≤ mid then S (j + 1) else S' (j + 1)) ∧ (if j + 1 ≤ mid then S (j + 1) else S' (j + 1)).length ≤ 40
    by_cases c : j + 1 ≤ mid
    · rw [if_pos (by omega), if_pos c]; exact a2 j h1 (by omega)
    · rw [if_neg c]
      have e : (if j ≤ mid then S j else S' j) = S' j := by
        by_cases q : j ≤ mid
        · rw [if_pos q, show j = mid by omega, a3, b1]
        · rw [if_neg q]
      rw [e]
      exact b2 j (by omega) h2
  · show (if hi ≤ mid then S hi else S' hi) = Z
    by_cases q : hi ≤ mid
    · rw [if_pos q, show hi = mid by omega, a3, ← b3, ← b1, show hi = mid by omega]
    · rw [if_neg q]; exact b3
theorem PX.cg {lo hi : Nat} {X Y : List Nat} (h : PX base D E lo hi X Y) (e1 : ∀ j, j < hi → mI D' 24 j = mI D 24 j) (e2 : ∀ a, 74 ≤ a → a ≤ 77 → ∀ j, j < base + hi → mI E' a j = mI E a j) : PX base D' E' lo hi X Y := by
  obtain ⟨S, a1, a2, a3⟩ := h
  refine ⟨S, a1, fun j h1 h2 => ?_, a3⟩
  rw [e1 j h2, e2 74 (by decide) (by decide) _ (by omega), e2 75 (by decide) (by decide) _ (by omega), e2 76 (by decide) (by decide) _ (by omega), e2 77 (by decide) (by decide) _ (by omega)]
  exact a2 j h1 h2
theorem PX.one {c : Nat} {X Y : List Nat} (h1 : EN (mI D 24 c) (mI E 74 (base + c)) (mI E 75 (base + c)) (mI E 76 (base + c)) (mI E 77 (base + c))) (h2 : Sk (mI E 74 (base + c)) (mI E 75 (base + c)) (mI E 76 (base + c)) (base + c) X Y) (h3 : Y.length ≤ 40) : PX base D E c (c + 1) X Y := by
  refine ⟨fun j => if j ≤ c then X else Y, by show (if c ≤ c then X else Y) = X; rw [if_pos (Nat.le_refl _)], fun j q1 q2 => ?_, by show (if c + 1 ≤ c then X else Y) = Y; rw [if_neg (by omega)]⟩
  have e : j = c := by omega
  subst e
  show EN _ _ _ _ _ ∧ Sk _ _ _ _ (if j ≤ j then X else Y) (if j + 1 ≤ j then X else Y) ∧ (if j + 1 ≤ j then X else Y).length ≤ 40
  rw [if_pos (Nat.le_refl _), if_neg (by omega)]
  exact ⟨h1, h2, h3⟩
/-- what was written before stays -/
def Kp (base c d : Nat) (D E D' E' : Mm) : Prop := (∀ j, j < c → mI D' 24 j = mI D 24 j) ∧ (∀ a, 74 ≤ a → a ≤ 77 → ∀ j, j < base + c → mI E' a j = mI E a j) ∧ (∀ a, 80 ≤ a → a ≤ 82 → ∀ j, j < d → mI E' a j = mI E a j) ∧ mI E' 39 55 = mI E 39 55
theorem Kp.rf {c d : Nat} : Kp base c d D E D E := ⟨fun _ _ => rfl, fun _ _ _ _ _ => rfl, fun _ _ _ _ _ => rfl, rfl⟩
theorem Kp.tr {c d c1 d1 : Nat} (h : Kp base c d D E D1 E1) (h2 : Kp base c1 d1 D1 E1 D' E') (hc : c ≤ c1) (hd : d ≤ d1) : Kp base c d D E D' E' := ⟨fun j q => (h2.1 j (by omega)).trans (h.1 j q), fun a q1 q2 j q => (h2.2.1 a q1 q2 j (by omega)).trans (h.2.1 a q1 q2 j q), fun a q1 q2 j q => (h2.2.2.1 a q1 q2 j (by omega)).trans (h.2.2.1 a q1 q2 j q), h2.2.2.2.trans h.2.2.2⟩
/-- the class's cell 20 may change -/
theorem Kp.c20 {c d j : Nat} {v : Int32} (h : Kp base c d D E D' E') : Kp base c d D E (sI D' 20 j v) E' := ⟨fun i q => by rw [row_n (by decide)]; exact h.1 i q, h.2.1, h.2.2⟩
theorem Kp.c24 {c d j : Nat} {v : Int32} (h : Kp base c d D E D' E') (hj : c ≤ j) : Kp base c d D E (sI D' 24 j v) E' := ⟨fun i q => by rw [mI_sI, if_neg (by omega)]; exact h.1 i q, h.2.1, h.2.2⟩
theorem Kp.e39 {c d j : Nat} {v : Int32} (h : Kp base c d D E D' E') (hj : j ≠ 55 := by decide) : Kp base c d D E D' (sI E' 39 j v) := ⟨h.1, fun a q1 q2 i q => by rw [row_n (by omega)]; exact h.2.1 a q1 q2 i q, fun a q1 q2 i q => by rw [row_n (by omega)]; exact h.2.2.1 a q1 q2 i q, by rw [mI_sI, if_neg (fun w => hj w.2.symm)]; exact h.2.2.2⟩
theorem Kp.ex {c d : Nat} (h : Kp base c d D E D' E1) (r : Rx S5 E1 E') : Kp base c d D E D' E' := ⟨h.1, fun a q1 q2 i q => by rw [(r.2.2.1 a (by omega)).1]; exact h.2.1 a q1 q2 i q, fun a q1 q2 i q => by rw [(r.2.2.1 a (by omega)).1]; exact h.2.2.1 a q1 q2 i q, by rw [r.2.2.2.1 55 (by unfold S5; omega)]; exact h.2.2.2⟩
theorem Kp.en {c d a j : Nat} {v : Int32} (h : Kp base c d D E D' E') (ha : 74 ≤ a ∧ a ≤ 77) (hj : base + c ≤ j) : Kp base c d D E D' (sI E' a j v) := ⟨h.1, fun b q1 q2 i q => by rw [mI_sI, if_neg (by omega)]; exact h.2.1 b q1 q2 i q, fun b q1 q2 i q => by rw [row_n (by omega)]; exact h.2.2.1 b q1 q2 i q, by rw [row_n (by omega)]; exact h.2.2.2⟩
theorem Kp.ef {c d a j : Nat} {v : Int32} (h : Kp base c d D E D' E') (ha : 80 ≤ a ∧ a ≤ 82) (hj : d ≤ j) : Kp base c d D E D' (sI E' a j v) := ⟨h.1, fun b q1 q2 i q => by rw [row_n (by omega)]; exact h.2.1 b q1 q2 i q, fun b q1 q2 i q => by rw [mI_sI, if_neg (by omega)]; exact h.2.2.1 b q1 q2 i q, by rw [row_n (by omega)]; exact h.2.2.2⟩
def Inv (f : Nat → Int32) (N T : Nat) (B G : Mm) (base : Nat) (D E : Mm) (i c : Nat) : Prop := Cst f N T B D i c ∧ AtE f N T E i ∧ Est G E ∧ mI E 39 65 = 0 ∧ mI E 39 52 = Int32.ofNat (base + c) ∧ 2 * c ≤ PT f N i
def Suc (f : Nat → Int32) (N T : Nat) (B G : Mm) (base o d i c : Nat) (X : List Nat) (D E D' E' : Mm) (i' c' g : Nat) : Prop := Inv f N T B G base D' E' i' c' ∧ mI E' 39 62 = Int32.ofNat o ∧ mI E' 39 69 = Int32.ofNat d ∧ mI E' 39 63 = Int32.ofNat g ∧ c < c' ∧ i < i' ∧ Kp base c d D E D' E' ∧ PX base D' E' c c' X (g :: X) ∧ 2 * c' + PT f N i ≤ PT f N i' + 2 * c ∧ g < base + c'
def Fal (f : Nat → Int32) (N T : Nat) (B G : Mm) (base i c : Nat) (E D' E' : Mm) (i' : Nat) : Prop := i ≤ i' ∧ (∃ c', Cst f N T B D' i' c') ∧ Est G E' ∧ mI E' 39 65 = 1 ∧ mI E' 39 55 = Int32.ofNat (PT f N i') ∧ (∀ a, 74 ≤ a → a ≤ 77 → ∀ j, j < base + c → mI E' a j = mI E a j)
/-- a reader of the class, and a frame of kind w of the reference, do the same at level o -/
def Spec (f : Nat → Int32) (N T : Nat) (B G : Mm) (base : Nat) (rd : Mm → Nat → Int32 → Option (Int32 × Mm)) (w : Int32) (o dm xm sl fb : Nat) : Prop := ∀ (i c d : Nat) (X : List Nat) (D E : Mm), Inv f N T B G base D E i c → mI E 39 62 = Int32.ofNat o → mI E 39 69 = Int32.ofNat (d + 1) → mI E 80 d = w → mI E 81 d = 0 → mI E 82 d = -1 → d + 1 ≤ dm → X.length ≤ xm → (∃ D' E' i' m, rd D 20 (Int32.ofNat o) = some (0, D') ∧ (∀ n, Mod_condition_L15 (n + m) 39 E = some (mI E' 39 63, E')) ∧ Fal f N T B G base i c E D' E' i' ∧ m ≤ 10 * (i' - i) + fb) ∨ (∃ D' E' i' c' g m, rd D 20 (Int32.ofNat o) = some (1, D') ∧ (∀ n, Mod_condition_L15 (n + m) 39 E = Mod_condition_L15 n 39 E') ∧ Suc f N T B G base o d i c X D E D' E' i' c' g ∧ m + sl ≤ 10 * (i' - i))
/-! steps of the reference's loop -/
theorem st_wr (sr : SR E) (h65 : mI E 39 65 = 1) (n : Nat) : Mod_condition_L15 (n + 1) 39 E = some (mI E 39 63, E) := by
  show Mod_condition_B15 _ _ _ = _
  unfold Mod_condition_B15
  rw [kO_t sr.k39, ck_t]
  by_cases c : mI E 39 69 ≤ 0
  · rw [if_pos c]
  · rw [if_neg c, if_neg (by rw [h65]; decide)]
theorem st_go (sr : SR E) (h65 : mI E 39 65 = 0) {d : Nat} (hd : d < 100) (h69 : mI E 39 69 = Int32.ofNat (d + 1)) (n : Nat) : Mod_condition_L15 (n + 1) 39 E = (if mI E 80 d = 2 then bd (Mod_fact E 39 (Int32.ofNat d)) (fun _ M => Mod_condition_L15 n 39 M) else if mI E 80 d = 0 then bd (Mod_chain E 39 (Int32.ofNat d) 1) (fun _ M => Mod_condition_L15 n 39 M) else bd (Mod_chain E 39 (Int32.ofNat d) 0) (fun _ M => Mod_condition_L15 n 39 M)) := by
  have D0 : (0 : Int32) ≤ Int32.ofNat d := of_nn _ (by omega)
  have D1 : ix (Int32.ofNat d) = d := ix_of _ (by omega)
  have e1 : Int32.ofNat (d + 1) - 1 = Int32.ofNat d := by rw [← of_s1 d (by omega)]; grind
  have e2 : ¬ Int32.ofNat (d + 1) ≤ 0 := fun w => by have := (of_le (d + 1) 0 (by omega) (by omega)).mp w; omega
  show Mod_condition_B15 _ _ _ = _
  unfold Mod_condition_B15 Mod_condition_J70 Mod_condition_J73
  simp only [kO_t sr.k39, ck_t, h69, if_neg e2, if_pos h65, e1, sr.r39_66, nn_s, kA_t sr.k80 D0 (show ix (Int32.ofNat d) < 100 by omega), D1]
/-- push a frame -/
def psh (E : Mm) (d : Nat) (w : Int32) : Mm := sI (sI (sI (sI E 80 d w) 81 d 0) 82 d (-1)) 39 69 (Int32.ofNat (d + 1))
theorem psh_f {d : Nat} {w : Int32} : mI (psh E d w) 80 d = w ∧ mI (psh E d w) 81 d = 0 ∧ mI (psh E d w) 82 d = -1 ∧ mI (psh E d w) 39 69 = Int32.ofNat (d + 1) := by
  unfold psh
  refine ⟨?_, ?_, ?_, ?_⟩
  · rw [row_n (by decide), row_n (by decide), row_n (by decide), mI_sI, if_pos ⟨rfl, rfl⟩]
  · rw [row_n (by decide), row_n (by decide), mI_sI, if_pos ⟨rfl, rfl⟩]
  · rw [row_n (by decide), mI_sI, if_pos ⟨rfl, rfl⟩]
  · rw [mI_sI, if_pos ⟨rfl, rfl⟩]
theorem psh_39 {d j : Nat} {w : Int32} (hj : j ≠ 69) : mI (psh E d w) 39 j = mI E 39 j := by
  unfold psh
  rw [mI_sI, if_neg (fun q => hj q.2), row_n (by decide), row_n (by decide), row_n (by decide)]
theorem psh_at {d i : Nat} {w : Int32} (a : AtE f N T E i) : AtE f N T (psh E d w) i := (((a.r (by decide) (by decide)).r (by decide) (by decide)).r (by decide) (by decide)).s (Or.inr (by decide))
theorem psh_es {d : Nat} {w : Int32} (h : Est G E) : Est G (psh E d w) := (((h.r (by omega)).r (by omega)).r (by omega)).s (by unfold SP; omega)
theorem psh_kp {c d d' : Nat} {w : Int32} (h : Kp base c d D E D' E') (hd : d ≤ d') : Kp base c d D E D' (psh E' d' w) := (((h.ef (by omega) hd).ef (by omega) hd).ef (by omega) hd).e39
theorem psh_in {d i c : Nat} {w : Int32} (h : Inv f N T B G base D E i c) : Inv f N T B G base D (psh E d w) i c := ⟨h.1, psh_at h.2.1, psh_es h.2.2.1, by rw [psh_39 (by decide)]; exact h.2.2.2.1, by rw [psh_39 (by decide)]; exact h.2.2.2.2.1, h.2.2.2.2.2⟩
/-- another token, the same state else -/
theorem Inv.nx {i c : Nat} (h : Inv f N T B G base D E i c) (b : Bas f N T B) (hi : i < T) : ∃ E', Mod_next E 39 = some ((), E') ∧ Rx S5 E E' ∧ Inv f N T B G base (sI D 20 10 (Int32.ofNat (i + 1))) E' (i + 1) c := by
  obtain ⟨h1, h2, h3, h4, h5, h6⟩ := h
  obtain ⟨E', z1, z2, z3⟩ := ev_next b.1 h2 hi
  have s := PT_s b.1 hi
  exact ⟨E', z1, z3, h1.tk hi, z2, h3.x z3, by rw [z3.2.2.2.1 65 (by unfold S5; omega)]; exact h4, by rw [z3.2.2.2.1 52 (by unfold S5; omega)]; exact h5, by omega⟩
theorem Inv.s {i c j : Nat} {v : Int32} (h : Inv f N T B G base D E i c) (hj : SP j) (hj2 : j < 56 ∨ 61 < j) (h65 : j ≠ 65) (h52 : j ≠ 52) : Inv f N T B G base D (sI E 39 j v) i c := ⟨h.1, h.2.1.s hj2, h.2.2.1.s hj, by rw [mI_sI, if_neg (fun q => h65 q.2.symm)]; exact h.2.2.2.1, by rw [mI_sI, if_neg (fun q => h52 q.2.symm)]; exact h.2.2.2.2.1, h.2.2.2.2.2⟩
theorem Inv.fr {i c a j : Nat} {v : Int32} (h : Inv f N T B G base D E i c) (ha : 80 ≤ a ∧ a ≤ 82) : Inv f N T B G base D (sI E a j v) i c := ⟨h.1, h.2.1.r (by omega) (by omega), h.2.2.1.r (by omega), by rw [row_n (by omega)]; exact h.2.2.2.1, by rw [row_n (by omega)]; exact h.2.2.2.2.1, h.2.2.2.2.2⟩
theorem Inv.c250 {i c : Nat} (h : Inv f N T B G base D E i c) (b : Bas f N T B) : c ≤ 250 := by
  have a := h.2.2.2.2.2
  have e := b.1.le h.1.2.2.2.2.2.1
  have n := b.1.1
  omega
/-- a fault where the reader stands -/
theorem Inv.fl {i c : Nat} (h : Inv f N T B G base D E i c) : Mod_fails0 E 39 = some ((), sI (sI E 39 65 1) 39 55 (Int32.ofNat (PT f N i))) ∧ Fal f N T B G base i c E D (sI (sI E 39 65 1) 39 55 (Int32.ofNat (PT f N i))) i := by
  refine ⟨?_, Nat.le_refl _, ⟨c, h.1⟩, (h.2.2.1.s (by unfold SP; omega)).s (by unfold SP; omega), ?_, ?_, fun a q1 q2 j q => ?_⟩
  · rw [ev_failR h.2.1.1 h.2.2.2.1, h.2.1.2.2.2.2.1]
  · rw [mI_sI, if_neg (by omega), mI_sI, if_pos ⟨rfl, rfl⟩]
  · rw [mI_sI, if_pos ⟨rfl, rfl⟩]
  · rw [row_n (by omega), row_n (by omega)]
/-- what a node and an entry add -/
def nod (E : Mm) (n : Nat) (kd x y z : Int32) : Mm := sI (sI (sI (sI (sI E 74 n kd) 75 n x) 76 n y) 77 n z) 39 52 (Int32.ofNat (n + 1))
def ent' (D : Mm) (c : Nat) (v : Int32) : Mm := sI (sI D 24 c v) 20 5 (Int32.ofNat (c + 1))
theorem nod_r {n : Nat} {kd x y z : Int32} : mI (nod E n kd x y z) 74 n = kd ∧ mI (nod E n kd x y z) 75 n = x ∧ mI (nod E n kd x y z) 76 n = y ∧ mI (nod E n kd x y z) 77 n = z := by
  unfold nod
  refine ⟨?_, ?_, ?_, ?_⟩
  · rw [row_n (by decide), row_n (by decide), row_n (by decide), row_n (by decide), mI_sI, if_pos ⟨rfl, rfl⟩]
  · rw [row_n (by decide), row_n (by decide), row_n (by decide), mI_sI, if_pos ⟨rfl, rfl⟩]
  · rw [row_n (by decide), row_n (by decide), mI_sI, if_pos ⟨rfl, rfl⟩]
  · rw [row_n (by decide), mI_sI, if_pos ⟨rfl, rfl⟩]
theorem nod_39 {n j : Nat} {kd x y z : Int32} (hj : j ≠ 52) : mI (nod E n kd x y z) 39 j = mI E 39 j := by
  unfold nod
  rw [mI_sI, if_neg (fun q => hj q.2), row_n (by decide), row_n (by decide), row_n (by decide), row_n (by decide)]
theorem nod_f {n a : Nat} {kd x y z : Int32} (ha : 80 ≤ a ∧ a ≤ 82) : mI (nod E n kd x y z) a = mI E a := by
  unfold nod
  rw [row_n (by omega), row_n (by omega), row_n (by omega), row_n (by omega), row_n (by omega)]
theorem nod_in {i c : Nat} {kd x y z v : Int32} (h : Inv f N T B G base D E i c) (b : Bas f N T B) (hP : 2 * (c + 1) ≤ PT f N i) : Inv f N T B G base (ent' D c v) (nod E (base + c) kd x y z) i (c + 1) := by
  have c250 := h.c250 b
  refine ⟨h.1.pt (by omega), ((((h.2.1.r (by decide) (by decide)).r (by decide) (by decide)).r (by decide) (by decide)).r (by decide) (by decide)).s (Or.inl (by decide)), ((((h.2.2.1.r (by omega)).r (by omega)).r (by omega)).r (by omega)).s (by unfold SP; omega), ?_, ?_, hP⟩
  · rw [nod_39 (by decide)]; exact h.2.2.2.1
  · unfold nod; rw [mI_sI, if_pos ⟨rfl, rfl⟩, Nat.add_assoc]
theorem nod_kp {c c' d : Nat} {kd x y z v : Int32} (h : Kp base c d D E D' E') (hc : c ≤ c') : Kp base c d D E (ent' D' c' v) (nod E' (base + c') kd x y z) := (((((((h.c24 hc).c20).en ⟨by decide, by decide⟩ (by omega)).en ⟨by decide, by decide⟩ (by omega)).en ⟨by decide, by decide⟩ (by omega)).en ⟨by decide, by decide⟩ (by omega)).e39)
theorem ent_r {c : Nat} {v : Int32} : mI (ent' D c v) 24 c = v := by
  unfold ent'
  rw [row_n (by decide), mI_sI, if_pos ⟨rfl, rfl⟩]
/-- a node on top of what was read -/
theorem PX.nod {c c' : Nat} {X Y Z : List Nat} {kd x y z v : Int32} (h : PX base D E c c' X Y) (hc : c ≤ c') (en : EN v kd x y z) (sk : Sk kd x y (base + c') Y Z) (hl : Z.length ≤ 40) : PX base (ent' D c' v) (nod E (base + c') kd x y z) c (c' + 1) X Z := by
  have k := nod_kp (base := base) (kd := kd) (x := x) (y := y) (z := z) (v := v) (Kp.rf (base := base) (D := D) (E := E) (c := c') (d := 0)) (Nat.le_refl _)
  have r := nod_r (E := E) (n := base + c') (kd := kd) (x := x) (y := y) (z := z)
  refine (h.cg (fun j q => k.1 j q) (fun a q1 q2 j q => k.2.1 a q1 q2 j q)).tr (PX.one ?_ ?_ hl) hc (by omega)
  · rw [ent_r, r.1, r.2.1, r.2.2.1, r.2.2.2]; exact en
  · rw [r.1, r.2.1, r.2.2.1]; exact sk
end ZQ
