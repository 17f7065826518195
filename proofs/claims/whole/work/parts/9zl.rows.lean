/-! rows of facts: both readers -/
section ZT
variable {B G D E D' E' D1 E1 : Mm} {f : Nat → Int32} {N T base : Nat}
/-- the rest of a row of facts -/
theorem lp_A (b : Bas f N T B) (hb : base ≤ 1800) {o : Nat} (ho : o ≤ 8) {rI : Mm → Nat → Int32 → Option (Int32 × Mm)} {dm xm sl fb : Nat} (hdm : dm ≤ 90) (hxm : xm ≤ 36) (hI : Spec f N T B G base rI 2 o (dm + 1) (xm + 1) (sl + 2) fb) : ∀ (dd n1 x i c g d : Nat) (X : List Nat) (D E : Mm), T - i ≤ dd → dd < n1 → x ≤ i → Inv f N T B G base D E i c → mI E 39 62 = Int32.ofNat o → mI E 39 69 = Int32.ofNat (d + 1) → mI E 80 d = 1 → mI E 81 d = 1 → mI E 82 d = Int32.ofNat g → g < base + c → d + 1 ≤ dm → X.length ≤ xm → (∃ D' E' i' m, Scribe_readAll_L12 rI n1 20 (Int32.ofNat o) (Int32.ofNat x) D = some (0, D') ∧ (∀ n, bd (Mod_chain_J90 39 (Int32.ofNat d) 0 1111 39 E) (fun _ M => Mod_condition_L15 (n + m) 39 M) = some (mI E' 39 63, E')) ∧ Fal f N T B G base i c E D' E' i' ∧ m ≤ 10 * (i' - i) + fb) ∨ (∃ D' E' i' c' g' m, Scribe_readAll_L12 rI n1 20 (Int32.ofNat o) (Int32.ofNat x) D = some (1, D') ∧ (∀ n, bd (Mod_chain_J90 39 (Int32.ofNat d) 0 1111 39 E) (fun _ M => Mod_condition_L15 (n + m) 39 M) = Mod_condition_L15 n 39 E') ∧ Inv f N T B G base D' E' i' c' ∧ mI E' 39 62 = Int32.ofNat o ∧ mI E' 39 69 = Int32.ofNat d ∧ mI E' 39 63 = Int32.ofNat g' ∧ c ≤ c' ∧ i ≤ i' ∧ Kp base c d D E D' E' ∧ PX base D' E' c c' (g :: X) (g' :: X) ∧ 2 * c' + PT f N i ≤ PT f N i' + 2 * c ∧ g' < base + c' ∧ m ≤ 10 * (i' - i)) := by
  intro dd
  have fin : ∀ (n1 x i c g d : Nat) (X : List Nat) (D E : Mm), x ≤ i → Inv f N T B G base D E i c → mI E 39 62 = Int32.ofNat o → mI E 39 69 = Int32.ofNat (d + 1) → mI E 82 d = Int32.ofNat g → g < base + c → d + 1 ≤ dm → ¬ KK f N T i = Int32.ofNat 22 → ∃ D' E' i' c' g' m, Scribe_readAll_L12 rI (n1 + 1) 20 (Int32.ofNat o) (Int32.ofNat x) D = some (1, D') ∧ (∀ n, bd (Mod_chain_J90 39 (Int32.ofNat d) 0 1111 39 E) (fun _ M => Mod_condition_L15 (n + m) 39 M) = Mod_condition_L15 n 39 E') ∧ Inv f N T B G base D' E' i' c' ∧ mI E' 39 62 = Int32.ofNat o ∧ mI E' 39 69 = Int32.ofNat d ∧ mI E' 39 63 = Int32.ofNat g' ∧ c ≤ c' ∧ i ≤ i' ∧ Kp base c d D E D' E' ∧ PX base D' E' c c' (g :: X) (g' :: X) ∧ 2 * c' + PT f N i ≤ PT f N i' + 2 * c ∧ g' < base + c' ∧ m ≤ 10 * (i' - i) := by
    intro n1 x i c g d X D E hx h h62 h69 h82 hg hd c1
    have sr := h.2.1.1
    have sc := h.1.sc b
    have D0 : (0 : Int32) ≤ Int32.ofNat d := of_nn _ (by omega)
    have D1 : ix (Int32.ofNat d) = d := ix_of _ (by omega)
    have w := ev_isW h.2.1 (k := 22) (by decide) (w := 1111) rfl
    rw [if_neg c1] at w
    have en := ev_endsR sr (d := d) (by omega) h69 (Int32.ofNat g)
    have tk := ev_take h.1 b (k := 22) (by decide)
    have c1' : ¬ KK f N T i = 22 := c1
    rw [if_neg c1', if_neg c1'] at tk
    refine ⟨D, sI (sI E 39 63 (Int32.ofNat g)) 39 69 (Int32.ofNat d), i, c, g, 0, ?_, fun n => ?_, (h.s (by unfold SP; omega) (Or.inr (by decide)) (by decide) (by decide)).s (by unfold SP; omega) (Or.inr (by decide)) (by decide) (by decide), ?_, ?_, ?_, Nat.le_refl _, Nat.le_refl _, Kp.rf.e39.e39, ⟨fun _ => g :: X, rfl, fun j q1 q2 => by omega, rfl⟩, by omega, hg, by omega⟩
    · show Scribe_readAll_B12 _ _ _ _ _ _ = _
      unfold Scribe_readAll_B12
      simp only [kO_t sc.k20, ck_t, tk, bd_s, if_true]
      split <;> rfl
    · unfold Mod_chain_J90
      simp only [kO_t sr.k39, ck_t, w, bd_s, if_true, sr.r39_68, nn_s, kA_t sr.k82 D0 (show ix (Int32.ofNat d) < 100 by omega), D1, h82, en]
      rfl
    · rw [mI_sI, if_neg (by omega), mI_sI, if_neg (by omega)]; exact h62
    · rw [mI_sI, if_pos ⟨rfl, rfl⟩]
    · rw [mI_sI, if_neg (by omega), mI_sI, if_pos ⟨rfl, rfl⟩]
  induction dd with
  | zero =>
    intro n1 x i c g d X D E hdd hn hx h h62 h69 h80 h81 h82 hg hd hX
    obtain ⟨n1, rfl⟩ : ∃ y, n1 = y + 1 := ⟨n1 - 1, by omega⟩
    refine Or.inr (fin n1 x i c g d X D E hx h h62 h69 h82 hg hd ?_)
    rw [KK_T (by omega)]
    exact of_ne (a := 31) (by decide) (by decide) (by decide)
  | succ dd ih =>
    intro n1 x i c g d X D E hdd hn hx h h62 h69 h80 h81 h82 hg hd hX
    obtain ⟨n1, rfl⟩ : ∃ y, n1 = y + 1 := ⟨n1 - 1, by omega⟩
    by_cases c1 : KK f N T i = Int32.ofNat 22
    · obtain ⟨hi, hP⟩ := KK_w b.1 (k := 22) (by decide) c1
      have sr := h.2.1.1
      have sc := h.1.sc b
      have hT := b.1.2.2.1
      have hN := b.1.1
      obtain ⟨E1, x1, r1, h1⟩ := h.nx b hi
      have sr1 := h1.2.1.1
      have e69 : mI E1 39 69 = Int32.ofNat (d + 1) := by rw [r1.2.2.2.1 69 (by unfold S5; omega)]; exact h69
      have bg := ev_beginR sr1 (d := d + 1) (by omega) e69 2
      have pf := psh_f (E := E1) (d := d + 1) (w := 2)
      have tk := ev_take h.1 b (k := 22) (by decide)
      have c1' : KK f N T i = 22 := c1
      rw [if_pos c1', if_pos c1'] at tk
      have e9 : mI D 20 9 = Int32.ofNat T := by rw [h.1.2.2.1 9 (by decide) (by decide)]; exact b.2.2.2.2.2.1
      have w := ev_isW h.2.1 (k := 22) (by decide) (w := 1111) rfl
      rw [if_pos c1] at w
      have J90 : Mod_chain_J90 39 (Int32.ofNat d) 0 1111 39 E = some ((), psh E1 (d + 1) 2) := by
        unfold Mod_chain_J90 Mod_chain_J110
        simp only [kO_t sr.k39, ck_t, w, bd_s, if_neg (show ¬ (1 : Int32) = 0 by decide), x1, if_true, kO_t sr1.k39, bg]
        rfl
      have cls : Scribe_readAll_L12 rI (n1 + 1) 20 (Int32.ofNat o) (Int32.ofNat x) D = bd (rI (sI D 20 10 (Int32.ofNat (i + 1))) 20 (Int32.ofNat o)) (fun r8 M9 => if r8 = 0 then some (0, M9) else ck (kO M9 20 8 11) (bd (Scribe_put M9 20 (-1)) (fun r11 M12 => Scribe_readAll_L12 rI n1 20 (Int32.ofNat o) (Int32.ofNat (x + 1)) M12))) := by
        have k1 : kO (sI D 20 10 (Int32.ofNat (i + 1))) 20 8 11 = true := kO_t sc.k20
        show Scribe_readAll_B12 _ _ _ _ _ _ = _
        unfold Scribe_readAll_B12
        simp only [kO_t sc.k20, ck_t, e9, if_neg (show ¬ Int32.ofNat T ≤ Int32.ofNat x from fun q => by have := (of_le T x (by omega) (by omega)).mp q; omega), tk, bd_s, if_neg (show ¬ (1 : Int32) = 0 by decide), k1, of_s1 x (by omega)]
      have n39 : ∀ {j : Nat}, ¬ S5 j → j ≠ 69 → mI (psh E1 (d + 1) 2) 39 j = mI E 39 j := fun {j} q1 q2 => by rw [psh_39 q2, r1.2.2.2.1 j q1]
      have kp1 : Kp base c (d + 1) D E (sI D 20 10 (Int32.ofNat (i + 1))) (psh E1 (d + 1) 2) := psh_kp ((Kp.rf.c20).ex r1) (Nat.le_refl _)
      rcases hI (i + 1) c (d + 1) (g :: X) (sI D 20 10 (Int32.ofNat (i + 1))) (psh E1 (d + 1) 2) (psh_in h1) (by rw [n39 (by unfold S5; omega) (by decide)]; exact h62) pf.2.2.2 pf.1 pf.2.1 pf.2.2.1 (by omega) (by show X.length + 1 ≤ xm + 1; omega) with ⟨D', E', i', m, p1, p2, p3, p4⟩ | ⟨D', E', i', c', g', m, p1, p2, p3, p4⟩
      · refine Or.inl ⟨D', E', i', m, ?_, fun n => ?_, p3.mn (by omega) (Nat.le_refl _) (fun a q1 q2 j q => kp1.2.1 a q1 q2 j q), by have := p3.1; omega⟩
        · rw [cls, p1, bd_s, if_pos rfl]
        · rw [J90, bd_s]; exact p2 n
      · obtain ⟨s1, s2, s3, s4, s5, s6, s7, s8, s9⟩ := p3
        have sc' := s1.1.sc b
        have sr' := s1.2.1.1
        have c250 := s1.c250 b
        have hc' : 2 * (c' + 1) ≤ PT f N i' := by
          have := h.2.2.2.2.2
          omega
        have pu := ev_put s1.1 b (by omega) (-1)
        have fr : ∀ a, 80 ≤ a → a ≤ 82 → mI E' a d = mI E a d := fun a q1 q2 => by rw [s7.2.2.1 a q1 q2 d (by omega)]; exact kp1.2.2.1 a q1 q2 d (by omega)
        have f80 : mI E' 80 d = 1 := by rw [fr 80 (by decide) (by decide)]; exact h80
        have f81 : mI E' 81 d = 1 := by rw [fr 81 (by decide) (by decide)]; exact h81
        have f82 : mI E' 82 d = Int32.ofNat g := by rw [fr 82 (by decide) (by decide)]; exact h82
        have go' := fun n => st_go sr' s1.2.2.2.1 (d := d) (by omega) s3 n
        simp only [f80, if_neg (show ¬ (1 : Int32) = 2 by decide), if_neg (show ¬ (1 : Int32) = 0 by decide)] at go'
        have D0 : (0 : Int32) ≤ Int32.ofNat d := of_nn _ (by omega)
        have D1 : ix (Int32.ofNat d) = d := ix_of _ (by omega)
        have nd := ev_nodeR sr' (n := base + c') (by omega) s1.2.2.2.2.1 2 (Int32.ofNat g) (Int32.ofNat g') 0
        have srn : SR (nod E' (base + c') 2 (Int32.ofNat g) (Int32.ofNat g') 0) := sr'
        have hn := nod_in (kd := 2) (x := Int32.ofNat g) (y := Int32.ofNat g') (z := 0) (v := (-1)) s1 b hc'
        have hn2 : Inv f N T B G base (ent' D' c' (-1)) (sI (nod E' (base + c') 2 (Int32.ofNat g) (Int32.ofNat g') 0) 82 d (Int32.ofNat (base + c'))) i' (c' + 1) := hn.fr ⟨by decide, by decide⟩
        have ch : (0 : Int32) ≤ Int32.ofNat g → Mod_chain E' 39 (Int32.ofNat d) 0 = Mod_chain_J90 39 (Int32.ofNat d) 0 1111 39 (sI (nod E' (base + c') 2 (Int32.ofNat g) (Int32.ofNat g') 0) 82 d (Int32.ofNat (base + c'))) := fun g0 => by
          have nd' : Mod_node E' 39 2 (Int32.ofNat g) (Int32.ofNat g') 0 = some (Int32.ofNat (base + c'), nod E' (base + c') 2 (Int32.ofNat g) (Int32.ofNat g') 0) := nd
          unfold Mod_chain Mod_chain_J61 Mod_chain_J75
          simp only [kO_t sr'.k39, ck_t, sr'.r39_67, sr'.r39_68, nn_s, kA_t sr'.k81 D0 (show ix (Int32.ofNat d) < 100 by omega), kA_t sr'.k82 D0 (show ix (Int32.ofNat d) < 100 by omega), D1, f81, f82, if_neg (show ¬ (1 : Int32) = 0 by decide), if_pos g0, if_true, s4, nd', bd_s, kA_t srn.k82 D0 (show ix (Int32.ofNat d) < 100 by omega)]
        have gnn : (0 : Int32) ≤ Int32.ofNat g := of_nn _ (by omega)
        have ch := ch gnn
        have n39' : ∀ {j : Nat}, j ≠ 52 → mI (sI (nod E' (base + c') 2 (Int32.ofNat g) (Int32.ofNat g') 0) 82 d (Int32.ofNat (base + c'))) 39 j = mI E' 39 j := fun {j} q => by rw [row_n (by decide), nod_39 q]
        have fr' : ∀ a, 80 ≤ a → a < 82 → mI (sI (nod E' (base + c') 2 (Int32.ofNat g) (Int32.ofNat g') 0) 82 d (Int32.ofNat (base + c'))) a d = mI E' a d := fun a q1 q2 => by rw [row_n (by omega), nod_f ⟨q1, by omega⟩]
        have px1 : PX base (ent' D' c' (-1)) (sI (nod E' (base + c') 2 (Int32.ofNat g) (Int32.ofNat g') 0) 82 d (Int32.ofNat (base + c'))) c (c' + 1) (g :: X) ((base + c') :: X) := by
          refine (s8.nod (by omega) (Or.inr (Or.inr (Or.inl ⟨rfl, rfl⟩))) (Z := (base + c') :: X) ?_ (by show X.length + 1 ≤ 40; omega)).cg (fun _ _ => rfl) (fun a q1 q2 j q => by rw [row_n (by omega)])
          unfold Sk
          rw [if_neg (by decide), if_neg (by decide)]
          exact ⟨g, g', X, rfl, rfl, rfl, rfl⟩
        have kp0 : Kp base c (d + 1) D E (ent' D' c' (-1)) (nod E' (base + c') 2 (Int32.ofNat g) (Int32.ofNat g') 0) := nod_kp (kp1.tr s7 (Nat.le_refl _) (Nat.le_refl _)) (by omega)
        have kp3 : Kp base c d D E (ent' D' c' (-1)) (nod E' (base + c') 2 (Int32.ofNat g) (Int32.ofNat g') 0) := ⟨kp0.1, kp0.2.1, fun a q1 q2 j q => kp0.2.2.1 a q1 q2 j (by omega), kp0.2.2.2⟩
        have kp2 : Kp base c d D E (ent' D' c' (-1)) (sI (nod E' (base + c') 2 (Int32.ofNat g) (Int32.ofNat g') 0) 82 d (Int32.ofNat (base + c'))) := kp3.ef ⟨by decide, by decide⟩ (Nat.le_refl _)
        rcases ih n1 (x + 1) i' (c' + 1) (base + c') d X _ _ (by omega) (by omega) (by omega) hn2 (by rw [n39' (by decide)]; exact s2) (by rw [n39' (by decide)]; exact s3) (by rw [fr' 80 (by decide) (by decide)]; exact f80) (by rw [fr' 81 (by decide) (by decide)]; exact f81) (by rw [mI_sI, if_pos ⟨rfl, rfl⟩]) (by omega) hd hX with ⟨D2, E2, i2, m2, y1, y2, y3, y4⟩ | ⟨D2, E2, i2, c2, g2, m2, y1, y2, y3, y4, y5, y6, y7, y8, y9, y10, y11, y12, y13⟩
        · refine Or.inl ⟨D2, E2, i2, m2 + 1 + m, ?_, fun n => ?_, y3.mn (by omega) (by omega) (fun a q1 q2 j q => kp2.2.1 a q1 q2 j q), by have := y3.1; omega⟩
          · rw [cls, p1, bd_s, if_neg (by decide)]
            simp only [kO_t sc'.k20, ck_t, pu, bd_s]
            exact y1
          · rw [J90, bd_s, show n + (m2 + 1 + m) = (n + m2 + 1) + m by omega]
            show Mod_condition_L15 (n + m2 + 1 + m) 39 (psh E1 (d + 1) 2) = _
            rw [p2 (n + m2 + 1), go', ch]
            exact y2 n
        · refine Or.inr ⟨D2, E2, i2, c2, g2, m2 + 1 + m, ?_, fun n => ?_, y3, y4, y5, y6, by omega, by omega, kp2.tr y9 (by omega) (Nat.le_refl _), ?_, by omega, y12, by omega⟩
          · rw [cls, p1, bd_s, if_neg (by decide)]
            simp only [kO_t sc'.k20, ck_t, pu, bd_s]
            exact y1
          · rw [J90, bd_s, show n + (m2 + 1 + m) = (n + m2 + 1) + m by omega]
            show Mod_condition_L15 (n + m2 + 1 + m) 39 (psh E1 (d + 1) 2) = _
            rw [p2 (n + m2 + 1), go', ch]
            exact y2 n
          · exact (px1.cg (fun j q => y9.1 j q) (fun a q1 q2 j q => y9.2.1 a q1 q2 j q)).tr y10 (by omega) y7
    · exact Or.inr (fin n1 x i c g d X D E hx h h62 h69 h82 hg hd c1)
theorem spec_A (b : Bas f N T B) (hb : base ≤ 1800) {o : Nat} (ho : o ≤ 8) {rI : Mm → Nat → Int32 → Option (Int32 × Mm)} {dm xm sl fb : Nat} (hdm : dm ≤ 90) (hxm : xm ≤ 36) (hI : Spec f N T B G base rI 2 o (dm + 1) (xm + 1) (sl + 2) fb) : Spec f N T B G base (Scribe_readAll rI) 1 o dm xm sl (fb + 2) := by
  intro i c d X D E h h62 h69 h80 h81 h82 hd hX
  have sr := h.2.1.1
  have sc := h.1.sc b
  have D0 : (0 : Int32) ≤ Int32.ofNat d := of_nn _ (by omega)
  have D1 : ix (Int32.ofNat d) = d := ix_of _ (by omega)
  have go := fun n => st_go sr h.2.2.2.1 (d := d) (by omega) h69 n
  simp only [h80, if_neg (show ¬ (1 : Int32) = 2 by decide), if_neg (show ¬ (1 : Int32) = 0 by decide)] at go
  have bg := ev_beginR (E := sI E 81 d 1) sr (d := d + 1) (by omega) h69 2
  have ch : Mod_chain E 39 (Int32.ofNat d) 0 = some ((), psh (sI E 81 d 1) (d + 1) 2) := by
    unfold Mod_chain Mod_chain_J26
    simp only [kO_t sr.k39, ck_t, sr.r39_67, nn_s, kA_t sr.k81 D0 (show ix (Int32.ofNat d) < 100 by omega), D1, h81, if_true, kO_sI, bg, bd_s]
    rfl
  have pf := psh_f (E := sI E 81 d 1) (d := d + 1) (w := 2)
  have hin : Inv f N T B G base D (psh (sI E 81 d 1) (d + 1) 2) i c := psh_in (h.fr ⟨by decide, by decide⟩)
  have n39 : ∀ {j : Nat}, j ≠ 69 → mI (psh (sI E 81 d 1) (d + 1) 2) 39 j = mI E 39 j := fun {j} q => by rw [psh_39 q, row_n (by decide)]
  have kp1 : Kp base c d D E D (psh (sI E 81 d 1) (d + 1) 2) := psh_kp (Kp.rf.ef ⟨by decide, by decide⟩ (Nat.le_refl _)) (by omega)
  have fr1 : mI (psh (sI E 81 d 1) (d + 1) 2) 80 d = 1 ∧ mI (psh (sI E 81 d 1) (d + 1) 2) 81 d = 1 ∧ mI (psh (sI E 81 d 1) (d + 1) 2) 82 d = -1 := by
    unfold psh
    refine ⟨?_, ?_, ?_⟩
    · rw [row_n (by decide), row_n (by decide), row_n (by decide), mI_sI, if_neg (by omega), row_n (by decide)]; exact h80
    · rw [row_n (by decide), row_n (by decide), mI_sI, if_neg (by omega), row_n (by decide), mI_sI, if_pos ⟨rfl, rfl⟩]
    · rw [row_n (by decide), mI_sI, if_neg (by omega), row_n (by decide), row_n (by decide), row_n (by decide)]; exact h82
  have cls : Scribe_readAll rI D 20 (Int32.ofNat o) = bd (rI D 20 (Int32.ofNat o)) (fun r2 M3 => if r2 = 0 then some (0, M3) else Scribe_readAll_L12 rI fu 20 (Int32.ofNat o) 0 M3) := by
    unfold Scribe_readAll
    rw [kO_t sc.k20, ck_t]
  rcases hI i c (d + 1) X D (psh (sI E 81 d 1) (d + 1) 2) hin (by rw [n39 (by decide)]; exact h62) pf.2.2.2 pf.1 pf.2.1 pf.2.2.1 (by omega) (by omega) with ⟨D', E', i', m, p1, p2, p3, p4⟩ | ⟨D', E', i', c', g, m, p1, p2, p3, p4⟩
  · refine Or.inl ⟨D', E', i', m + 1, ?_, fun n => ?_, p3.mn (Nat.le_refl _) (Nat.le_refl _) (fun a q1 q2 j q => kp1.2.1 a q1 q2 j q), by omega⟩
    · rw [cls, p1, bd_s, if_pos rfl]
    · rw [← Nat.add_assoc, go, ch, bd_s]; exact p2 n
  · obtain ⟨s1, s2, s3, s4, s5, s6, s7, s8, s9⟩ := p3
    have sr' := s1.2.1.1
    have fr : ∀ a, 80 ≤ a → a ≤ 82 → mI E' a d = mI (psh (sI E 81 d 1) (d + 1) 2) a d := fun a q1 q2 => s7.2.2.1 a q1 q2 d (by omega)
    have f80 : mI E' 80 d = 1 := by rw [fr 80 (by decide) (by decide)]; exact fr1.1
    have f81 : mI E' 81 d = 1 := by rw [fr 81 (by decide) (by decide)]; exact fr1.2.1
    have f82 : mI E' 82 d = -1 := by rw [fr 82 (by decide) (by decide)]; exact fr1.2.2
    have go' := fun n => st_go sr' s1.2.2.2.1 (d := d) (by omega) s3 n
    simp only [f80, if_neg (show ¬ (1 : Int32) = 2 by decide), if_neg (show ¬ (1 : Int32) = 0 by decide)] at go'
    have ch2 : Mod_chain E' 39 (Int32.ofNat d) 0 = Mod_chain_J90 39 (Int32.ofNat d) 0 1111 39 (sI E' 82 d (Int32.ofNat g)) := by
      unfold Mod_chain Mod_chain_J75
      simp only [kO_t sr'.k39, ck_t, sr'.r39_67, sr'.r39_68, nn_s, kA_t sr'.k81 D0 (show ix (Int32.ofNat d) < 100 by omega), kA_t sr'.k82 D0 (show ix (Int32.ofNat d) < 100 by omega), D1, f81, f82, if_neg (show ¬ (1 : Int32) = 0 by decide), if_neg (show ¬ (0 : Int32) ≤ -1 by decide), s4, if_true]
    have h2 : Inv f N T B G base D' (sI E' 82 d (Int32.ofNat g)) i' c' := s1.fr ⟨by decide, by decide⟩
    have kp2 : Kp base c d D E D' (sI E' 82 d (Int32.ofNat g)) := (kp1.tr s7 (Nat.le_refl _) (by omega)).ef ⟨by decide, by decide⟩ (Nat.le_refl _)
    have px1 : PX base D' (sI E' 82 d (Int32.ofNat g)) c c' X (g :: X) := s8.cg (fun _ _ => rfl) (fun a q1 q2 j q => by rw [row_n (by omega)])
    have hT := b.1.2.2.1
    have hN := b.1.1
    rcases lp_A b hb ho hdm hxm hI T fu 0 i' c' g d X D' (sI E' 82 d (Int32.ofNat g)) (by omega) (by unfold fu; omega) (by omega) h2 (by rw [row_n (by decide)]; exact s2) (by rw [row_n (by decide)]; exact s3) (by rw [row_n (by decide)]; exact f80) (by rw [row_n (by decide)]; exact f81) (by rw [mI_sI, if_pos ⟨rfl, rfl⟩]) (by omega) hd hX with ⟨D2, E2, i2, m2, y1, y2, y3, y4⟩ | ⟨D2, E2, i2, c2, g2, m2, y1, y2, y3, y4, y5, y6, y7, y8, y9, y10, y11, y12, y13⟩
    · refine Or.inl ⟨D2, E2, i2, m2 + 1 + m + 1, ?_, fun n => ?_, y3.mn (by omega) (by omega) (fun a q1 q2 j q => kp2.2.1 a q1 q2 j q), by have := y3.1; omega⟩
      · rw [cls, p1, bd_s, if_neg (by decide)]; exact y1
      · rw [show n + (m2 + 1 + m + 1) = (n + m2 + 1 + m) + 1 by omega, go, ch, bd_s]
        show Mod_condition_L15 (n + m2 + 1 + m) 39 (psh (sI E 81 d 1) (d + 1) 2) = _
        rw [p2 (n + m2 + 1), go', ch2]
        exact y2 n
    · refine Or.inr ⟨D2, E2, i2, c2, g2, m2 + 1 + m + 1, ?_, fun n => ?_, ⟨y3, y4, y5, y6, by omega, by omega, kp2.tr y9 (by omega) (Nat.le_refl _), ?_, by omega⟩, by omega⟩
      · rw [cls, p1, bd_s, if_neg (by decide)]; exact y1
      · rw [show n + (m2 + 1 + m + 1) = (n + m2 + 1 + m) + 1 by omega, go, ch, bd_s]
        show Mod_condition_L15 (n + m2 + 1 + m) 39 (psh (sI E 81 d 1) (d + 1) 2) = _
        rw [p2 (n + m2 + 1), go', ch2]
        exact y2 n
      · exact (px1.cg (fun j q => y9.1 j q) (fun a q1 q2 j q => y9.2.1 a q1 q2 j q)).tr y10 (by omega) y7
/-- the rest of a row of alls -/
theorem lp_C (b : Bas f N T B) (hb : base ≤ 1800) {o : Nat} (ho : o ≤ 8) {rI : Mm → Nat → Int32 → Option (Int32 × Mm)} {dm xm sl fb : Nat} (hdm : dm ≤ 90) (hxm : xm ≤ 36) (hI : Spec f N T B G base rI 1 o (dm + 1) (xm + 1) (sl + 2) fb) : ∀ (dd n1 x i c g d : Nat) (X : List Nat) (D E : Mm), T - i ≤ dd → dd < n1 → x ≤ i → Inv f N T B G base D E i c → mI E 39 62 = Int32.ofNat o → mI E 39 69 = Int32.ofNat (d + 1) → mI E 80 d = 0 → mI E 81 d = 1 → mI E 82 d = Int32.ofNat g → g < base + c → d + 1 ≤ dm → X.length ≤ xm → (∃ D' E' i' m, Scribe_readCondition_L12 rI n1 20 (Int32.ofNat o) (Int32.ofNat x) D = some (0, D') ∧ (∀ n, bd (Mod_chain_J90 39 (Int32.ofNat d) 1 423 39 E) (fun _ M => Mod_condition_L15 (n + m) 39 M) = some (mI E' 39 63, E')) ∧ Fal f N T B G base i c E D' E' i' ∧ m ≤ 10 * (i' - i) + fb) ∨ (∃ D' E' i' c' g' m, Scribe_readCondition_L12 rI n1 20 (Int32.ofNat o) (Int32.ofNat x) D = some (1, D') ∧ (∀ n, bd (Mod_chain_J90 39 (Int32.ofNat d) 1 423 39 E) (fun _ M => Mod_condition_L15 (n + m) 39 M) = Mod_condition_L15 n 39 E') ∧ Inv f N T B G base D' E' i' c' ∧ mI E' 39 62 = Int32.ofNat o ∧ mI E' 39 69 = Int32.ofNat d ∧ mI E' 39 63 = Int32.ofNat g' ∧ c ≤ c' ∧ i ≤ i' ∧ Kp base c d D E D' E' ∧ PX base D' E' c c' (g :: X) (g' :: X) ∧ 2 * c' + PT f N i ≤ PT f N i' + 2 * c ∧ g' < base + c' ∧ m ≤ 10 * (i' - i)) := by
  intro dd
  have fin : ∀ (n1 x i c g d : Nat) (X : List Nat) (D E : Mm), x ≤ i → Inv f N T B G base D E i c → mI E 39 62 = Int32.ofNat o → mI E 39 69 = Int32.ofNat (d + 1) → mI E 82 d = Int32.ofNat g → g < base + c → d + 1 ≤ dm → ¬ KK f N T i = Int32.ofNat 21 → ∃ D' E' i' c' g' m, Scribe_readCondition_L12 rI (n1 + 1) 20 (Int32.ofNat o) (Int32.ofNat x) D = some (1, D') ∧ (∀ n, bd (Mod_chain_J90 39 (Int32.ofNat d) 1 423 39 E) (fun _ M => Mod_condition_L15 (n + m) 39 M) = Mod_condition_L15 n 39 E') ∧ Inv f N T B G base D' E' i' c' ∧ mI E' 39 62 = Int32.ofNat o ∧ mI E' 39 69 = Int32.ofNat d ∧ mI E' 39 63 = Int32.ofNat g' ∧ c ≤ c' ∧ i ≤ i' ∧ Kp base c d D E D' E' ∧ PX base D' E' c c' (g :: X) (g' :: X) ∧ 2 * c' + PT f N i ≤ PT f N i' + 2 * c ∧ g' < base + c' ∧ m ≤ 10 * (i' - i) := by
    intro n1 x i c g d X D E hx h h62 h69 h82 hg hd c1
    have sr := h.2.1.1
    have sc := h.1.sc b
    have D0 : (0 : Int32) ≤ Int32.ofNat d := of_nn _ (by omega)
    have D1 : ix (Int32.ofNat d) = d := ix_of _ (by omega)
    have w := ev_isW h.2.1 (k := 21) (by decide) (w := 423) rfl
    rw [if_neg c1] at w
    have en := ev_endsR sr (d := d) (by omega) h69 (Int32.ofNat g)
    have tk := ev_take h.1 b (k := 21) (by decide)
    have c1' : ¬ KK f N T i = 21 := c1
    rw [if_neg c1', if_neg c1'] at tk
    refine ⟨D, sI (sI E 39 63 (Int32.ofNat g)) 39 69 (Int32.ofNat d), i, c, g, 0, ?_, fun n => ?_, (h.s (by unfold SP; omega) (Or.inr (by decide)) (by decide) (by decide)).s (by unfold SP; omega) (Or.inr (by decide)) (by decide) (by decide), ?_, ?_, ?_, Nat.le_refl _, Nat.le_refl _, Kp.rf.e39.e39, ⟨fun _ => g :: X, rfl, fun j q1 q2 => by omega, rfl⟩, by omega, hg, by omega⟩
    · show Scribe_readCondition_B12 _ _ _ _ _ _ = _
      unfold Scribe_readCondition_B12
      simp only [kO_t sc.k20, ck_t, tk, bd_s, if_true]
      split <;> rfl
    · unfold Mod_chain_J90
      simp only [kO_t sr.k39, ck_t, w, bd_s, if_true, sr.r39_68, nn_s, kA_t sr.k82 D0 (show ix (Int32.ofNat d) < 100 by omega), D1, h82, en]
      rfl
    · rw [mI_sI, if_neg (by omega), mI_sI, if_neg (by omega)]; exact h62
    · rw [mI_sI, if_pos ⟨rfl, rfl⟩]
    · rw [mI_sI, if_neg (by omega), mI_sI, if_pos ⟨rfl, rfl⟩]
  induction dd with
  | zero =>
    intro n1 x i c g d X D E hdd hn hx h h62 h69 h80 h81 h82 hg hd hX
    obtain ⟨n1, rfl⟩ : ∃ y, n1 = y + 1 := ⟨n1 - 1, by omega⟩
    refine Or.inr (fin n1 x i c g d X D E hx h h62 h69 h82 hg hd ?_)
    rw [KK_T (by omega)]
    exact of_ne (a := 31) (by decide) (by decide) (by decide)
  | succ dd ih =>
    intro n1 x i c g d X D E hdd hn hx h h62 h69 h80 h81 h82 hg hd hX
    obtain ⟨n1, rfl⟩ : ∃ y, n1 = y + 1 := ⟨n1 - 1, by omega⟩
    by_cases c1 : KK f N T i = Int32.ofNat 21
    · obtain ⟨hi, hP⟩ := KK_w b.1 (k := 21) (by decide) c1
      have sr := h.2.1.1
      have sc := h.1.sc b
      have hT := b.1.2.2.1
      have hN := b.1.1
      obtain ⟨E1, x1, r1, h1⟩ := h.nx b hi
      have sr1 := h1.2.1.1
      have e69 : mI E1 39 69 = Int32.ofNat (d + 1) := by rw [r1.2.2.2.1 69 (by unfold S5; omega)]; exact h69
      have bg := ev_beginR sr1 (d := d + 1) (by omega) e69 1
      have pf := psh_f (E := E1) (d := d + 1) (w := 1)
      have tk := ev_take h.1 b (k := 21) (by decide)
      have c1' : KK f N T i = 21 := c1
      rw [if_pos c1', if_pos c1'] at tk
      have e9 : mI D 20 9 = Int32.ofNat T := by rw [h.1.2.2.1 9 (by decide) (by decide)]; exact b.2.2.2.2.2.1
      have w := ev_isW h.2.1 (k := 21) (by decide) (w := 423) rfl
      rw [if_pos c1] at w
      have J90 : Mod_chain_J90 39 (Int32.ofNat d) 1 423 39 E = some ((), psh E1 (d + 1) 1) := by
        unfold Mod_chain_J90 Mod_chain_J110
        simp only [kO_t sr.k39, ck_t, w, bd_s, if_neg (show ¬ (1 : Int32) = 0 by decide), x1, if_true, kO_t sr1.k39, bg]
        rfl
      have cls : Scribe_readCondition_L12 rI (n1 + 1) 20 (Int32.ofNat o) (Int32.ofNat x) D = bd (rI (sI D 20 10 (Int32.ofNat (i + 1))) 20 (Int32.ofNat o)) (fun r8 M9 => if r8 = 0 then some (0, M9) else ck (kO M9 20 8 11) (bd (Scribe_put M9 20 (-2)) (fun r11 M12 => Scribe_readCondition_L12 rI n1 20 (Int32.ofNat o) (Int32.ofNat (x + 1)) M12))) := by
        have k1 : kO (sI D 20 10 (Int32.ofNat (i + 1))) 20 8 11 = true := kO_t sc.k20
        show Scribe_readCondition_B12 _ _ _ _ _ _ = _
        unfold Scribe_readCondition_B12
        simp only [kO_t sc.k20, ck_t, e9, if_neg (show ¬ Int32.ofNat T ≤ Int32.ofNat x from fun q => by have := (of_le T x (by omega) (by omega)).mp q; omega), tk, bd_s, if_neg (show ¬ (1 : Int32) = 0 by decide), k1, of_s1 x (by omega)]
      have n39 : ∀ {j : Nat}, ¬ S5 j → j ≠ 69 → mI (psh E1 (d + 1) 1) 39 j = mI E 39 j := fun {j} q1 q2 => by rw [psh_39 q2, r1.2.2.2.1 j q1]
      have kp1 : Kp base c (d + 1) D E (sI D 20 10 (Int32.ofNat (i + 1))) (psh E1 (d + 1) 1) := psh_kp ((Kp.rf.c20).ex r1) (Nat.le_refl _)
      rcases hI (i + 1) c (d + 1) (g :: X) (sI D 20 10 (Int32.ofNat (i + 1))) (psh E1 (d + 1) 1) (psh_in h1) (by rw [n39 (by unfold S5; omega) (by decide)]; exact h62) pf.2.2.2 pf.1 pf.2.1 pf.2.2.1 (by omega) (by show X.length + 1 ≤ xm + 1; omega) with ⟨D', E', i', m, p1, p2, p3, p4⟩ | ⟨D', E', i', c', g', m, p1, p2, p3, p4⟩
      · refine Or.inl ⟨D', E', i', m, ?_, fun n => ?_, p3.mn (by omega) (Nat.le_refl _) (fun a q1 q2 j q => kp1.2.1 a q1 q2 j q), by have := p3.1; omega⟩
        · rw [cls, p1, bd_s, if_pos rfl]
        · rw [J90, bd_s]; exact p2 n
      · obtain ⟨s1, s2, s3, s4, s5, s6, s7, s8, s9⟩ := p3
        have sc' := s1.1.sc b
        have sr' := s1.2.1.1
        have c250 := s1.c250 b
        have hc' : 2 * (c' + 1) ≤ PT f N i' := by
          have := h.2.2.2.2.2
          omega
        have pu := ev_put s1.1 b (by omega) (-2)
        have fr : ∀ a, 80 ≤ a → a ≤ 82 → mI E' a d = mI E a d := fun a q1 q2 => by rw [s7.2.2.1 a q1 q2 d (by omega)]; exact kp1.2.2.1 a q1 q2 d (by omega)
        have f80 : mI E' 80 d = 0 := by rw [fr 80 (by decide) (by decide)]; exact h80
        have f81 : mI E' 81 d = 1 := by rw [fr 81 (by decide) (by decide)]; exact h81
        have f82 : mI E' 82 d = Int32.ofNat g := by rw [fr 82 (by decide) (by decide)]; exact h82
        have go' := fun n => st_go sr' s1.2.2.2.1 (d := d) (by omega) s3 n
        simp only [f80, if_neg (show ¬ (0 : Int32) = 2 by decide), if_true] at go'
        have D0 : (0 : Int32) ≤ Int32.ofNat d := of_nn _ (by omega)
        have D1 : ix (Int32.ofNat d) = d := ix_of _ (by omega)
        have nd := ev_nodeR sr' (n := base + c') (by omega) s1.2.2.2.2.1 3 (Int32.ofNat g) (Int32.ofNat g') 0
        have srn : SR (nod E' (base + c') 3 (Int32.ofNat g) (Int32.ofNat g') 0) := sr'
        have hn := nod_in (kd := 3) (x := Int32.ofNat g) (y := Int32.ofNat g') (z := 0) (v := (-2)) s1 b hc'
        have hn2 : Inv f N T B G base (ent' D' c' (-2)) (sI (nod E' (base + c') 3 (Int32.ofNat g) (Int32.ofNat g') 0) 82 d (Int32.ofNat (base + c'))) i' (c' + 1) := hn.fr ⟨by decide, by decide⟩
        have ch : (0 : Int32) ≤ Int32.ofNat g → Mod_chain E' 39 (Int32.ofNat d) 1 = Mod_chain_J90 39 (Int32.ofNat d) 1 423 39 (sI (nod E' (base + c') 3 (Int32.ofNat g) (Int32.ofNat g') 0) 82 d (Int32.ofNat (base + c'))) := fun g0 => by
          have nd' : Mod_node E' 39 3 (Int32.ofNat g) (Int32.ofNat g') 0 = some (Int32.ofNat (base + c'), nod E' (base + c') 3 (Int32.ofNat g) (Int32.ofNat g') 0) := nd
          unfold Mod_chain Mod_chain_J61 Mod_chain_J75
          simp only [kO_t sr'.k39, ck_t, sr'.r39_67, sr'.r39_68, nn_s, kA_t sr'.k81 D0 (show ix (Int32.ofNat d) < 100 by omega), kA_t sr'.k82 D0 (show ix (Int32.ofNat d) < 100 by omega), D1, f81, f82, if_neg (show ¬ (1 : Int32) = 0 by decide), if_pos g0, if_true, s4, nd', bd_s, kA_t srn.k82 D0 (show ix (Int32.ofNat d) < 100 by omega)]
        have gnn : (0 : Int32) ≤ Int32.ofNat g := of_nn _ (by omega)
        have ch := ch gnn
        have n39' : ∀ {j : Nat}, j ≠ 52 → mI (sI (nod E' (base + c') 3 (Int32.ofNat g) (Int32.ofNat g') 0) 82 d (Int32.ofNat (base + c'))) 39 j = mI E' 39 j := fun {j} q => by rw [row_n (by decide), nod_39 q]
        have fr' : ∀ a, 80 ≤ a → a < 82 → mI (sI (nod E' (base + c') 3 (Int32.ofNat g) (Int32.ofNat g') 0) 82 d (Int32.ofNat (base + c'))) a d = mI E' a d := fun a q1 q2 => by rw [row_n (by omega), nod_f ⟨q1, by omega⟩]
        have px1 : PX base (ent' D' c' (-2)) (sI (nod E' (base + c') 3 (Int32.ofNat g) (Int32.ofNat g') 0) 82 d (Int32.ofNat (base + c'))) c (c' + 1) (g :: X) ((base + c') :: X) := by
          refine (s8.nod (by omega) (Or.inr (Or.inr (Or.inr ⟨rfl, rfl⟩))) (Z := (base + c') :: X) ?_ (by show X.length + 1 ≤ 40; omega)).cg (fun _ _ => rfl) (fun a q1 q2 j q => by rw [row_n (by omega)])
          unfold Sk
          rw [if_neg (by decide), if_neg (by decide)]
          exact ⟨g, g', X, rfl, rfl, rfl, rfl⟩
        have kp0 : Kp base c (d + 1) D E (ent' D' c' (-2)) (nod E' (base + c') 3 (Int32.ofNat g) (Int32.ofNat g') 0) := nod_kp (kp1.tr s7 (Nat.le_refl _) (Nat.le_refl _)) (by omega)
        have kp3 : Kp base c d D E (ent' D' c' (-2)) (nod E' (base + c') 3 (Int32.ofNat g) (Int32.ofNat g') 0) := ⟨kp0.1, kp0.2.1, fun a q1 q2 j q => kp0.2.2.1 a q1 q2 j (by omega), kp0.2.2.2⟩
        have kp2 : Kp base c d D E (ent' D' c' (-2)) (sI (nod E' (base + c') 3 (Int32.ofNat g) (Int32.ofNat g') 0) 82 d (Int32.ofNat (base + c'))) := kp3.ef ⟨by decide, by decide⟩ (Nat.le_refl _)
        rcases ih n1 (x + 1) i' (c' + 1) (base + c') d X _ _ (by omega) (by omega) (by omega) hn2 (by rw [n39' (by decide)]; exact s2) (by rw [n39' (by decide)]; exact s3) (by rw [fr' 80 (by decide) (by decide)]; exact f80) (by rw [fr' 81 (by decide) (by decide)]; exact f81) (by rw [mI_sI, if_pos ⟨rfl, rfl⟩]) (by omega) hd hX with ⟨D2, E2, i2, m2, y1, y2, y3, y4⟩ | ⟨D2, E2, i2, c2, g2, m2, y1, y2, y3, y4, y5, y6, y7, y8, y9, y10, y11, y12, y13⟩
        · refine Or.inl ⟨D2, E2, i2, m2 + 1 + m, ?_, fun n => ?_, y3.mn (by omega) (by omega) (fun a q1 q2 j q => kp2.2.1 a q1 q2 j q), by have := y3.1; omega⟩
          · rw [cls, p1, bd_s, if_neg (by decide)]
            simp only [kO_t sc'.k20, ck_t, pu, bd_s]
            exact y1
          · rw [J90, bd_s, show n + (m2 + 1 + m) = (n + m2 + 1) + m by omega]
            show Mod_condition_L15 (n + m2 + 1 + m) 39 (psh E1 (d + 1) 1) = _
            rw [p2 (n + m2 + 1), go', ch]
            exact y2 n
        · refine Or.inr ⟨D2, E2, i2, c2, g2, m2 + 1 + m, ?_, fun n => ?_, y3, y4, y5, y6, by omega, by omega, kp2.tr y9 (by omega) (Nat.le_refl _), ?_, by omega, y12, by omega⟩
          · rw [cls, p1, bd_s, if_neg (by decide)]
            simp only [kO_t sc'.k20, ck_t, pu, bd_s]
            exact y1
          · rw [J90, bd_s, show n + (m2 + 1 + m) = (n + m2 + 1) + m by omega]
            show Mod_condition_L15 (n + m2 + 1 + m) 39 (psh E1 (d + 1) 1) = _
            rw [p2 (n + m2 + 1), go', ch]
            exact y2 n
          · exact (px1.cg (fun j q => y9.1 j q) (fun a q1 q2 j q => y9.2.1 a q1 q2 j q)).tr y10 (by omega) y7
    · exact Or.inr (fin n1 x i c g d X D E hx h h62 h69 h82 hg hd c1)
theorem spec_C (b : Bas f N T B) (hb : base ≤ 1800) {o : Nat} (ho : o ≤ 8) {rI : Mm → Nat → Int32 → Option (Int32 × Mm)} {dm xm sl fb : Nat} (hdm : dm ≤ 90) (hxm : xm ≤ 36) (hI : Spec f N T B G base rI 1 o (dm + 1) (xm + 1) (sl + 2) fb) : Spec f N T B G base (Scribe_readCondition rI) 0 o dm xm sl (fb + 2) := by
  intro i c d X D E h h62 h69 h80 h81 h82 hd hX
  have sr := h.2.1.1
  have sc := h.1.sc b
  have D0 : (0 : Int32) ≤ Int32.ofNat d := of_nn _ (by omega)
  have D1 : ix (Int32.ofNat d) = d := ix_of _ (by omega)
  have go := fun n => st_go sr h.2.2.2.1 (d := d) (by omega) h69 n
  simp only [h80, if_neg (show ¬ (0 : Int32) = 2 by decide), if_true] at go
  have bg := ev_beginR (E := sI E 81 d 1) sr (d := d + 1) (by omega) h69 1
  have ch : Mod_chain E 39 (Int32.ofNat d) 1 = some ((), psh (sI E 81 d 1) (d + 1) 1) := by
    unfold Mod_chain Mod_chain_J26
    simp only [kO_t sr.k39, ck_t, sr.r39_67, nn_s, kA_t sr.k81 D0 (show ix (Int32.ofNat d) < 100 by omega), D1, h81, if_true, if_neg (show ¬ (1 : Int32) = 0 by decide), kO_sI, bg, bd_s]
    rfl
  have pf := psh_f (E := sI E 81 d 1) (d := d + 1) (w := 1)
  have hin : Inv f N T B G base D (psh (sI E 81 d 1) (d + 1) 1) i c := psh_in (h.fr ⟨by decide, by decide⟩)
  have n39 : ∀ {j : Nat}, j ≠ 69 → mI (psh (sI E 81 d 1) (d + 1) 1) 39 j = mI E 39 j := fun {j} q => by rw [psh_39 q, row_n (by decide)]
  have kp1 : Kp base c d D E D (psh (sI E 81 d 1) (d + 1) 1) := psh_kp (Kp.rf.ef ⟨by decide, by decide⟩ (Nat.le_refl _)) (by omega)
  have fr1 : mI (psh (sI E 81 d 1) (d + 1) 1) 80 d = 0 ∧ mI (psh (sI E 81 d 1) (d + 1) 1) 81 d = 1 ∧ mI (psh (sI E 81 d 1) (d + 1) 1) 82 d = -1 := by
    unfold psh
    refine ⟨?_, ?_, ?_⟩
    · rw [row_n (by decide), row_n (by decide), row_n (by decide), mI_sI, if_neg (by omega), row_n (by decide)]; exact h80
    · rw [row_n (by decide), row_n (by decide), mI_sI, if_neg (by omega), row_n (by decide), mI_sI, if_pos ⟨rfl, rfl⟩]
    · rw [row_n (by decide), mI_sI, if_neg (by omega), row_n (by decide), row_n (by decide), row_n (by decide)]; exact h82
  have cls : Scribe_readCondition rI D 20 (Int32.ofNat o) = bd (rI D 20 (Int32.ofNat o)) (fun r2 M3 => if r2 = 0 then some (0, M3) else Scribe_readCondition_L12 rI fu 20 (Int32.ofNat o) 0 M3) := by
    unfold Scribe_readCondition
    rw [kO_t sc.k20, ck_t]
  rcases hI i c (d + 1) X D (psh (sI E 81 d 1) (d + 1) 1) hin (by rw [n39 (by decide)]; exact h62) pf.2.2.2 pf.1 pf.2.1 pf.2.2.1 (by omega) (by omega) with ⟨D', E', i', m, p1, p2, p3, p4⟩ | ⟨D', E', i', c', g, m, p1, p2, p3, p4⟩
  · refine Or.inl ⟨D', E', i', m + 1, ?_, fun n => ?_, p3.mn (Nat.le_refl _) (Nat.le_refl _) (fun a q1 q2 j q => kp1.2.1 a q1 q2 j q), by omega⟩
    · rw [cls, p1, bd_s, if_pos rfl]
    · rw [← Nat.add_assoc, go, ch, bd_s]; exact p2 n
  · obtain ⟨s1, s2, s3, s4, s5, s6, s7, s8, s9⟩ := p3
    have sr' := s1.2.1.1
    have fr : ∀ a, 80 ≤ a → a ≤ 82 → mI E' a d = mI (psh (sI E 81 d 1) (d + 1) 1) a d := fun a q1 q2 => s7.2.2.1 a q1 q2 d (by omega)
    have f80 : mI E' 80 d = 0 := by rw [fr 80 (by decide) (by decide)]; exact fr1.1
    have f81 : mI E' 81 d = 1 := by rw [fr 81 (by decide) (by decide)]; exact fr1.2.1
    have f82 : mI E' 82 d = -1 := by rw [fr 82 (by decide) (by decide)]; exact fr1.2.2
    have go' := fun n => st_go sr' s1.2.2.2.1 (d := d) (by omega) s3 n
    simp only [f80, if_neg (show ¬ (0 : Int32) = 2 by decide), if_true] at go'
    have ch2 : Mod_chain E' 39 (Int32.ofNat d) 1 = Mod_chain_J90 39 (Int32.ofNat d) 1 423 39 (sI E' 82 d (Int32.ofNat g)) := by
      unfold Mod_chain Mod_chain_J75
      simp only [kO_t sr'.k39, ck_t, sr'.r39_67, sr'.r39_68, nn_s, kA_t sr'.k81 D0 (show ix (Int32.ofNat d) < 100 by omega), kA_t sr'.k82 D0 (show ix (Int32.ofNat d) < 100 by omega), D1, f81, f82, if_neg (show ¬ (1 : Int32) = 0 by decide), if_neg (show ¬ (0 : Int32) ≤ -1 by decide), s4, if_true]
    have h2 : Inv f N T B G base D' (sI E' 82 d (Int32.ofNat g)) i' c' := s1.fr ⟨by decide, by decide⟩
    have kp2 : Kp base c d D E D' (sI E' 82 d (Int32.ofNat g)) := (kp1.tr s7 (Nat.le_refl _) (by omega)).ef ⟨by decide, by decide⟩ (Nat.le_refl _)
    have px1 : PX base D' (sI E' 82 d (Int32.ofNat g)) c c' X (g :: X) := s8.cg (fun _ _ => rfl) (fun a q1 q2 j q => by rw [row_n (by omega)])
    have hT := b.1.2.2.1
    have hN := b.1.1
    rcases lp_C b hb ho hdm hxm hI T fu 0 i' c' g d X D' (sI E' 82 d (Int32.ofNat g)) (by omega) (by unfold fu; omega) (by omega) h2 (by rw [row_n (by decide)]; exact s2) (by rw [row_n (by decide)]; exact s3) (by rw [row_n (by decide)]; exact f80) (by rw [row_n (by decide)]; exact f81) (by rw [mI_sI, if_pos ⟨rfl, rfl⟩]) (by omega) hd hX with ⟨D2, E2, i2, m2, y1, y2, y3, y4⟩ | ⟨D2, E2, i2, c2, g2, m2, y1, y2, y3, y4, y5, y6, y7, y8, y9, y10, y11, y12, y13⟩
    · refine Or.inl ⟨D2, E2, i2, m2 + 1 + m + 1, ?_, fun n => ?_, y3.mn (by omega) (by omega) (fun a q1 q2 j q => kp2.2.1 a q1 q2 j q), by have := y3.1; omega⟩
      · rw [cls, p1, bd_s, if_neg (by decide)]; exact y1
      · rw [show n + (m2 + 1 + m + 1) = (n + m2 + 1 + m) + 1 by omega, go, ch, bd_s]
        show Mod_condition_L15 (n + m2 + 1 + m) 39 (psh (sI E 81 d 1) (d + 1) 1) = _
        rw [p2 (n + m2 + 1), go', ch2]
        exact y2 n
    · refine Or.inr ⟨D2, E2, i2, c2, g2, m2 + 1 + m + 1, ?_, fun n => ?_, ⟨y3, y4, y5, y6, by omega, by omega, kp2.tr y9 (by omega) (Nat.le_refl _), ?_, by omega⟩, by omega⟩
      · rw [cls, p1, bd_s, if_neg (by decide)]; exact y1
      · rw [show n + (m2 + 1 + m + 1) = (n + m2 + 1 + m) + 1 by omega, go, ch, bd_s]
        show Mod_condition_L15 (n + m2 + 1 + m) 39 (psh (sI E 81 d 1) (d + 1) 1) = _
        rw [p2 (n + m2 + 1), go', ch2]
        exact y2 n
      · exact (px1.cg (fun j q => y9.1 j q) (fun a q1 q2 j q => y9.2.1 a q1 q2 j q)).tr y10 (by omega) y7
end ZT
