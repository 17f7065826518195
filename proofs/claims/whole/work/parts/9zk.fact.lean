/-! a fact, at a level: both readers -/
section ZS
variable {B G D E D' E' D1 E1 : Mm} {f : Nat → Int32} {N T base : Nat}
theorem kk_ne {i a k : Nat} (e : KK f N T i = Int32.ofNat a) (ha : a < 100) (hk : k < 100) (h : a ≠ k) : ¬ KK f N T i = Int32.ofNat k := by rw [e]; exact of_ne (by omega) (by omega) h
/-- open one more, where there is room -/
theorem opn (b : Bas f N T B) {i c o : Nat} (h : Inv f N T B G base D E i c) (hi : i < T) (ho : o < 8) (h62 : mI E 39 62 = Int32.ofNat o) : ∃ E2, Mod_opens E 39 = some ((), E2) ∧ Inv f N T B G base (sI D 20 10 (Int32.ofNat (i + 1))) E2 (i + 1) c ∧ mI E2 39 62 = Int32.ofNat (o + 1) ∧ mI E2 39 69 = mI E 39 69 ∧ (∀ a, a ≠ 39 → mI E2 a = mI E a) ∧ mI E2 39 55 = mI E 39 55 := by
  have h' : Inv f N T B G base D (sI E 39 62 (Int32.ofNat (o + 1))) i c := h.s (by unfold SP; omega) (Or.inr (by decide)) (by decide) (by decide)
  obtain ⟨E2, x2, r2, h2⟩ := h'.nx b hi
  refine ⟨E2, ?_, h2, ?_, ?_, fun a q => ?_, by rw [r2.2.2.2.1 55 (by unfold S5; omega), mI_sI, if_neg (by omega)]⟩
  · unfold Mod_opens Mod_opens_J13
    simp only [kO_t h.2.1.1.k39, ck_t, h62, if_neg (show ¬ Int32.ofNat o = 8 from of_ne (b := 8) (by omega) (by decide) (by omega)), of_s1 o (by omega), x2, bd_s]
  · rw [r2.2.2.2.1 62 (by unfold S5; omega), mI_sI, if_pos ⟨rfl, rfl⟩]
  · rw [r2.2.2.2.1 69 (by unfold S5; omega), mI_sI, if_neg (by omega)]
  · rw [(r2.2.2.1 a q).1, row_n q]
/-- the ninth is a fault -/
theorem opn9 (b : Bas f N T B) {i c d : Nat} {w v : Int32} (h : Inv f N T B G base D E i c) (hi : i < T) (h62 : mI E 39 62 = Int32.ofNat 8) (hd : d + 1 < 100) (h69 : mI E 39 69 = Int32.ofNat (d + 1)) : ∃ E2, (bd (Mod_opens E 39) (fun _ M65 => ck (kO M65 39 12 107) (nn (mR M65 39 67) (fun b67 => ck (kA M65 b67 20 (Int32.ofNat d)) (bd (Mod_begin (sI M65 b67 (ix (Int32.ofNat d)) v) 39 w) (fun _ M71 => some ((), M71)))))) : Option (Unit × Mm)) = some ((), E2) ∧ Fal f N T B G base i c E D E2 i ∧ SR E2 := by
  obtain ⟨fl1, fl2⟩ := h.fl
  have D0 : (0 : Int32) ≤ Int32.ofNat d := of_nn _ (by omega)
  have D1 : ix (Int32.ofNat d) = d := ix_of _ (by omega)
  have at1 : AtE f N T (sI (sI (sI E 39 65 1) 39 55 (Int32.ofNat (PT f N i))) 39 62 (Int32.ofNat 9)) i := ((h.2.1.s (Or.inr (by decide))).s (Or.inl (by decide))).s (Or.inr (by decide))
  obtain ⟨E1, z1, z2, z3⟩ := ev_next b.1 at1 hi
  have q62 : mI (sI (sI E 39 65 1) 39 55 (Int32.ofNat (PT f N i))) 39 62 + 1 = Int32.ofNat 9 := by
    have : mI (sI (sI E 39 65 1) 39 55 (Int32.ofNat (PT f N i))) 39 62 = mI E 39 62 := rfl
    rw [this, h62]; rfl
  have op : Mod_opens E 39 = some ((), E1) := by
    unfold Mod_opens Mod_opens_J13
    simp only [kO_t h.2.1.1.k39, ck_t, h62, if_pos (show Int32.ofNat 8 = 8 from rfl), fl1, bd_s, kO_sI, q62, z1]
  have sr1 := z2.1
  have e69 : mI (sI E1 81 d v) 39 69 = Int32.ofNat (d + 1) := by
    rw [row_n (by decide), z3.2.2.2.1 69 (by unfold S5; omega), mI_sI, if_neg (by omega), mI_sI, if_neg (by omega), mI_sI, if_neg (by omega)]; exact h69
  have bg := ev_beginR (E := sI E1 81 d v) sr1 (d := d + 1) hd e69 w
  refine ⟨psh (sI E1 81 d v) (d + 1) w, ?_, ⟨Nat.le_refl _, ⟨c, h.1⟩, ?_, ?_, ?_, fun a q1 q2 j q => ?_⟩, sr1⟩
  · simp only [op, bd_s, kO_t sr1.k39, ck_t, sr1.r39_67, nn_s, kA_t sr1.k81 D0 (show ix (Int32.ofNat d) < 100 by omega), D1, bg]
    rfl
  · exact psh_es (((((h.2.2.1.s (by unfold SP; omega)).s (by unfold SP; omega)).s (by unfold SP; omega)).x z3).r (by omega))
  · rw [psh_39 (by decide), row_n (by decide), z3.2.2.2.1 65 (by unfold S5; omega), mI_sI, if_neg (by omega), mI_sI, if_neg (by omega), mI_sI, if_pos ⟨rfl, rfl⟩]
  · rw [psh_39 (by decide), row_n (by decide), z3.2.2.2.1 55 (by unfold S5; omega), mI_sI, if_neg (by omega), mI_sI, if_pos ⟨rfl, rfl⟩]
  · unfold psh
    rw [row_n (by omega), row_n (by omega), row_n (by omega), row_n (by omega), row_n (by omega), z3.nd q1 q2, row_n (by omega), row_n (by omega), row_n (by omega)]
/-- what Mod_fact does first -/
theorem fact0 (sr : SR E) {d : Nat} (hd : d < 100) (h81 : mI E 81 d = 0) {i : Nat} (a : AtE f N T E i) : Mod_fact E 39 (Int32.ofNat d) = (if KK f N T i = Int32.ofNat 23 then bd (Mod_opens E 39) (fun _ M65 => ck (kO M65 39 12 107) (nn (mR M65 39 67) (fun b67 => ck (kA M65 b67 20 (Int32.ofNat d)) (bd (Mod_begin (sI M65 b67 (ix (Int32.ofNat d)) 1) 39 2) (fun _ M71 => some ((), M71)))))) else if KK f N T i = Int32.ofNat (24 + 4) then bd (Mod_opens E 39) (fun _ M65 => ck (kO M65 39 12 107) (nn (mR M65 39 67) (fun b67 => ck (kA M65 b67 20 (Int32.ofNat d)) (bd (Mod_begin (sI M65 b67 (ix (Int32.ofNat d)) 2) 39 0) (fun _ M71 => some ((), M71)))))) else (if mI E 39 59 = 1 then bd (Mod_nameOf E 39 (mL E 39 64)) (fun r M => Mod_fact_J86 39 r M) else Mod_fact_J86 39 (-1) E)) := by
  have D0 : (0 : Int32) ≤ Int32.ofNat d := of_nn _ (by omega)
  have D1 : ix (Int32.ofNat d) = d := ix_of _ (by omega)
  have w := ev_isW a (k := 23) (by decide) (w := 10631) rfl
  have g := ev_isSg a (j := 4) (by decide) (w := 40) rfl
  unfold Mod_fact
  simp only [kO_t sr.k39, ck_t, sr.r39_67, nn_s, kA_t sr.k81 D0 (show ix (Int32.ofNat d) < 100 by omega), D1, h81, if_true, w, bd_s, g]
  by_cases c1 : KK f N T i = Int32.ofNat 23
  · simp only [if_pos c1, if_neg (show ¬ (1 : Int32) = 0 by decide)]
  · simp only [if_neg c1, if_true]
    by_cases c2 : KK f N T i = Int32.ofNat (24 + 4)
    · simp only [if_pos c2, if_neg (show ¬ (1 : Int32) = 0 by decide)]
    · simp only [if_neg c2, if_true]
/-- a frame opened -/
theorem opnB (b : Bas f N T B) {i c o d : Nat} {w v : Int32} (h : Inv f N T B G base D E i c) (hi : i < T) (ho : o < 8) (h62 : mI E 39 62 = Int32.ofNat o) (hd : d + 1 < 100) (h69 : mI E 39 69 = Int32.ofNat (d + 1)) : ∃ E2, (bd (Mod_opens E 39) (fun _ M65 => ck (kO M65 39 12 107) (nn (mR M65 39 67) (fun b67 => ck (kA M65 b67 20 (Int32.ofNat d)) (bd (Mod_begin (sI M65 b67 (ix (Int32.ofNat d)) v) 39 w) (fun _ M71 => some ((), M71)))))) : Option (Unit × Mm)) = some ((), E2) ∧ Inv f N T B G base (sI D 20 10 (Int32.ofNat (i + 1))) E2 (i + 1) c ∧ mI E2 39 62 = Int32.ofNat (o + 1) ∧ mI E2 39 69 = Int32.ofNat (d + 1 + 1) ∧ mI E2 80 (d + 1) = w ∧ mI E2 81 (d + 1) = 0 ∧ mI E2 82 (d + 1) = -1 ∧ mI E2 80 d = mI E 80 d ∧ mI E2 81 d = v ∧ Kp base c d D E (sI D 20 10 (Int32.ofNat (i + 1))) E2 := by
  obtain ⟨E1, x1, h1, y62, y69, yr, y55⟩ := opn b h hi ho h62
  have sr1 := h1.2.1.1
  have D0 : (0 : Int32) ≤ Int32.ofNat d := of_nn _ (by omega)
  have D1 : ix (Int32.ofNat d) = d := ix_of _ (by omega)
  have e69 : mI (sI E1 81 d v) 39 69 = Int32.ofNat (d + 1) := by rw [row_n (by decide), y69]; exact h69
  have bg := ev_beginR (E := sI E1 81 d v) sr1 (d := d + 1) hd e69 w
  have pf := psh_f (E := sI E1 81 d v) (d := d + 1) (w := w)
  have k1 : Kp base c d D E (sI D 20 10 (Int32.ofNat (i + 1))) E1 := ⟨fun j q => by rw [row_n (by decide)], fun a q1 q2 j q => by rw [yr a (by omega)], fun a q1 q2 j q => by rw [yr a (by omega)], y55⟩
  refine ⟨psh (sI E1 81 d v) (d + 1) w, ?_, psh_in (h1.fr ⟨by decide, by decide⟩), ?_, pf.2.2.2, pf.1, pf.2.1, pf.2.2.1, ?_, ?_, psh_kp (k1.ef ⟨by decide, by decide⟩ (Nat.le_refl _)) (by omega)⟩
  · simp only [x1, bd_s, kO_t sr1.k39, ck_t, sr1.r39_67, nn_s, kA_t sr1.k81 D0 (show ix (Int32.ofNat d) < 100 by omega), D1, bg]
    rfl
  · rw [psh_39 (by decide), row_n (by decide)]; exact y62
  · unfold psh
    rw [row_n (by decide), row_n (by decide), row_n (by decide), mI_sI, if_neg (by omega), row_n (by decide), yr 80 (by decide)]
  · unfold psh
    rw [row_n (by decide), row_n (by decide), mI_sI, if_neg (by omega), row_n (by decide), mI_sI, if_pos ⟨rfl, rfl⟩]
theorem spec_F (b : Bas f N T B) (hb : base ≤ 1800) {o n : Nat} (ho : o ≤ 8) (hF : o < 8 → Spec f N T B G base (Scribe_tF n) 2 (o + 1) (3 * (o + 1) + 3) (2 * (o + 1) + 2) 6 (20 * (9 - (o + 1)))) (hC : o < 8 → Spec f N T B G base (Scribe_readCondition (Scribe_readAll (Scribe_tF n))) 0 (o + 1) (3 * (o + 1) + 1) (2 * (o + 1)) 2 (20 * (9 - (o + 1)) + 10)) : Spec f N T B G base (Scribe_tF (n + 1)) 2 o (3 * o + 3) (2 * o + 2) 6 (20 * (9 - o)) := by
  intro i c d X D E h h62 h69 h80 h81 h82 hd hX
  have sr := h.2.1.1
  have sc := h.1.sc b
  have go := fun n => st_go sr h.2.2.2.1 (d := d) (by omega) h69 n
  simp only [h80, if_true] at go
  have f0 := fact0 sr (d := d) (by omega) h81 h.2.1
  have eF : Scribe_tF (n + 1) D 20 (Int32.ofNat o) = Scribe_readFact (Scribe_readCondition (Scribe_readAll (Scribe_tF n))) (Scribe_tF n) D 20 (Int32.ofNat o) := rfl
  have o8 : ∀ {α : Type} {x y : α}, (if (8 : Int32) ≤ Int32.ofNat o then x else y) = if 8 ≤ o then x else y := fun {α x y} => by
    by_cases q : 8 ≤ o
    · rw [if_pos q, if_pos (show (8 : Int32) ≤ Int32.ofNat o from (of_le 8 o (by decide) (by omega)).mpr q)]
    · rw [if_neg q, if_neg (show ¬ (8 : Int32) ≤ Int32.ofNat o from fun w => q ((of_le 8 o (by decide) (by omega)).mp w))]
  have tn := ev_take h.1 b (k := 23) (by decide)
  have to := ev_take h.1 b (k := 28) (by decide)
  -- a comparison
  have cmp : ¬ KK f N T i = Int32.ofNat 23 → ¬ KK f N T i = Int32.ofNat (24 + 4) → Scribe_tF (n + 1) D 20 (Int32.ofNat o) = bd (Scribe_readComparison D 20) (fun r2 M3 => ck (kZ r2) (some (r2, M3))) := fun n1 n2 => by
    have n1 : ¬ KK f N T i = 23 := n1
    have n2 : ¬ KK f N T i = 28 := n2
    rw [if_neg n1, if_neg n1] at tn
    rw [if_neg n2, if_neg n2] at to
    rw [eF]
    unfold Scribe_readFact Scribe_readFact_J40 Scribe_readFact_J80
    simp only [o8, kO_t sc.k20, ck_t, tn, bd_s, if_true, to]
    by_cases q : 8 ≤ o
    · simp only [if_pos q]
    · simp only [if_neg q]
  have cmp8 : 8 ≤ o → Scribe_tF (n + 1) D 20 (Int32.ofNat o) = bd (Scribe_readComparison D 20) (fun r2 M3 => ck (kZ r2) (some (r2, M3))) := fun q => by
    rw [eF]
    unfold Scribe_readFact Scribe_readFact_J40 Scribe_readFact_J80
    simp only [o8, if_pos q, kO_t sc.k20, ck_t]
  have nocmp : ¬ (11 ≤ KK f N T i ∧ KK f N T i ≤ 17) → Scribe_readComparison D 20 = some (0, D) := fun q => by
    have t0 := ev_takeOf h.1 b (lo := 11) (hi := 17) (by decide)
    rw [if_neg q, if_neg q] at t0
    unfold Scribe_readComparison
    simp only [kO_t sc.k20, ck_t, t0, bd_s, if_true]
  by_cases c1 : KK f N T i = Int32.ofNat 23
  · obtain ⟨hi, hP⟩ := KK_w b.1 (k := 23) (by decide) c1
    rw [if_pos c1] at f0
    by_cases q : o < 8
    · -- not
      obtain ⟨E2, x2, h2, y62, y69, z80, z81, z82, w80, w81, kp2⟩ := opnB (w := 2) (v := 1) b h hi q h62 (d := d) (by omega) h69
      have cls : Scribe_tF (n + 1) D 20 (Int32.ofNat o) = bd (Scribe_tF n (sI D 20 10 (Int32.ofNat (i + 1))) 20 (Int32.ofNat (o + 1))) (fun r18 M19 => if r18 = 0 then some (0, M19) else ck (kO M19 20 8 11) (bd (Scribe_put M19 20 (-3)) (fun r21 M22 => if r21 = 0 then some (0, M22) else some (1, M22)))) := by
        have c1 : KK f N T i = 23 := c1
        rw [if_pos c1, if_pos c1] at tn
        have k1 : kO (sI D 20 10 (Int32.ofNat (i + 1))) 20 8 11 = true := kO_t sc.k20
        rw [eF]
        unfold Scribe_readFact
        simp only [o8, if_neg (show ¬ 8 ≤ o by omega), kO_t sc.k20, ck_t, tn, bd_s, if_neg (show ¬ (1 : Int32) = 0 by decide), k1, of_s1 o (by omega)]
      rcases hF q (i + 1) c (d + 1) X (sI D 20 10 (Int32.ofNat (i + 1))) E2 h2 y62 y69 z80 z81 z82 (by omega) (by omega) with ⟨D', E', i', m, p1, p2, p3, p4⟩ | ⟨D', E', i', c', g, m, p1, p2, p3, p4⟩
      · refine Or.inl ⟨D', E', i', m + 1, ?_, fun n' => ?_, p3.mn (by omega) (Nat.le_refl _) (fun a q1 q2 j q => kp2.2.1 a q1 q2 j q), by have := p3.1; omega⟩
        · rw [cls, p1, bd_s, if_pos rfl]
        · rw [← Nat.add_assoc, go, f0, x2, bd_s]; exact p2 n'
      · obtain ⟨s1, s2, s3, s4, s5, s6, s7, s8, s9⟩ := p3
        have sc' := s1.1.sc b
        have sr' := s1.2.1.1
        have c250 := s1.c250 b
        have hc' : 2 * (c' + 1) ≤ PT f N i' := by
          have := h.2.2.2.2.2
          omega
        have pu := ev_put s1.1 b (by omega) (-3)
        have f80 : mI E' 80 d = 2 := by rw [s7.2.2.1 80 (by decide) (by decide) d (by omega), w80]; exact h80
        have f81 : mI E' 81 d = 1 := by rw [s7.2.2.1 81 (by decide) (by decide) d (by omega)]; exact w81
        have go' := fun n => st_go sr' s1.2.2.2.1 (d := d) (by omega) s3 n
        simp only [f80, if_true] at go'
        have D0 : (0 : Int32) ≤ Int32.ofNat d := of_nn _ (by omega)
        have D1 : ix (Int32.ofNat d) = d := ix_of _ (by omega)
        have e62 : mI E' 39 62 - 1 = Int32.ofNat o := by rw [s2, ← of_s1 o (by omega)]; clear s1 h h2 hF hC; grind
        have h3 : Inv f N T B G base D' (sI E' 39 62 (Int32.ofNat o)) i' c' := s1.s (by unfold SP; omega) (Or.inr (by decide)) (by decide) (by decide)
        have i63 : mI (sI E' 39 62 (Int32.ofNat o)) 39 63 = Int32.ofNat g := s4
        have nd := ev_nodeR h3.2.1.1 (n := base + c') (by omega) h3.2.2.2.2.1 1 (Int32.ofNat g) 0 0
        have srn : SR (nod (sI E' 39 62 (Int32.ofNat o)) (base + c') 1 (Int32.ofNat g) 0 0) := sr'
        have ends := ev_endsR srn (d := d) (by omega) (show mI (nod (sI E' 39 62 (Int32.ofNat o)) (base + c') 1 (Int32.ofNat g) 0 0) 39 69 = Int32.ofNat (d + 1) by rw [nod_39 (by decide)]; exact s3) (Int32.ofNat (base + c'))
        have fa : Mod_fact E' 39 (Int32.ofNat d) = some ((), sI (sI (nod (sI E' 39 62 (Int32.ofNat o)) (base + c') 1 (Int32.ofNat g) 0 0) 39 63 (Int32.ofNat (base + c'))) 39 69 (Int32.ofNat d)) := by
          have nd' : Mod_node (sI E' 39 62 (Int32.ofNat o)) 39 1 (Int32.ofNat g) 0 0 = some (Int32.ofNat (base + c'), nod (sI E' 39 62 (Int32.ofNat o)) (base + c') 1 (Int32.ofNat g) 0 0) := nd
          unfold Mod_fact
          simp only [kO_t sr'.k39, ck_t, sr'.r39_67, nn_s, kA_t sr'.k81 D0 (show ix (Int32.ofNat d) < 100 by omega), D1, f81, if_neg (show ¬ (1 : Int32) = 0 by decide), if_true, e62, i63, nd', bd_s, kO_t srn.k39, ends]
        have hn := nod_in (kd := 1) (x := Int32.ofNat g) (y := 0) (z := 0) (v := -3) h3 b hc'
        refine Or.inr ⟨ent' D' c' (-3), sI (sI (nod (sI E' 39 62 (Int32.ofNat o)) (base + c') 1 (Int32.ofNat g) 0 0) 39 63 (Int32.ofNat (base + c'))) 39 69 (Int32.ofNat d), i', c' + 1, base + c', m + 2, ?_, fun n' => ?_, ⟨(hn.s (by unfold SP; omega) (Or.inr (by decide)) (by decide) (by decide)).s (by unfold SP; omega) (Or.inr (by decide)) (by decide) (by decide), ?_, ?_, ?_, by omega, by omega, ?_, ?_, by omega⟩, by omega⟩
        · rw [cls, p1, bd_s, if_neg (by decide)]
          simp only [kO_t sc'.k20, ck_t, pu, bd_s, if_neg (show ¬ (1 : Int32) = 0 by decide)]
          rfl
        · rw [show n' + (m + 2) = (n' + 1 + m) + 1 by omega, go, f0, x2, bd_s]
          show Mod_condition_L15 (n' + 1 + m) 39 E2 = _
          rw [p2 (n' + 1), go', fa, bd_s]
        · rw [mI_sI, if_neg (by omega), mI_sI, if_neg (by omega), nod_39 (by decide), mI_sI, if_pos ⟨rfl, rfl⟩]
        · rw [mI_sI, if_pos ⟨rfl, rfl⟩]
        · rw [mI_sI, if_neg (by omega), mI_sI, if_pos ⟨rfl, rfl⟩]
        · exact (nod_kp ((kp2.tr s7 (Nat.le_refl _) (by omega)).e39) (by omega)).e39.e39
        · refine ((s8.cg (E' := sI E' 39 62 (Int32.ofNat o)) (fun _ _ => rfl) (fun a q1 q2 j q => by rw [row_n (by omega)])).nod (by omega) (Or.inr (Or.inl ⟨rfl, rfl⟩)) (Z := (base + c') :: X) ?_ (by show X.length + 1 ≤ 40; omega)).cg (fun _ _ => rfl) (fun a q1 q2 j q => by rw [row_n (by omega), row_n (by omega)])
          unfold Sk
          rw [if_neg (by decide), if_pos rfl]
          exact ⟨g, X, rfl, rfl, rfl⟩
    · -- the ninth
      obtain ⟨E2, x2, p3, sr2⟩ := opn9 (w := 2) (v := 1) b h hi (by rw [h62, show o = 8 by omega]) (d := d) (by omega) h69
      refine Or.inl ⟨D, E2, i, 2, ?_, fun n' => ?_, p3, by omega⟩
      · rw [cmp8 (by omega), nocmp (by rw [c1]; decide), bd_s]; rfl
      · rw [show n' + 2 = (n' + 1) + 1 by omega, go, f0, x2, bd_s]
        exact st_wr sr2 p3.2.2.2.1 n'
  · rw [if_neg c1] at f0
    by_cases c2 : KK f N T i = Int32.ofNat (24 + 4)
    · rw [if_pos c2] at f0
      have hi : i < T := by
        apply Classical.byContradiction
        intro w
        rw [KK_T w] at c2
        exact of_ne (a := 31) (by decide) (by decide) (by decide) c2
      have sP := PT_s b.1 hi
      by_cases q : o < 8
      · obtain ⟨E2, x2, h2, y62, y69, z80, z81, z82, w80, w81, kp2⟩ := opnB (w := 0) (v := 2) b h hi q h62 (d := d) (by omega) h69
        have cls : Scribe_tF (n + 1) D 20 (Int32.ofNat o) = bd (Scribe_readCondition (Scribe_readAll (Scribe_tF n)) (sI D 20 10 (Int32.ofNat (i + 1))) 20 (Int32.ofNat (o + 1))) (fun r9 M10 => if r9 = 0 then some (0, M10) else ck (kO M10 20 8 11) (bd (Scribe_take M10 20 29) (fun r12 M13 => if r12 = 0 then some (0, M13) else some (1, M13)))) := by
          have c1' : ¬ KK f N T i = 23 := c1
          have c2' : KK f N T i = 28 := c2
          rw [if_neg c1', if_neg c1'] at tn
          rw [if_pos c2', if_pos c2'] at to
          have k1 : kO (sI D 20 10 (Int32.ofNat (i + 1))) 20 8 11 = true := kO_t sc.k20
          rw [eF]
          unfold Scribe_readFact Scribe_readFact_J40
          simp only [o8, if_neg (show ¬ 8 ≤ o by omega), kO_t sc.k20, ck_t, tn, bd_s, if_true, to, if_neg (show ¬ (1 : Int32) = 0 by decide), k1, of_s1 o (by omega)]
        rcases hC q (i + 1) c (d + 1) X (sI D 20 10 (Int32.ofNat (i + 1))) E2 h2 y62 y69 z80 z81 z82 (by omega) (by omega) with ⟨D', E', i', m, p1, p2, p3, p4⟩ | ⟨D', E', i', c', g, m, p1, p2, p3, p4⟩
        · refine Or.inl ⟨D', E', i', m + 1, ?_, fun n' => ?_, p3.mn (by omega) (Nat.le_refl _) (fun a q1 q2 j q => kp2.2.1 a q1 q2 j q), by have := p3.1; omega⟩
          · rw [cls, p1, bd_s, if_pos rfl]
          · rw [← Nat.add_assoc, go, f0, x2, bd_s]; exact p2 n'
        · obtain ⟨s1, s2, s3, s4, s5, s6, s7, s8, s9⟩ := p3
          have sc' := s1.1.sc b
          have sr' := s1.2.1.1
          have f80 : mI E' 80 d = 2 := by rw [s7.2.2.1 80 (by decide) (by decide) d (by omega), w80]; exact h80
          have f81 : mI E' 81 d = 2 := by rw [s7.2.2.1 81 (by decide) (by decide) d (by omega)]; exact w81
          have go' := fun n => st_go sr' s1.2.2.2.1 (d := d) (by omega) s3 n
          simp only [f80, if_true] at go'
          have D0 : (0 : Int32) ≤ Int32.ofNat d := of_nn _ (by omega)
          have D1 : ix (Int32.ofNat d) = d := ix_of _ (by omega)
          have tc := ev_take s1.1 b (k := 29) (by decide)
          have sg := ev_isSg s1.2.1 (j := 5) (by decide) (w := 41) rfl
          have J : ∀ M, SR M → mI M 39 62 = Int32.ofNat (o + 1) → mI M 39 69 = Int32.ofNat (d + 1) → mI M 39 63 = Int32.ofNat g → Mod_fact_J229 39 M = some ((), sI (sI (sI M 39 62 (Int32.ofNat o)) 39 63 (Int32.ofNat g)) 39 69 (Int32.ofNat d)) := fun M srM q62 q69 q63 => by
            have e62 : mI M 39 62 - 1 = Int32.ofNat o := by rw [q62, ← of_s1 o (by omega)]; clear s1 h h2 hF hC; grind
            have e63 : mI (sI M 39 62 (Int32.ofNat o)) 39 63 = Int32.ofNat g := q63
            have srM' : SR (sI M 39 62 (Int32.ofNat o)) := srM
            have en := ev_endsR srM' (d := d) (by omega) q69 (Int32.ofNat g)
            unfold Mod_fact_J229
            simp only [kO_t srM.k39, ck_t, e62, e63, en, bd_s]
          have fa : Mod_fact E' 39 (Int32.ofNat d) = (if KK f N T i' = Int32.ofNat (24 + 5) then bd (Mod_next E' 39) (fun _ M17 => Mod_fact_J229 39 M17) else bd (Mod_fails0 E' 39) (fun _ M10 => Mod_fact_J229 39 M10)) := by
            unfold Mod_fact
            simp only [kO_t sr'.k39, ck_t, sr'.r39_67, nn_s, kA_t sr'.k81 D0 (show ix (Int32.ofNat d) < 100 by omega), D1, f81, if_neg (show ¬ (2 : Int32) = 0 by decide), if_neg (show ¬ (2 : Int32) = 1 by decide), sg, bd_s]
            by_cases w : KK f N T i' = Int32.ofNat (24 + 5)
            · simp only [if_pos w, if_neg (show ¬ (1 : Int32) = 0 by decide)]
            · simp only [if_neg w, if_true]
          by_cases c3 : KK f N T i' = Int32.ofNat (24 + 5)
          · have hi' : i' < T := by
              apply Classical.byContradiction
              intro w
              rw [KK_T w] at c3
              exact of_ne (a := 31) (by decide) (by decide) (by decide) c3
            have sP' := PT_s b.1 hi'
            obtain ⟨E3, x3, r3, h3⟩ := s1.nx b hi'
            have n3 : ∀ {x : Nat}, x = 62 ∨ x = 69 ∨ x = 63 → mI E3 39 x = mI E' 39 x := fun {x} w => r3.2.2.2.1 x (by unfold S5; omega)
            have j3 := J E3 h3.2.1.1 (by rw [n3 (Or.inl rfl)]; exact s2) (by rw [n3 (Or.inr (Or.inl rfl))]; exact s3) (by rw [n3 (Or.inr (Or.inr rfl))]; exact s4)
            rw [if_pos c3, x3, bd_s, j3] at fa
            have c3' : KK f N T i' = 29 := c3
            rw [if_pos c3', if_pos c3'] at tc
            refine Or.inr ⟨sI D' 20 10 (Int32.ofNat (i' + 1)), sI (sI (sI E3 39 62 (Int32.ofNat o)) 39 63 (Int32.ofNat g)) 39 69 (Int32.ofNat d), i' + 1, c', g, m + 2, ?_, fun n' => ?_, ⟨((h3.s (by unfold SP; omega) (Or.inr (by decide)) (by decide) (by decide)).s (by unfold SP; omega) (Or.inr (by decide)) (by decide) (by decide)).s (by unfold SP; omega) (Or.inr (by decide)) (by decide) (by decide), ?_, ?_, ?_, s5, by omega, ?_, ?_, by omega⟩, by omega⟩
            · rw [cls, p1, bd_s, if_neg (by decide)]
              simp only [kO_t sc'.k20, ck_t, tc, bd_s, if_neg (show ¬ (1 : Int32) = 0 by decide)]
            · rw [show n' + (m + 2) = (n' + 1 + m) + 1 by omega, go, f0, x2, bd_s]
              show Mod_condition_L15 (n' + 1 + m) 39 E2 = _
              rw [p2 (n' + 1), go', fa, bd_s]
            · rw [mI_sI, if_neg (by omega), mI_sI, if_neg (by omega), mI_sI, if_pos ⟨rfl, rfl⟩]
            · rw [mI_sI, if_pos ⟨rfl, rfl⟩]
            · rw [mI_sI, if_neg (by omega), mI_sI, if_pos ⟨rfl, rfl⟩]
            · exact ((((kp2.tr s7 (Nat.le_refl _) (by omega)).c20).ex r3).e39.e39.e39)
            · exact s8.cg (fun _ _ => rfl) (fun a q1 q2 j q => by rw [row_n (by omega), row_n (by omega), row_n (by omega), r3.nd q1 q2])
          · obtain ⟨fl1, fl2⟩ := s1.fl
            have j3 := J _ (show SR (sI (sI E' 39 65 1) 39 55 (Int32.ofNat (PT f N i'))) from sr') s2 s3 s4
            rw [if_neg c3, fl1, bd_s, j3] at fa
            have c3' : ¬ KK f N T i' = 29 := c3
            rw [if_neg c3', if_neg c3'] at tc
            have w65 : mI (sI (sI (sI (sI (sI E' 39 65 1) 39 55 (Int32.ofNat (PT f N i'))) 39 62 (Int32.ofNat o)) 39 63 (Int32.ofNat g)) 39 69 (Int32.ofNat d)) 39 65 = 1 := by
              rw [mI_sI, if_neg (by omega), mI_sI, if_neg (by omega), mI_sI, if_neg (by omega), mI_sI, if_neg (by omega), mI_sI, if_pos ⟨rfl, rfl⟩]
            refine Or.inl ⟨D', _, i', m + 3, ?_, fun n' => ?_, ⟨by omega, ⟨c', s1.1⟩, (((fl2.2.2.1.s (by unfold SP; omega)).s (by unfold SP; omega)).s (by unfold SP; omega)), w65, ?_, fun a q1 q2 j q => ?_⟩, by omega⟩
            · rw [cls, p1, bd_s, if_neg (by decide)]
              simp only [kO_t sc'.k20, ck_t, tc, bd_s, if_true]
            · rw [show n' + (m + 3) = (n' + 1 + 1 + m) + 1 by omega, go, f0, x2, bd_s]
              show Mod_condition_L15 (n' + 1 + 1 + m) 39 E2 = _
              rw [p2 (n' + 1 + 1), go', fa, bd_s]
              exact st_wr (show SR (sI (sI (sI (sI (sI E' 39 65 1) 39 55 (Int32.ofNat (PT f N i'))) 39 62 (Int32.ofNat o)) 39 63 (Int32.ofNat g)) 39 69 (Int32.ofNat d)) from sr') w65 n'
            · rw [mI_sI, if_neg (by omega), mI_sI, if_neg (by omega), mI_sI, if_neg (by omega), mI_sI, if_pos ⟨rfl, rfl⟩]
            · rw [row_n (by omega), row_n (by omega), row_n (by omega), row_n (by omega), row_n (by omega), s7.2.1 a q1 q2 j (by omega)]
              exact kp2.2.1 a q1 q2 j q
      · obtain ⟨E2, x2, p3, sr2⟩ := opn9 (w := 0) (v := 2) b h hi (by rw [h62, show o = 8 by omega]) (d := d) (by omega) h69
        refine Or.inl ⟨D, E2, i, 2, ?_, fun n' => ?_, p3, by omega⟩
        · rw [cmp8 (by omega), nocmp (by rw [c2]; decide), bd_s]; rfl
        · rw [show n' + 2 = (n' + 1) + 1 by omega, go, f0, x2, bd_s]
          exact st_wr sr2 p3.2.2.2.1 n'
    · rw [if_neg c2] at f0
      rcases cmp_sim (X := X) b hb h (d := d) (by omega) h69 (by omega) with ⟨D', E', i', p1, p2, p3⟩ | ⟨D', E', p1, p2, p3, p4, p5, p6, p7, p8, p9⟩
      · refine Or.inl ⟨D', E', i', 2, ?_, fun n' => ?_, p3, by omega⟩
        · rw [cmp c1 c2, p1, bd_s]; rfl
        · rw [show n' + 2 = (n' + 1) + 1 by omega, go, f0, p2, bd_s]
          exact st_wr (sr.sm (by have := p3.2.2.1.2.1; rw [this]; exact h.2.2.1.2.1.symm) (by have := p3.2.2.1.1; rw [this]; exact h.2.2.1.1.symm)) p3.2.2.2.1 n'
      · refine Or.inr ⟨D', E', i + 3, c + 1, base + c, 1, ?_, fun n' => ?_, ⟨p3, by rw [p4]; exact h62, p5, p6, by omega, by omega, p7, p8, p9, by omega⟩, by omega⟩
        · rw [cmp c1 c2, p1, bd_s]; rfl
        · rw [go, f0, p2, bd_s]
end ZS
