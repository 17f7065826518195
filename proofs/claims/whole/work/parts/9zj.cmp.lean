/-! a comparison: both readers -/
section ZR
variable {B G D E D' E' D1 E1 : Mm} {f : Nat → Int32} {N T base : Nat}
theorem Fal.mn {i c i1 c1 i' : Nat} (h : Fal f N T B G base i1 c1 E1 D' E' i') (hi : i ≤ i1) (hc : c ≤ c1) (k : ∀ a, 74 ≤ a → a ≤ 77 → ∀ j, j < base + c → mI E1 a j = mI E a j) : Fal f N T B G base i c E D' E' i' := ⟨by have := h.1; omega, h.2.1, h.2.2.1, h.2.2.2.1, h.2.2.2.2.1, fun a q1 q2 j q => (h.2.2.2.2.2 a q1 q2 j (by omega)).trans (k a q1 q2 j q)⟩
theorem Rx.nd (r : Rx S5 E E') {a : Nat} (h1 : 74 ≤ a) (h2 : a ≤ 77) (j : Nat) : mI E' a j = mI E a j := by rw [(r.2.2.1 a (by omega)).1]
theorem cmp_sim (b : Bas f N T B) (hb : base ≤ 1800) {i c d : Nat} {X : List Nat} (h : Inv f N T B G base D E i c) (hd : d < 100) (h69 : mI E 39 69 = Int32.ofNat (d + 1)) (hX : X.length ≤ 38) : (∃ D' E' i', Scribe_readComparison D 20 = some (0, D') ∧ (if mI E 39 59 = 1 then bd (Mod_nameOf E 39 (mL E 39 64)) (fun r M => Mod_fact_J86 39 r M) else Mod_fact_J86 39 (-1) E) = some ((), E') ∧ Fal f N T B G base i c E D' E' i') ∨ (∃ D' E', Scribe_readComparison D 20 = some (1, D') ∧ (if mI E 39 59 = 1 then bd (Mod_nameOf E 39 (mL E 39 64)) (fun r M => Mod_fact_J86 39 r M) else Mod_fact_J86 39 (-1) E) = some ((), E') ∧ Inv f N T B G base D' E' (i + 3) (c + 1) ∧ mI E' 39 62 = mI E 39 62 ∧ mI E' 39 69 = Int32.ofNat d ∧ mI E' 39 63 = Int32.ofNat (base + c) ∧ Kp base c d D E D' E' ∧ PX base D' E' c (c + 1) X ((base + c) :: X) ∧ 2 * (c + 1) + PT f N i ≤ PT f N (i + 3) + 2 * c) := by
  obtain ⟨s0, n1, n2⟩ := ev_name h.2.1
  rw [n1]
  have sc := h.1.sc b
  have t0 := ev_takeOf h.1 b (lo := 11) (hi := 17) (by decide)
  by_cases c0 : 11 ≤ KK f N T i ∧ KK f N T i ≤ 17
  · rw [if_pos c0] at n2
    rw [if_pos c0, if_pos c0] at t0
    obtain ⟨k0, e0, l0⟩ : ∃ k0 : Nat, KK f N T i = Int32.ofNat k0 ∧ 11 ≤ k0 ∧ k0 ≤ 17 := by
      have p : 0 ≤ KK f N T i := by clear t0 n1 h; grind
      refine ⟨ix (KK f N T i), (of_ix _ p).symm, ?_⟩
      have q := c0
      rw [(of_ix _ p).symm] at q
      exact ⟨(of_le 11 _ (by decide) (by have := ix_big (KK f N T i); omega)).mp q.1, (of_le _ 17 (by have := ix_big (KK f N T i); omega) (by decide)).mp q.2⟩
    have es : KK f N T i - 11 = Int32.ofNat (k0 - 11) := by rw [e0]; exact of_sub k0 11 l0.1
    rw [es] at n2 t0
    obtain ⟨hi, hP⟩ := KK_w b.1 (show k0 < 24 by omega) e0
    obtain ⟨E1, x1, r1, h1⟩ := h.nx b hi
    have sc1 := h1.1.sc b
    have t1 := ev_takeOf h1.1 b (lo := 24) (hi := 26) (by decide)
    have nm1 : ¬ Int32.ofNat (k0 - 11) = -1 := fun q => of_n1 (show k0 - 11 < 2147483648 by omega) q.symm
    have ps : (0 : Int32) ≤ Int32.ofNat (k0 - 11) := of_nn _ (by omega)
    have g60 := ev_isSg h1.2.1 (j := 0) (by decide) (w := 60) rfl
    have g62 := ev_isSg h1.2.1 (j := 1) (by decide) (w := 62) rfl
    have g61 := ev_isSg h1.2.1 (j := 2) (by decide) (w := 61) rfl
    by_cases c1 : 24 ≤ KK f N T (i + 1) ∧ KK f N T (i + 1) ≤ 26
    · rw [if_pos c1, if_pos c1] at t1
      obtain ⟨j1, f1, m1⟩ : ∃ j1 : Nat, KK f N T (i + 1) = Int32.ofNat (24 + j1) ∧ j1 ≤ 2 := by
        have p : 0 ≤ KK f N T (i + 1) := by clear t0 t1 n1 h h1; grind
        have q := c1
        rw [(of_ix _ p).symm] at q
        have q1 := (of_le 24 _ (by decide) (by have := ix_big (KK f N T (i + 1)); omega)).mp q.1
        have q2 := (of_le _ 26 (by have := ix_big (KK f N T (i + 1)); omega) (by decide)).mp q.2
        refine ⟨ix (KK f N T (i + 1)) - 24, ?_, by omega⟩
        rw [show 24 + (ix (KK f N T (i + 1)) - 24) = ix (KK f N T (i + 1)) by omega]
        exact (of_ix _ p).symm
      have fs : KK f N T (i + 1) - 24 = Int32.ofNat j1 := by
        rw [f1, show j1 = 24 + j1 - 24 by omega, show 24 + (24 + j1 - 24) = 24 + j1 by omega]
        exact of_sub (24 + j1) 24 (by omega)
      rw [fs] at t1
      have v60 := (h1.2.1.2.2.2.2.2.2.2.2.1 j1 (by omega)).mpr f1
      have hi1 : i + 1 < T := by
        apply Classical.byContradiction
        intro q
        rw [KK_T q] at f1
        exact of_ne (a := 31) (by decide) (by omega) (by omega) f1
      obtain ⟨E2, x2, r2, h2⟩ := h1.nx b hi1
      have sc2 := h2.1.sc b
      have t2 := ev_takeN h2.1 b (lo := 0)
      have J86 : Mod_fact_J86 39 s0 E = Mod_fact_J137 39 (Int32.ofNat (k0 - 11)) (sgC j1) E1 := by
        unfold Mod_fact_J86
        simp only [n2, if_pos ps, kO_t h.2.1.1.k39, ck_t, x1, bd_s, kO_t h1.2.1.1.k39, g60, g62, g61, v60.2]
        rcases (show j1 = 0 ∨ j1 = 1 ∨ j1 = 2 by omega) with q | q | q <;> subst q
        · rw [if_pos f1, if_neg (by decide)]
        · rw [if_neg (show ¬ KK f N T (i + 1) = Int32.ofNat (24 + 0) by rw [f1]; exact of_ne (by decide) (by decide) (by decide)), if_pos rfl, if_pos f1, if_neg (by decide)]
        · rw [if_neg (show ¬ KK f N T (i + 1) = Int32.ofNat (24 + 0) by rw [f1]; exact of_ne (by decide) (by decide) (by decide)), if_pos rfl, if_neg (show ¬ KK f N T (i + 1) = Int32.ofNat (24 + 1) by rw [f1]; exact of_ne (by decide) (by decide) (by decide)), if_pos rfl, if_pos f1, if_neg (by decide)]
      have nm2 : ¬ Int32.ofNat j1 = -1 := fun q => of_n1 (show j1 < 2147483648 by omega) q.symm
      have a2 := h2.2.1.2.2.2.2.2.2
      by_cases c2 : KK f N T (i + 2) = 30
      · obtain ⟨hi2, nb0, nb9⟩ := KK_n b.1 c2
        have t2' : Scribe_takeNumber (sI (sI D 20 10 (Int32.ofNat (i + 1))) 20 10 (Int32.ofNat (i + 1 + 1))) 20 0 = some (nbT f N (PT f N (i + 2)), sI (sI (sI D 20 10 (Int32.ofNat (i + 1))) 20 10 (Int32.ofNat (i + 1 + 1))) 20 10 (Int32.ofNat (i + 1 + 1 + 1))) := by
          rw [t2, if_pos ⟨c2, nb0⟩, if_pos ⟨c2, nb0⟩]
        obtain ⟨E3, x3, r3, h3⟩ := h2.nx b hi2
        have s1 := PT_s b.1 hi1
        have s2 := PT_s b.1 hi2
        have hP3 : 2 * (c + 1) ≤ PT f N (i + 3) := by
          have := h.2.2.2.2.2
          have e1 : PT f N (i + 1 + 1) = PT f N (i + 2) := rfl
          have e2 : PT f N (i + 2 + 1) = PT f N (i + 3) := rfl
          omega
        have c250 := h3.c250 b
        have tok := a2.2.2.2.1.mpr c2
        have val := a2.2.2.2.2 c2
        have num : Mod_number E2 39 0 = some (nbT f N (PT f N (i + 2)), E3) := by
          unfold Mod_number
          simp only [kO_t h2.2.1.1.k39, ck_t, if_pos tok]
          have val : mI E2 39 61 = nbT f N (PT f N (i + 2)) := val
          rw [val, if_neg (show ¬ nbT f N (PT f N (i + 2)) < 0 by clear t0 t1 t2 n1 h h1 h2 h3; grind), x3, bd_s]
        have n62 : ∀ {x : Nat}, x = 62 ∨ x = 69 → mI E3 39 x = mI E 39 x := fun {x} q => by
          rw [r3.2.2.2.1 x (by unfold S5; omega), r2.2.2.2.1 x (by unfold S5; omega), r1.2.2.2.1 x (by unfold S5; omega)]
        have nd := ev_nodeR h3.2.1.1 (n := base + c) (by omega) h3.2.2.2.2.1 0 (Int32.ofNat (k0 - 11)) (sgC j1) (nbT f N (PT f N (i + 2)))
        have srn : SR (nod E3 (base + c) 0 (Int32.ofNat (k0 - 11)) (sgC j1) (nbT f N (PT f N (i + 2)))) := h3.2.1.1
        have ends := ev_endsR srn hd (show mI (nod E3 (base + c) 0 (Int32.ofNat (k0 - 11)) (sgC j1) (nbT f N (PT f N (i + 2)))) 39 69 = Int32.ofNat (d + 1) by rw [nod_39 (by decide), n62 (Or.inr rfl)]; exact h69) (Int32.ofNat (base + c))
        have hn := nod_in (kd := 0) (x := Int32.ofNat (k0 - 11)) (y := sgC j1) (z := nbT f N (PT f N (i + 2))) (v := (Int32.ofNat (k0 - 11) * 3 + Int32.ofNat j1) * 100000 + nbT f N (PT f N (i + 2))) h3 b hP3
        have pu := ev_put h3.1 b (by omega) ((Int32.ofNat (k0 - 11) * 3 + Int32.ofNat j1) * 100000 + nbT f N (PT f N (i + 2)))
        have sc3 := h3.1.sc b
        have kp3 : Kp base c d D E (sI (sI (sI D 20 10 (Int32.ofNat (i + 1))) 20 10 (Int32.ofNat (i + 1 + 1))) 20 10 (Int32.ofNat (i + 1 + 1 + 1))) E3 := (((((Kp.rf (base := base) (c := c) (d := d)).c20.ex r1).c20).ex r2).c20).ex r3
        refine Or.inr ⟨ent' (sI (sI (sI D 20 10 (Int32.ofNat (i + 1))) 20 10 (Int32.ofNat (i + 1 + 1))) 20 10 (Int32.ofNat (i + 1 + 1 + 1))) c ((Int32.ofNat (k0 - 11) * 3 + Int32.ofNat j1) * 100000 + nbT f N (PT f N (i + 2))), sI (sI (nod E3 (base + c) 0 (Int32.ofNat (k0 - 11)) (sgC j1) (nbT f N (PT f N (i + 2)))) 39 63 (Int32.ofNat (base + c))) 39 69 (Int32.ofNat d), ?_, ?_, (hn.s (by unfold SP; omega) (Or.inr (by decide)) (by decide) (by decide)).s (by unfold SP; omega) (Or.inr (by decide)) (by decide) (by decide), ?_, ?_, ?_, (nod_kp kp3 (Nat.le_refl _)).e39.e39, ?_, ?_⟩
        · unfold Scribe_readComparison
          simp only [kO_t sc.k20, ck_t, t0, bd_s, if_neg nm1, kO_t sc1.k20, t1, if_neg nm2, kO_t sc2.k20, t2', if_neg (show ¬ nbT f N (PT f N (i + 2)) = -1 by intro q; rw [q] at nb0; exact absurd nb0 (by decide)), kO_t sc3.k20, pu, if_neg (show ¬ (1 : Int32) = 0 by decide)]
          rfl
        · rw [J86]
          have nd' : Mod_node E3 39 0 (Int32.ofNat (k0 - 11)) (sgC j1) (nbT f N (PT f N (i + 2))) = some (Int32.ofNat (base + c), nod E3 (base + c) 0 (Int32.ofNat (k0 - 11)) (sgC j1) (nbT f N (PT f N (i + 2)))) := nd
          unfold Mod_fact_J137
          simp only [kO_t h1.2.1.1.k39, ck_t, x2, bd_s, kO_t h2.2.1.1.k39, num, kO_t h3.2.1.1.k39, h3.2.2.2.1, if_true, nd', kO_t srn.k39, ends]
        · rw [mI_sI, if_neg (by omega), mI_sI, if_neg (by omega), nod_39 (by decide), n62 (Or.inl rfl)]
        · rw [mI_sI, if_pos ⟨rfl, rfl⟩]
        · rw [mI_sI, if_neg (by omega), mI_sI, if_pos ⟨rfl, rfl⟩]
        · have pn : PX base (sI (sI (sI D 20 10 (Int32.ofNat (i + 1))) 20 10 (Int32.ofNat (i + 1 + 1))) 20 10 (Int32.ofNat (i + 1 + 1 + 1))) E3 c c X X := ⟨fun _ => X, rfl, fun j q1 q2 => by omega, rfl⟩
          have en : EN ((Int32.ofNat (k0 - 11) * 3 + Int32.ofNat j1) * 100000 + nbT f N (PT f N (i + 2))) 0 (Int32.ofNat (k0 - 11)) (sgC j1) (nbT f N (PT f N (i + 2))) := Or.inl ⟨rfl, Int32.ofNat j1, ps, (of_le (k0 - 11) 6 (by omega) (by decide)).mpr (by omega), by
            rcases (show j1 = 0 ∨ j1 = 1 ∨ j1 = 2 by omega) with q | q | q <;> subst q
            · exact Or.inl ⟨rfl, rfl⟩
            · exact Or.inr (Or.inl ⟨rfl, rfl⟩)
            · exact Or.inr (Or.inr ⟨rfl, rfl⟩), nb0, nb9, rfl⟩
          refine (pn.nod (Nat.le_refl _) en (Z := (base + c) :: X) (by unfold Sk; rw [if_pos rfl]) (by show X.length + 1 ≤ 40; omega)).cg (fun _ _ => rfl) (fun a q1 q2 j q => by rw [row_n (by omega), row_n (by omega)])
        · have e1 : PT f N (i + 1 + 1) = PT f N (i + 2) := rfl
          have e2 : PT f N (i + 2 + 1) = PT f N (i + 3) := rfl
          omega
      · have t2' : Scribe_takeNumber (sI (sI D 20 10 (Int32.ofNat (i + 1))) 20 10 (Int32.ofNat (i + 1 + 1))) 20 0 = some (-1, sI (sI D 20 10 (Int32.ofNat (i + 1))) 20 10 (Int32.ofNat (i + 1 + 1))) := by
          rw [t2, if_neg (fun q => c2 q.1), if_neg (fun q => c2 q.1)]
        obtain ⟨fl1, fl2⟩ := h2.fl
        refine Or.inl ⟨_, _, i + 2, ?_, ?_, fl2.mn (by omega) (Nat.le_refl _) (fun a q1 q2 j q => by rw [r2.nd q1 q2, r1.nd q1 q2])⟩
        · unfold Scribe_readComparison
          simp only [kO_t sc.k20, ck_t, t0, bd_s, if_neg nm1, kO_t sc1.k20, t1, if_neg nm2, kO_t sc2.k20, t2', if_pos trivial]
        · rw [J86]
          have tok : ¬ mI E2 39 59 = 2 := fun q => c2 (a2.2.2.2.1.mp q)
          have num : Mod_number E2 39 0 = some (mI E2 39 61, sI (sI E2 39 65 1) 39 55 (Int32.ofNat (PT f N (i + 1 + 1)))) := by
            unfold Mod_number Mod_number_J25
            simp only [kO_t h2.2.1.1.k39, ck_t, if_neg tok, fl1, bd_s]
          have w65 : mI (sI (sI E2 39 65 1) 39 55 (Int32.ofNat (PT f N (i + 1 + 1)))) 39 65 = 1 := by rw [mI_sI, if_neg (by omega), mI_sI, if_pos ⟨rfl, rfl⟩]
          have k39 : kO (sI (sI E2 39 65 1) 39 55 (Int32.ofNat (PT f N (i + 1 + 1)))) 39 12 107 = true := kO_t h2.2.1.1.k39
          unfold Mod_fact_J137
          simp only [kO_t h1.2.1.1.k39, ck_t, x2, bd_s, kO_t h2.2.1.1.k39, num, k39, w65, if_neg (show ¬ (1 : Int32) = 0 by decide)]
    · rw [if_neg c1, if_neg c1] at t1
      obtain ⟨fl1, fl2⟩ := h1.fl
      have ne : ∀ j, j ≤ 2 → ¬ KK f N T (i + 1) = Int32.ofNat (24 + j) := fun j hj q => c1 (by
        rw [q]
        exact ⟨(of_le 24 (24 + j) (by decide) (by omega)).mpr (by omega), (of_le (24 + j) 26 (by omega) (by decide)).mpr (by omega)⟩)
      refine Or.inl ⟨_, _, i + 1, ?_, ?_, fl2.mn (by omega) (Nat.le_refl _) (fun a q1 q2 j q => by rw [r1.nd q1 q2])⟩
      · unfold Scribe_readComparison
        simp only [kO_t sc.k20, ck_t, t0, bd_s, if_neg nm1, kO_t sc1.k20, t1, if_pos trivial]
      · rw [if_neg (ne 0 (by decide))] at g60
        rw [if_neg (ne 1 (by decide))] at g62
        rw [if_neg (ne 2 (by decide))] at g61
        unfold Mod_fact_J86
        simp only [n2, if_pos ps, kO_t h.2.1.1.k39, ck_t, x1, bd_s, kO_t h1.2.1.1.k39, g60, g62, g61, if_true, fl1]
  · rw [if_neg c0] at n2
    rw [if_neg c0, if_neg c0] at t0
    obtain ⟨fl1, fl2⟩ := h.fl
    refine Or.inl ⟨_, _, i, ?_, ?_, fl2⟩
    · unfold Scribe_readComparison
      simp only [kO_t sc.k20, ck_t, t0, bd_s, if_pos trivial]
    · unfold Mod_fact_J86
      simp only [n2, if_neg (show ¬ (0 : Int32) ≤ -1 by decide), kO_t h.2.1.1.k39, ck_t, fl1, bd_s]
end ZR
