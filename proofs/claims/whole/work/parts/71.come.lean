section S5
variable {k : Nat} {ad : Nat → Nat → Nat} {C0 R0 C R : Mm}
theorem lp_serve (h : Rel k ad C0 R0) {s : Nat} (hs : s < ix (mI R0 39 22)) (v2 : Int32) : ∀ (d n m w : Nat) (C R : Mm) (all c : Int32), RS ad C0 R0 C R → w + d = ix (mI R 39 24) → (0 < mI R 54 s → c = mI C (ad 4 s) 6 ∧ cnt (mI R 62) (Int32.ofNat s) w ≤ ix (mI C (ad 4 s) 6)) → all = v2 - mI R 54 s → d < n → d < m → ∃ r C' R', Store_serve_L10 n (ad 4 s) 16 v2 c C = some (r, C') ∧ Mod_serves_L4 m 39 (Int32.ofNat s) all (Int32.ofNat w) R = some (r, R') ∧ RS ad C0 R0 C' R' ∧ (∀ a, a ≠ 48 → a ≠ 54 → a ≠ 56 → a ≠ 64 → mI R' a = mI R a) ∧ r = v2 - mI R' 54 s ∧ (mI R' 54 s = 0 ∨ sumW R' s = 0) ∧ (mI R 54 s).toInt - (mI R' 54 s).toInt = sumW R s - sumW R' s ∧ (∀ y, y < 60 → (mI R' 64 y).toInt ≤ (mI R 64 y).toInt) ∧ (∀ s', s' < 4 → s' ≠ s → sumW R' s' = sumW R s' ∧ mI R' 54 s' = mI R 54 s') ∧ (mI R 54 s ≤ 0 → R' = R) := by
  have h4 := sto4 h
  intro d
  induction d with
  | zero =>
    intro n m w C R all c ws hw hc ha hn hm
    obtain ⟨n, rfl⟩ : ∃ x, n = x + 1 := ⟨n - 1, by omega⟩
    obtain ⟨m, rfl⟩ : ∃ x, m = x + 1 := ⟨m - 1, by omega⟩
    have w60 := ws.w60
    have es22 := ws.s22
    obtain ⟨⟨hK, hR, hZ, hS, hL⟩, ⟨hL', hK', hR'⟩, dt, rc, rr, r39, ⟨i23, i24⟩, ist, qs⟩ := id ws
    have sh := h.shs s hs
    rw [← hK, ← hR] at sh
    obtain ⟨q1, q2, q3, q4, q5, q6, q7, q8⟩ := qs s (by rw [es22]; exact hs)
    have l8 : mI C (ad 4 s) 8 = mI R 54 s := ws.l4 h hs rfl (by decide)
    have SR : SR R := h.sr.sm hK' hR'
    have o39 : kO R 39 12 107 = true := kO_t SR.k39
    have e : mI R 39 24 ≤ Int32.ofNat w := by grind [ix_t, of_t]
    have b1 := (ist.1 s (by omega)).1
    refine ⟨v2 - mI R 54 s, C, R, ?_, ?_, ws, fun _ _ _ _ _ => rfl, rfl, ?_, by omega, fun _ _ => Int.le_refl _, fun _ _ _ => ⟨rfl, rfl⟩, fun _ => rfl⟩
    · show Store_serve_B10 _ _ _ _ _ _ = _
      unfold Store_serve_B10
      rw [kO_t sh.2.1, ck_t, l8]
      by_cases c1 : mI C (ad 4 s) 7 ≤ c
      · rw [if_pos c1]
      · rw [if_neg c1, if_pos]
        apply Classical.byContradiction
        intro q
        obtain ⟨c2, c3⟩ := hc (by grind)
        rw [show w = ix (mI R 39 24) by omega] at c3
        have cl2 := cnt_le (mI R 62) (Int32.ofNat s) (ix (mI R 39 24))
        apply c1
        rw [q3, c2]
        grind [ix_t, of_t]
    · show Mod_serves_B4 _ _ _ _ _ _ = _
      unfold Mod_serves_B4
      rw [o39, ck_t, if_pos e, ha]
    · by_cases c0 : 0 < mI R 54 s
      · right
        obtain ⟨c2, c3⟩ := hc c0
        rw [show w = ix (mI R 39 24) by omega] at c3
        unfold sumW
        have : ∀ n, n ≤ ix (mI R 39 24) → sumTo (fun w => if mI R 62 w = Int32.ofNat s then (mI R 64 w).toInt else 0) n = 0 := by
          intro n
          induction n with
          | zero => intro _; rfl
          | succ n ihn =>
            intro hn'
            show sumTo _ n + (if mI R 62 n = Int32.ofNat s then (mI R 64 n).toInt else 0) = 0
            rw [ihn (by omega)]
            by_cases cs : mI R 62 n = Int32.ofNat s
            · rw [if_pos cs, (q6 n (by omega) cs).mpr (by have := cnt_in (mI R 62) (Int32.ofNat s) (show n < ix (mI R 39 24) by omega) cs; omega)]
              rfl
            · rw [if_neg cs]; rfl
        exact this _ (Nat.le_refl _)
      · left
        grind
  | succ d ih =>
    intro n m w C R all c ws hw hc ha hn hm
    obtain ⟨n, rfl⟩ : ∃ x, n = x + 1 := ⟨n - 1, by omega⟩
    obtain ⟨m, rfl⟩ : ∃ x, m = x + 1 := ⟨m - 1, by omega⟩
    have w60 := ws.w60
    have es22 := ws.s22
    obtain ⟨⟨hK, hR, hZ, hS, hL⟩, ⟨hL', hK', hR'⟩, dt, rc, rr, r39, ⟨i23, i24⟩, ist, qs⟩ := id ws
    have sh := h.shs s hs
    rw [← hK, ← hR] at sh
    obtain ⟨q1, q2, q3, q4, q5, q6, q7, q8⟩ := qs s (by rw [es22]; exact hs)
    have l8 : mI C (ad 4 s) 8 = mI R 54 s := ws.l4 h hs rfl (by decide)
    have SR : SR R := h.sr.sm hK' hR'
    have o39 : kO R 39 12 107 = true := kO_t SR.k39
    have e : ¬ mI R 39 24 ≤ Int32.ofNat w := by grind [ix_t, of_t]
    have e0 : (0 : Int32) ≤ Int32.ofNat w := of_nn w (by omega)
    have e1 : ix (Int32.ofNat w) = w := ix_of w (by omega)
    have S0 : (0 : Int32) ≤ Int32.ofNat s := of_nn s (by omega)
    have S1 : ix (Int32.ofNat s) = s := ix_of s (by omega)
    have b1 := (ist.1 s (by omega)).1
    by_cases c0 : mI R 54 s ≤ 0
    · refine ⟨v2 - mI R 54 s, C, R, ?_, ?_, ws, fun _ _ _ _ _ => rfl, rfl, Or.inl (by grind), by omega, fun _ _ => Int.le_refl _, fun _ _ _ => ⟨rfl, rfl⟩, fun _ => rfl⟩
      · show Store_serve_B10 _ _ _ _ _ _ = _
        unfold Store_serve_B10
        rw [kO_t sh.2.1, ck_t, l8]
        by_cases c1 : mI C (ad 4 s) 7 ≤ c
        · rw [if_pos c1]
        · rw [if_neg c1, if_pos c0]
      · show Mod_serves_B4 _ _ _ _ _ _ = _
        unfold Mod_serves_B4
        rw [o39, ck_t, if_neg e, SR.r39_25, nn_s, kA_t SR.k54 S0 (by omega), ck_t, S1, if_pos c0, ha]
    · obtain ⟨c2, c3⟩ := hc (by grind)
      have skip : (mI R 62 w = Int32.ofNat s → mI R 64 w = 0) → Mod_serves_L4 (m + 1) 39 (Int32.ofNat s) all (Int32.ofNat w) R = Mod_serves_L4 m 39 (Int32.ofNat s) all (Int32.ofNat (w + 1)) R := by
        intro hz
        show Mod_serves_B4 _ _ _ _ _ _ = _
        unfold Mod_serves_B4 Mod_serves_J114
        simp only [o39, ck_t, if_neg e, if_neg c0, SR.r39_25, SR.r39_33, SR.r39_35, nn_s, kA_t SR.k54 S0 (show ix (Int32.ofNat s) < 4 by omega), kA_t SR.k62 e0 (show ix (Int32.ofNat w) < 60 by omega), kA_t SR.k64 e0 (show ix (Int32.ofNat w) < 60 by omega), S1, e1, of_s1 w (by omega)]
        by_cases cs : mI R 62 w = Int32.ofNat s
        · rw [if_pos cs, if_pos (hz cs)]
        · rw [if_neg cs]
      by_cases cs : mI R 62 w = Int32.ofNat s
      · by_cases cl : mI R 64 w = 0
        · rw [skip (fun _ => cl)]
          have lt := (q6 w (by omega) cs).mp cl
          obtain ⟨r, C', R', y1, y2, y⟩ := ih (n + 1) m (w + 1) C R all c ws (by omega) (fun _ => ⟨c2, by rw [cnt_s, if_pos cs]; omega⟩) ha (by omega) (by omega)
          exact ⟨r, C', R', y1, y2, y⟩
        · have nlt : ¬ cnt (mI R 62) (Int32.ofNat s) w < ix (mI C (ad 4 s) 6) := fun q => cl ((q6 w (by omega) cs).mpr q)
          obtain ⟨mm, C1, R1, z1, z2, z3, z4, z5, z6, z7, z8, z9, z10⟩ := serve1 h ws hs (show w < ix (mI R 39 24) by omega) cs cl (by grind) (by omega)
          have f39 := z3 39 (by decide) (by decide) (by decide) (by decide)
          have f62 := z3 62 (by decide) (by decide) (by decide) (by decide)
          obtain ⟨r, C', R', y1, y2, y3, y4, y5, y6, y7, y8, y9, y10⟩ := ih n m (w + 1) C1 R1 (all + mm) (mI C (ad 4 s) 6 + 1) z2 (by rw [f39]; omega) (fun q => by
            rcases z9 with z9 | ⟨z9, -, z11⟩
            · rw [z9] at q; exact absurd q (by decide)
            · refine ⟨z11.symm, ?_⟩
              rw [f62, cnt_s, if_pos cs, z11, ix_s1 _ q5.1 (by have := cnt_le (mI R 62) (Int32.ofNat s) (ix (mI R 39 24)); grind [ix_t, of_t])]
              omega) (by rw [z6, ha]; grind) (by omega) (by omega)
          refine ⟨r, C', R', ?_, ?_, y3, fun a p q x t => (y4 a p q x t).trans (z3 a p q x t), y5, y6, by omega, fun y hy => Int.le_trans (y8 y hy) (z8 y hy), fun s' p q => ⟨(y9 s' p q).1.trans (z10 s' p q).1, (y9 s' p q).2.trans (z10 s' p q).2⟩, fun q => absurd q c0⟩
          · show Store_serve_B10 (Store_serve_L10 n) _ _ _ _ _ = _
            rw [c2, z4 0 v2 (Store_serve_L10 n) rfl]
            exact y1
          · show Mod_serves_B4 (Mod_serves_L4 m) _ _ _ _ _ = _
            rw [z5 all (Mod_serves_L4 m)]
            exact y2
      · rw [skip (fun q => absurd q cs)]
        obtain ⟨r, C', R', y1, y2, y⟩ := ih (n + 1) m (w + 1) C R all c ws (by omega) (fun _ => ⟨c2, by rw [cnt_s, if_neg cs]; omega⟩) ha (by omega) (by omega)
        exact ⟨r, C', R', y1, y2, y⟩
theorem sim_come (h : Rel k ad C R) (hk : k < 512) (s n : Int32) : Sim k (Hall_come C 8 s n) (Mod_come R 39 s n) := by
  unfold Hall_come Mod_come
  have s1 : ∀ r : Int32, Sim k (some (r, C)) (some (r, R)) := fun r => ⟨_, _, _, ad, rfl, rfl, h.up hk⟩
  have h4 := sto4 h
  simp only [h.o8, h.o39, ck_t, ev_isS h, ev_mS h, ev_within, ev_in, bd_s]
  by_cases h1 : 0 ≤ s ∧ s < mI R 39 22
  · by_cases h2 : 1 ≤ n ∧ n ≤ 9999
    · have hs := ix_mo h1.1 h1.2
      have s4 : ix s < 4 := by omega
      have sh := h.shs (ix s) hs
      have es : Int32.ofNat (ix s) = s := of_ix _ h1.1
      simp only [if_pos h1, if_pos h2, i10, if_false, h.o8, h.o39, ck_t, h.sc.r8_3, nn_s, kA_t h.sc.k17 h1.1 s4, sh.1, kO_t sh.2.1, h.ls8 hs, h.sr.r39_25, kA_t h.sr.k54 h1.1 s4]
      refine Sim.ite (fun c => ?_) (fun _ => s1 _)
      have b1 := (h.ist.1 (ix s) s4).1
      have v0 : 0 ≤ mI R 54 (ix s) + n := by grind
      have ws : RS ad C R (sI C (ad 4 (ix s)) 8 (mI R 54 (ix s) + n)) (sI R 54 (ix s) (mI R 54 (ix s) + n)) := by
        have i0 := h.ist.to0
        refine ⟨⟨rfl, rfl, rfl, rfl, rfl⟩, ⟨rfl, rfl, rfl⟩, h.dt.st h.hA 4 (ix s) 8 rfl (by decide) (lvS h hs).1, fun c i hc => row_d h.hA c i (by omega), fun a p q r => row_n (by omega), fun j _ _ => rfl, ⟨h.isc.issues, h.isc.waits⟩, ⟨fun s' hs' => ?_, i0.2⟩, h.qs.cg (fun s' j hj => cel_f 4 s' j (by omega)) (fun c s' p q => row_d h.hA c s' (by omega)) rfl rfl rfl rfl rfl rfl rfl rfl rfl rfl rfl⟩
        obtain ⟨c1, c2⟩ := i0.1 s' hs'
        refine ⟨?_, c2⟩
        rw [mI_sI]
        split
        · exact ⟨v0, c⟩
        · exact c1
      have w60 := ws.w60
      obtain ⟨r, C', R', y1, y2, y3, y4, y5, y6, y7, y8, y9, y10⟩ := lp_serve h hs (mI R 54 (ix s) + n) (ix (mI R 39 24)) fu fu 0 _ _ 0 (mI C (ad 4 (ix s)) 6) ws (by show 0 + ix (mI R 39 24) = ix (mI R 39 24); omega) (fun _ => ⟨by rw [cel_f 4 (ix s) 6 (by decide)], Nat.zero_le _⟩) (by
        have : mI (sI R 54 (ix s) (mI R 54 (ix s) + n)) 54 (ix s) = mI R 54 (ix s) + n := by rw [mI_sI, if_pos ⟨rfl, rfl⟩]
        rw [this]; grind) (fu_g (by have := (i60a h).2; omega)) (fu_g (by have := (i60a h).2; omega))
      have e8 : mI (sI C (ad 4 (ix s)) 8 (mI R 54 (ix s) + n)) (ad 4 (ix s)) 8 = mI R 54 (ix s) + n := by rw [mI_sI, if_pos ⟨rfl, rfl⟩]
      have e6 : mI (sI C (ad 4 (ix s)) 8 (mI R 54 (ix s) + n)) (ad 4 (ix s)) 6 = mI C (ad 4 (ix s)) 6 := cel_f 4 (ix s) 6 (by decide)
      rw [es] at y2
      have y2' : Mod_serves (sI R 54 (ix s) (mI R 54 (ix s) + n)) 39 s = some (r, R') := y2
      have y1' : Store_serve (sI C (ad 4 (ix s)) 8 (mI R 54 (ix s) + n)) (ad 4 (ix s)) 16 = some (r, C') := by
        unfold Store_serve
        rw [kO_sI, kO_t sh.2.1, ck_t, e8, e6]
        exact y1
      simp only [mR_sI, kA_sI, kO_sI, h.sc.r8_1, h.sc.r8_3, nn_s, kA_t h.sc.k17 h1.1 s4, ck_t, sh.1, kO_t sh.2.1, y1', bd_s, y2']
      refine Sim.mk2 (ad := ad) rfl ((RS.fin h y3 (fun s' hs' hr => ?_)).up hk)
      by_cases c' : s' = ix s
      · rw [c'] at hr ⊢
        rcases y6 with y6 | y6
        · rw [y6] at hr; exact absurd hr (by decide)
        · exact y6
      · obtain ⟨z1, z2⟩ := y9 s' hs' c'
        have e54 : mI (sI R 54 (ix s) (mI R 54 (ix s) + n)) 54 s' = mI R 54 s' := by rw [mI_sI, if_neg (fun q => c' q.2)]
        rw [z1]
        rw [z2, e54] at hr
        exact h.ist.cl s' hs' hr
    · simp only [if_pos h1, if_neg h2, i10, if_false, if_true]
      exact s1 _
  · simp only [if_neg h1, if_true]
    exact s1 _
end S5
