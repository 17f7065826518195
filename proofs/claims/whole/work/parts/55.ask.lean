section L4
variable {k : Nat} {ad : Nat → Nat → Nat} {C R R1 : Mm}
theorem cmB_b (sg v n : Int32) : cmB sg v n = 0 ∨ cmB sg v n = 1 := by
  unfold cmB
  repeat' split
  all_goals first
    | exact Or.inl rfl
    | exact Or.inr rfl
theorem tR78 : tR 78 := by unfold tR; omega
theorem kn_ex (hr : ExR R R1) (nm : Nat) : kn R1 nm = kn R nm := by
  unfold kn lcl
  have e : outR R1 = outR R := by
    funext s
    unfold outR
    rw [hr.1 55 (by unfold tR; omega), hr.1 56 (by unfold tR; omega), hr.1 57 (by unfold tR; omega)]
  rw [e, hr.1 39 (by unfold tR; omega), hr.1 54 (by unfold tR; omega), hr.1 91 (by unfold tR; omega)]
theorem fok_ex (hf : Fok C R) (hr : ExR R R1) : Fok C R1 := fun nm hn => by rw [kn_ex hr]; exact hf nm hn
theorem bi2 {f : Nat → Int32} {x : Nat} : (if f x = 0 then 0 else 1 : Nat) < 2 := by split <;> omega
theorem lp_holds (h : Rel k ad C R) (hf : Fok C R) {t g lo hi n0 : Nat} {root : Int32} (ht : t < ix (mI R 39 37)) (hg : g < 200) (hto : mI R 73 g = Int32.ofNat (n0 + (hi - lo))) (hroot : mI R 71 g = root) (hn0 : n0 + (hi - lo) ≤ 2000) (hhi : hi ≤ (mK C (ad 20 t)).2) (S : Nat → List Nat) (hS : ∀ j, lo ≤ j → j < hi → EN (mI C (ad 20 t) j) (mI R 74 (n0 + (j - lo))) (mI R 75 (n0 + (j - lo))) (mI R 76 (n0 + (j - lo))) (mI R 77 (n0 + (j - lo))) ∧ Sk (mI R 74 (n0 + (j - lo))) (mI R 75 (n0 + (j - lo))) (mI R 76 (n0 + (j - lo))) (n0 + (j - lo)) (S j) (S (j + 1)) ∧ (S (j + 1)).length ≤ 40) (hSh : S hi = [ix root]) (hr0 : 0 ≤ root) :
    ∀ (d n m j : Nat) (v : Int64) (R1 : Mm), j + d = hi → lo ≤ j → d < n → d < m → ExR R R1 → (S j).length ≤ 40 → sv v = enc (mI R1 78) (S j) → (∀ x, x ∈ S j → x < n0 + (j - lo) ∧ (mI R1 78 x = 0 ∨ mI R1 78 x = 1)) → ∃ b R2, Edict_holds_L15 n (ad 16 t) (Int32.ofNat hi) 29 v (Int32.ofNat j) C = some (b, C) ∧ Mod_holds_L18 m 39 (Int32.ofNat g) (Int32.ofNat (n0 + (j - lo))) R1 = some (b, R2) ∧ ExR R R2 ∧ (b = 0 ∨ b = 1) := by
  have h5 := (h.she t ht).2.2.2.2.2.2.2.2.2.2
  intro d
  induction d with
  | zero =>
    intro n m j v R1 hj hlo hn hm hx hlen hsv hmem
    obtain ⟨n, rfl⟩ : ∃ x, n = x + 1 := ⟨n - 1, by omega⟩
    obtain ⟨m, rfl⟩ : ∃ x, m = x + 1 := ⟨m - 1, by omega⟩
    obtain rfl : j = hi := by omega
    have h1 := h.tmp ExC.rf hx
    have hm1 := hmem (ix root) (by rw [hSh]; exact List.mem_cons_self)
    rw [hSh] at hsv
    have hsv : sv v = 2 * 0 + (if mI R1 78 (ix root) = 0 then 0 else 1) := hsv
    have e73 : mI R1 73 = mI R 73 := hx.1 73 (by unfold tR; omega)
    have e71 : mI R1 71 = mI R 71 := hx.1 71 (by unfold tR; omega)
    have g0 : (0 : Int32) ≤ Int32.ofNat g := of_nn g (by omega)
    have g1 : ix (Int32.ofNat g) = g := ix_of g (by omega)
    refine ⟨mI R1 78 (ix root), R1, ?_, ?_, hx, hm1.2⟩
    · show Edict_holds_B15 _ _ _ _ _ _ _ = _
      unfold Edict_holds_B15 Edict_holds_J138
      rw [if_pos (by rw [of_le _ _ (by omega) (by omega)]; omega), b_and1, hsv]
      rcases hm1.2 with e | e
      · rw [e]; rfl
      · rw [e]; rfl
    · show Mod_holds_B18 _ _ _ _ _ = _
      unfold Mod_holds_B18
      have kz : kZ (mI R1 78 (ix root)) = true := by
        rcases hm1.2 with e | e
        · rw [e]; rfl
        · rw [e]; rfl
      simp only [h1.o39, ck_t, h1.sr.r39_45, h1.sr.r39_51, h1.sr.r39_43, nn_s, kA_t h1.sr.k73 g0 (show ix (Int32.ofNat g) < 200 by omega), g1, e73, hto, if_pos (show Int32.ofNat (n0 + (j - lo)) ≤ Int32.ofNat (n0 + (j - lo)) by grind), kA_t h1.sr.k71 g0 (show ix (Int32.ofNat g) < 200 by omega), e71, hroot, kA_t h1.sr.k78 hr0 (show ix root < 2100 by omega), kz]
  | succ d ih =>
    intro n m j v R1 hj hlo hn hm hx hlen hsv hmem
    obtain ⟨n, rfl⟩ : ∃ x, n = x + 1 := ⟨n - 1, by omega⟩
    obtain ⟨m, rfl⟩ : ∃ x, m = x + 1 := ⟨m - 1, by omega⟩
    have h1 := h.tmp ExC.rf hx
    have hf1 := fok_ex hf hx
    obtain ⟨he, hk, hl1⟩ := hS j hlo (by omega)
    have e73 : mI R1 73 = mI R 73 := hx.1 73 (by unfold tR; omega)
    have e74 : mI R1 74 = mI R 74 := hx.1 74 (by unfold tR; omega)
    have e75 : mI R1 75 = mI R 75 := hx.1 75 (by unfold tR; omega)
    have e76 : mI R1 76 = mI R 76 := hx.1 76 (by unfold tR; omega)
    have e77 : mI R1 77 = mI R 77 := hx.1 77 (by unfold tR; omega)
    have hb60 : sv v < 2 ^ 60 := by rw [hsv]; exact enc_60 _ _ hlen
    have nx : n0 + (j + 1 - lo) = n0 + (j - lo) + 1 := by omega
    have hto1 : ¬ mI R1 73 g ≤ Int32.ofNat (n0 + (j - lo)) := by rw [e73, hto, of_le _ _ (by omega) (by omega)]; omega
    -- what is left to show, once the step's bit is known
    have fin : ∀ (bit : Int32) (v' : Int64) (r : List Nat), (bit = 0 ∨ bit = 1) → S (j + 1) = (n0 + (j - lo)) :: r → (∀ x, x ∈ r → x ∈ S j) → sv v' = 2 * enc (mI R1 78) r + (if bit = 0 then 0 else 1) → ∃ b R2, Edict_holds_L15 n (ad 16 t) (Int32.ofNat hi) 29 v' (Int32.ofNat (j + 1)) C = some (b, C) ∧ Mod_holds_L18 m 39 (Int32.ofNat g) (Int32.ofNat (n0 + (j - lo) + 1)) (sI R1 78 (n0 + (j - lo)) bit) = some (b, R2) ∧ ExR R R2 ∧ (b = 0 ∨ b = 1) := by
      intro bit v' r hbit hS1 hr hv'
      have q := ih n m (j + 1) v' (sI R1 78 (n0 + (j - lo)) bit) (by omega) (by omega) (by omega) (by omega) (hx.s tR78) hl1
      rw [nx] at q
      refine q ?_ ?_
      · rw [hv', hS1]
        have c1 : enc (mI (sI R1 78 (n0 + (j - lo)) bit) 78) r = enc (mI R1 78) r := enc_cg r (fun x hxr => by
          have := hmem x (hr x hxr)
          rw [mI_sI, if_neg (by omega)])
        show 2 * enc (mI R1 78) r + (if bit = 0 then 0 else 1) = 2 * enc (mI (sI R1 78 (n0 + (j - lo)) bit) 78) r + (if mI (sI R1 78 (n0 + (j - lo)) bit) 78 (n0 + (j - lo)) = 0 then 0 else 1)
        rw [c1, mI_sI, if_pos (show 78 = 78 ∧ n0 + (j - lo) = n0 + (j - lo) from ⟨rfl, rfl⟩)]
      · intro x hx2
        rw [hS1] at hx2
        rcases List.mem_cons.mp hx2 with e | e
        · subst e
          rw [mI_sI, if_pos ⟨rfl, rfl⟩]
          exact ⟨by omega, hbit⟩
        · have := hmem x (hr x e)
          rw [mI_sI, if_neg (by omega)]
          exact ⟨by omega, this.2⟩
    rcases he with ⟨kd, sg, a0, a6, hsg, c0, c9, ee⟩ | ⟨kd, ee⟩ | ⟨kd, ee⟩ | ⟨kd, ee⟩
    · have sg0 : 0 ≤ sg ∧ sg ≤ 2 := by grind
      have fd := fact_dec _ sg _ a0 a6 sg0.1 sg0.2 c0 c9
      have cb := cmB_b sg (kn R1 (ix (mI R 75 (n0 + (j - lo))))) (mI R 77 (n0 + (j - lo)))
      have ev := ev_fact h1 hf1 (mI R 75 (n0 + (j - lo))) sg (mI R 77 (n0 + (j - lo))) a0 a6 sg0.1 sg0.2 c0 c9
      rw [ch_0 h ht (by omega) hhi ee fd.1 cb ev, mh_0 h1 hg (by omega) hto1 (by rw [e74]; exact kd) (by rw [e75]) (by rw [e76]) (by rw [e77]) a0 a6 hsg]
      have hk : S (j + 1) = (n0 + (j - lo)) :: S j := by
        unfold Sk at hk
        rw [if_pos kd] at hk
        exact hk
      refine fin _ _ (S j) cb hk (fun x q => q) ?_
      rcases cb with e | e
      · rw [e, b_push0 _ hb60, hsv]; rfl
      · rw [e, b_push1 _ hb60, hsv]; rfl
    · have hk : ∃ x r, S j = x :: r ∧ mI R 75 (n0 + (j - lo)) = Int32.ofNat x ∧ S (j + 1) = (n0 + (j - lo)) :: r := by
        unfold Sk at hk
        rw [if_neg (by rw [kd]; decide), if_pos kd] at hk
        exact hk
      obtain ⟨x, r, s1, s2, s3⟩ := hk
      have hx1 := hmem x (by rw [s1]; exact List.mem_cons_self)
      rw [ch_1 h ht (by omega) hhi ee, mh_1 h1 hg (by omega) (show x < 2000 by omega) hto1 (by rw [e74]; exact kd) (by rw [e75]; exact s2)]
      have hsv : sv v = 2 * enc (mI R1 78) r + (if mI R1 78 x = 0 then 0 else 1) := by rw [hsv, s1]; rfl
      refine fin _ _ r (by split; exact Or.inr rfl; exact Or.inl rfl) s3 (fun y q => by rw [s1]; exact List.mem_cons_of_mem _ q) ?_
      by_cases z : mI R1 78 x = 0
      · rw [if_pos z] at hsv
        rw [if_pos z, b_not0 v (by omega), hsv]
        show 2 * ((2 * enc (mI R1 78) r + 0) / 2) + 1 = 2 * enc (mI R1 78) r + 1
        omega
      · rw [if_neg z] at hsv
        rw [if_neg z, b_not1 v (by omega), hsv]
        show 2 * ((2 * enc (mI R1 78) r + 1) / 2) = 2 * enc (mI R1 78) r + 0
        omega
    · have hk : ∃ x y r, S j = y :: x :: r ∧ mI R 75 (n0 + (j - lo)) = Int32.ofNat x ∧ mI R 76 (n0 + (j - lo)) = Int32.ofNat y ∧ S (j + 1) = (n0 + (j - lo)) :: r := by
        unfold Sk at hk
        rw [if_neg (by rw [kd]; decide), if_neg (by rw [kd]; decide)] at hk
        exact hk
      obtain ⟨x, y, r, s1, s2, s2', s3⟩ := hk
      have hx1 := hmem x (by rw [s1]; exact List.mem_cons_of_mem _ List.mem_cons_self)
      have hy1 := hmem y (by rw [s1]; exact List.mem_cons_self)
      rw [ch_2 h ht (by omega) hhi ee (Or.inl rfl), mh_2 h1 hg (by omega) (show x < 2000 by omega) (show y < 2000 by omega) hto1 (Or.inl rfl) (by rw [e74]; exact kd) (by rw [e75]; exact s2) (by rw [e76]; exact s2')]
      have hsv : sv v = 2 * (2 * enc (mI R1 78) r + (if mI R1 78 x = 0 then 0 else 1)) + (if mI R1 78 y = 0 then 0 else 1) := by rw [hsv, s1]; rfl
      rw [if_pos rfl, if_pos rfl, b_and1, b_and1, sv_us1]
      refine fin _ _ r (by repeat' split
                           all_goals first
                             | exact Or.inl rfl
                             | exact Or.inr rfl) s3 (fun z q => by rw [s1]; exact List.mem_cons_of_mem _ (List.mem_cons_of_mem _ q)) ?_
      have z0 := b_pop0 v hb60
      have z1 := b_pop1 v hb60
      by_cases zx : mI R1 78 x = 0
      · by_cases zy : mI R1 78 y = 0
        · rw [if_pos zx, if_pos zy] at hsv
          rw [if_pos zx, if_pos (show sv v / 2 % 2 = 0 by omega), if_pos (show sv v % 2 = 0 by omega)]
          refine Eq.trans z0 ?_
          show 2 * (sv v / 4) = 2 * enc (mI R1 78) r + 0
          omega
        · rw [if_pos zx, if_neg zy] at hsv
          rw [if_pos zx, if_pos (show sv v / 2 % 2 = 0 by omega), if_neg (show ¬ sv v % 2 = 0 by omega)]
          refine Eq.trans z0 ?_
          show 2 * (sv v / 4) = 2 * enc (mI R1 78) r + 0
          omega
      · by_cases zy : mI R1 78 y = 0
        · rw [if_neg zx, if_pos zy] at hsv
          rw [if_neg zx, if_pos zy, if_neg (show ¬ sv v / 2 % 2 = 0 by omega), if_pos (show sv v % 2 = 0 by omega)]
          refine Eq.trans z0 ?_
          show 2 * (sv v / 4) = 2 * enc (mI R1 78) r + 0
          omega
        · rw [if_neg zx, if_neg zy] at hsv
          rw [if_neg zx, if_neg zy, if_neg (show ¬ sv v / 2 % 2 = 0 by omega), if_neg (show ¬ sv v % 2 = 0 by omega)]
          refine Eq.trans z1 ?_
          show 2 * (sv v / 4) + 1 = 2 * enc (mI R1 78) r + 1
          omega
    · have hk : ∃ x y r, S j = y :: x :: r ∧ mI R 75 (n0 + (j - lo)) = Int32.ofNat x ∧ mI R 76 (n0 + (j - lo)) = Int32.ofNat y ∧ S (j + 1) = (n0 + (j - lo)) :: r := by
        unfold Sk at hk
        rw [if_neg (by rw [kd]; decide), if_neg (by rw [kd]; decide)] at hk
        exact hk
      obtain ⟨x, y, r, s1, s2, s2', s3⟩ := hk
      have hx1 := hmem x (by rw [s1]; exact List.mem_cons_of_mem _ List.mem_cons_self)
      have hy1 := hmem y (by rw [s1]; exact List.mem_cons_self)
      rw [ch_2 h ht (by omega) hhi ee (Or.inr rfl), mh_2 h1 hg (by omega) (show x < 2000 by omega) (show y < 2000 by omega) hto1 (Or.inr rfl) (by rw [e74]; exact kd) (by rw [e75]; exact s2) (by rw [e76]; exact s2')]
      have hsv : sv v = 2 * (2 * enc (mI R1 78) r + (if mI R1 78 x = 0 then 0 else 1)) + (if mI R1 78 y = 0 then 0 else 1) := by rw [hsv, s1]; rfl
      rw [if_neg (by decide), if_neg (by decide), b_and1, b_and1, sv_us1]
      refine fin _ _ r (by repeat' split
                           all_goals first
                             | exact Or.inl rfl
                             | exact Or.inr rfl) s3 (fun z q => by rw [s1]; exact List.mem_cons_of_mem _ (List.mem_cons_of_mem _ q)) ?_
      have z0 := b_pop0 v hb60
      have z1 := b_pop1 v hb60
      by_cases zx : mI R1 78 x = 0
      · by_cases zy : mI R1 78 y = 0
        · rw [if_pos zx, if_pos zy] at hsv
          rw [if_pos zx, if_pos zy, if_pos (show sv v / 2 % 2 = 0 by omega), if_pos (show sv v % 2 = 0 by omega)]
          refine Eq.trans z0 ?_
          show 2 * (sv v / 4) = 2 * enc (mI R1 78) r + 0
          omega
        · rw [if_pos zx, if_neg zy] at hsv
          rw [if_pos zx, if_neg zy, if_pos (show sv v / 2 % 2 = 0 by omega), if_neg (show ¬ sv v % 2 = 0 by omega)]
          refine Eq.trans z1 ?_
          show 2 * (sv v / 4) + 1 = 2 * enc (mI R1 78) r + 1
          omega
      · by_cases zy : mI R1 78 y = 0
        · rw [if_neg zx, if_pos zy] at hsv
          rw [if_neg zx, if_neg (show ¬ sv v / 2 % 2 = 0 by omega), if_pos (show sv v % 2 = 0 by omega)]
          refine Eq.trans z1 ?_
          show 2 * (sv v / 4) + 1 = 2 * enc (mI R1 78) r + 1
          omega
        · rw [if_neg zx, if_neg zy] at hsv
          rw [if_neg zx, if_neg (show ¬ sv v / 2 % 2 = 0 by omega), if_neg (show ¬ sv v % 2 = 0 by omega)]
          refine Eq.trans z1 ?_
          show 2 * (sv v / 4) + 1 = 2 * enc (mI R1 78) r + 1
          omega
end L4
