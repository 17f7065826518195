/-! the reference's next token is the class's -/
section ZO
variable {E E' : Mm} {f : Nat → Int32} {N T : Nat}
theorem nx_skip (hN : N ≤ 500) (hby : Byt f) : ∀ (d n q : Nat) (E : Mm), N - q ≤ d → q ≤ N → d < n → SR E → mI E 79 = f → mI E 39 56 = Int32.ofNat N → mI E 39 57 = Int32.ofNat q → ∃ m E1, Mod_next_L0 n 39 E = Mod_next_L0 (m + 1) 39 E1 ∧ Rx (fun j => j = 57) E E1 ∧ mI E1 39 57 = Int32.ofNat (skT f N q) ∧ (skT f N q < N → ¬ (f (skT f N q) = 32 ∨ f (skT f N q) = 10)) := by
  intro d
  induction d with
  | zero =>
    intro n q E hd hq hn sr h79 h56 h57
    obtain ⟨n, rfl⟩ : ∃ x, n = x + 1 := ⟨n - 1, by omega⟩
    have e : q = N := by omega
    refine ⟨n, E, rfl, Rx.rf, ?_, fun w => ?_⟩
    · rw [e, skT_N, ← e]; exact h57
    · rw [e, skT_N] at w; omega
  | succ d ih =>
    intro n q E hd hq hn sr h79 h56 h57
    obtain ⟨n, rfl⟩ : ∃ x, n = x + 1 := ⟨n - 1, by omega⟩
    by_cases e : q = N
    · refine ⟨n, E, rfl, Rx.rf, ?_, fun w => ?_⟩
      · rw [e, skT_N, ← e]; exact h57
      · rw [e, skT_N] at w; omega
    · by_cases bl : f q = 32 ∨ f q = 10
      · obtain ⟨m, E1, z1, z2, z3, z4⟩ := ih n (q + 1) (sI E 39 57 (Int32.ofNat (q + 1))) (by omega) (by omega) (by omega) sr h79 h56 (by rw [mI_sI, if_pos ⟨rfl, rfl⟩])
        rw [← skT_1 (by omega) bl] at z3 z4
        refine ⟨m, E1, ?_, (Rx.s (S := fun j => j = 57) Rx.rf rfl).tr z2, z3, z4⟩
        rw [← z1]
        have he := ev_here sr h79 hN h56 hq h57
        rw [if_pos (by omega)] at he
        have c32 := hh_e (f := f) (p := q) (hby q (by omega)) (c := 32) (by decide) (by decide)
        have c10 := hh_e (f := f) (p := q) (hby q (by omega)) (c := 10) (by decide) (by decide)
        show Mod_next_B0 _ _ _ = _
        unfold Mod_next_B0 Mod_next_J18
        simp only [kO_t sr.k39, ck_t, he, bd_s, h57, of_s1 q (by omega)]
        rcases bl with w | w
        · rw [if_pos (c32.mpr w)]
        · by_cases w2 : hh f q = 32
          · rw [if_pos w2]
          · rw [if_neg w2, if_pos (c10.mpr w)]
      · refine ⟨n, E, rfl, Rx.rf, ?_, fun w => ?_⟩
        · rw [skT_0 (by omega) bl]; exact h57
        · rw [skT_0 (by omega) bl]; exact bl
def S5 (j : Nat) : Prop := 57 ≤ j ∧ j ≤ 61
theorem rnL_1 {p : Nat} (hp : p < N) (hl : isL (f p)) : rnL f (N - p) p = enT f N p := by
  unfold enT
  rw [if_pos hl, show N - p = (N - (p + 1)) + 1 by omega]
  show (if isL (f p) then rnL f (N - (p + 1)) (p + 1) else p) = _
  rw [if_pos hl]
theorem rnG_1 {p : Nat} (hp : p < N) (nl : ¬ isL (f p)) (hd : isD (f p)) : rnG f (N - p) p = enT f N p := by
  unfold enT
  rw [if_neg nl, if_pos hd, show N - p = (N - (p + 1)) + 1 by omega]
  show (if isD (f p) then rnG f (N - (p + 1)) (p + 1) else p) = _
  rw [if_pos hd]
theorem nx_main (hN : N ≤ 500) (hby : Byt f) {m p : Nat} (sr : SR E) (h79 : mI E 79 = f) (h56 : mI E 39 56 = Int32.ofNat N) (hp : p ≤ N) (h57 : mI E 39 57 = Int32.ofNat p) (nb : p < N → ¬ (f p = 32 ∨ f p = 10)) : ∃ E', Mod_next_L0 (m + 1) 39 E = some ((), E') ∧ Rx S5 E E' ∧ mI E' 39 58 = Int32.ofNat p ∧ mI E' 39 57 = Int32.ofNat (if p < N then enT f N p else N) ∧ TK E' (if p < N then kdT f N p else 31) (nbT f N p) := by
  have he := ev_here sr h79 hN h56 hp h57
  obtain ⟨M10, e10⟩ : ∃ x, sI E 39 58 (Int32.ofNat p) = x := ⟨_, rfl⟩
  have x10 : Rx S5 E M10 := by rw [← e10]; exact Rx.rf.s ⟨by decide, by decide⟩
  have sr10 : SR M10 := x10.sr sr
  have s57 : mI M10 39 57 = Int32.ofNat p := by rw [← e10]; exact h57
  have s56 : mI M10 39 56 = Int32.ofNat N := by rw [← e10]; exact h56
  have s58 : mI M10 39 58 = Int32.ofNat p := by rw [← e10, mI_sI, if_pos ⟨rfl, rfl⟩]
  have s79 : mI M10 79 = f := by rw [← e10]; exact h79
  have he2 := ev_here sr10 s79 hN s56 hp s57
  have B : ∀ K, Mod_next_B0 K 39 E = (if (if p < N then hh f p else -1 : Int32) = 32 then Mod_next_J18 K 39 E else if (if p < N then hh f p else -1 : Int32) = 10 then Mod_next_J18 K 39 E else if 0 ≤ (if p < N then hh f p else -1 : Int32) then bd (Mod_in (sI (sI (sL M10 39 64 (-1)) 39 60 0) 39 61 0) (if p < N then hh f p else -1) 97 122) (fun r17 M18 => if r17 = 0 then bd (Mod_in M18 (if p < N then hh f p else -1) 48 57) (fun r19 M20 => if r19 = 0 then (if (if p < N then hh f p else -1 : Int32) = 59 then Mod_next_J287 39 (if p < N then hh f p else -1) 39 M20 else if (if p < N then hh f p else -1 : Int32) = 40 then Mod_next_J287 39 (if p < N then hh f p else -1) 39 M20 else if (if p < N then hh f p else -1 : Int32) = 41 then Mod_next_J287 39 (if p < N then hh f p else -1) 39 M20 else if (if p < N then hh f p else -1 : Int32) = 60 then Mod_next_J287 39 (if p < N then hh f p else -1) 39 M20 else if (if p < N then hh f p else -1 : Int32) = 62 then Mod_next_J287 39 (if p < N then hh f p else -1) 39 M20 else if (if p < N then hh f p else -1 : Int32) = 61 then Mod_next_J287 39 (if p < N then hh f p else -1) 39 M20 else Mod_next_J292 39 (if p < N then hh f p else -1) 4 39 M20) else Mod_next_L173 fu 39 M20) else ck (kO M18 39 12 107) (Mod_next_L94 fu 39 (sL (sI M18 39 59 1) 39 64 0))) else some ((), sI (sI (sI (sL M10 39 64 (-1)) 39 60 0) 39 61 0) 39 59 0)) := fun K => by
    unfold Mod_next_B0
    simp only [kO_t sr.k39, ck_t, he, bd_s, h57, e10, he2, kO_t sr10.k39]
  obtain ⟨M16, e16⟩ : ∃ x, sI (sI (sL M10 39 64 (-1)) 39 60 0) 39 61 0 = x := ⟨_, rfl⟩
  have x16 : Rx S5 M10 M16 := by rw [← e16]; exact (Rx.rf.l.s ⟨by decide, by decide⟩).s ⟨by decide, by decide⟩
  have sr16 : SR M16 := x16.sr sr10
  have t57 : mI M16 39 57 = Int32.ofNat p := by rw [← e16]; exact s57
  have t56 : mI M16 39 56 = Int32.ofNat N := by rw [← e16]; exact s56
  have t58 : mI M16 39 58 = Int32.ofNat p := by rw [← e16]; exact s58
  have t61 : mI M16 39 61 = 0 := by rw [← e16, mI_sI, if_pos ⟨rfl, rfl⟩]
  have t79 : mI M16 79 = f := by rw [← e16]; exact s79
  rw [e16] at B
  show ∃ E', Mod_next_B0 (Mod_next_L0 m) 39 E = some ((), E') ∧ _
  rw [B]
  by_cases lt : p < N
  · have by1 := hby p (by omega)
    have n32 : ¬ hh f p = 32 := fun q => nb lt (Or.inl ((hh_e by1 (by decide) (by decide)).mp q))
    have n10 : ¬ hh f p = 10 := fun q => nb lt (Or.inr ((hh_e by1 (by decide) (by decide)).mp q))
    simp only [if_pos lt, if_neg n32, if_neg n10, if_pos (hh_nn by1), ev_in, bd_s]
    by_cases cl : isL (f p)
    · have c1 := (hh_c (f := f) (p := p) by1 (lo := 97) (hi := 122) (by decide) (by decide)).mpr cl
      rw [if_pos c1, if_neg (by decide), kO_t sr16.k39, ck_t]
      obtain ⟨E', z1, z2, z3, z4⟩ := lp_let hN hby (p := p) (N - p) fu p (sL (sI M16 39 59 1) 39 64 0) (by omega) (by unfold fu; omega) (Nat.le_refl _) sr16 t79 t56 t57 t58 (by rw [mL_sL, if_pos ⟨rfl, rfl⟩, Nat.sub_self]; rfl)
      rw [rnL_1 lt cl] at z3 z4
      have i59 : mI E' 39 59 = 1 := by rw [z2.2.2.2.1 59 (by decide), mI_sL, mI_sI, if_pos ⟨rfl, rfl⟩]
      exact ⟨E', z1, x10.tr (x16.tr ((Rx.rf.s ⟨by decide, by decide⟩).l.tr (z2.mono (fun j q => by rw [q]; exact ⟨by decide, by decide⟩)))), by rw [z2.2.2.2.1 58 (by decide)]; exact t58, z3, TK_let hby hN lt cl i59 z4 _⟩
    · have c1 : ¬ (97 ≤ hh f p ∧ hh f p ≤ 122) := fun q => cl ((hh_c (f := f) (p := p) by1 (lo := 97) (hi := 122) (by decide) (by decide)).mp q)
      rw [if_neg c1, if_pos rfl]
      by_cases cd : isD (f p)
      · have c2 := (hh_c (f := f) (p := p) by1 (lo := 48) (hi := 57) (by decide) (by decide)).mpr cd
        rw [if_pos c2, if_neg (by decide)]
        obtain ⟨E', z1, z2, z3, z4, z5⟩ := lp_dig hN hby (p := p) (N - p) fu p M16 (by omega) (by unfold fu; omega) (Nat.le_refl _) sr16 t79 t56 t57 t58 (fun i h1 h2 => by omega) (fun _ => by rw [Nat.sub_self]; exact t61)
        rw [rnG_1 lt cl cd] at z3 z4 z5
        exact ⟨E', z1, x10.tr (x16.tr (z2.mono (fun j q => by rcases q with q | q | q <;> rw [q] <;> exact ⟨by decide, by decide⟩))), by rw [z2.2.2.2.1 58 (by decide)]; exact t58, z3, TK_dig cl cd z4 (fun t => (z5 t).1)⟩
      · have c2 : ¬ (48 ≤ hh f p ∧ hh f p ≤ 57) := fun q => cd ((hh_c (f := f) (p := p) by1 (lo := 48) (hi := 57) (by decide) (by decide)).mp q)
        rw [if_neg c2, if_pos rfl]
        have en : enT f N p = p + 1 := by unfold enT; rw [if_neg cl, if_neg cd]
        have J : ∀ w, Mod_next_J292 39 (hh f p) w 39 M16 = some ((), sI (sI (sI M16 39 59 w) 39 60 (hh f p)) 39 57 (Int32.ofNat (p + 1))) := fun w => by
          unfold Mod_next_J292
          have i57 : mI (sI (sI M16 39 59 w) 39 60 (hh f p)) 39 57 = Int32.ofNat p := t57
          simp only [kO_t sr16.k39, ck_t, kO_sI, i57, of_s1 p (by omega)]
        have key : (if hh f p = 59 then Mod_next_J287 39 (hh f p) 39 M16 else if hh f p = 40 then Mod_next_J287 39 (hh f p) 39 M16 else if hh f p = 41 then Mod_next_J287 39 (hh f p) 39 M16 else if hh f p = 60 then Mod_next_J287 39 (hh f p) 39 M16 else if hh f p = 62 then Mod_next_J287 39 (hh f p) 39 M16 else if hh f p = 61 then Mod_next_J287 39 (hh f p) 39 M16 else Mod_next_J292 39 (hh f p) 4 39 M16) = Mod_next_J292 39 (hh f p) (if sgT (f p) = -1 then 4 else 3) 39 M16 := by
          unfold Mod_next_J287
          have hc : ∀ c : Int32, 0 ≤ c.toInt → c.toInt ≤ 127 → (hh f p = c ↔ f p = c) := fun c h0 h1 => hh_e by1 h0 h1
          rcases sgT_s (f p) with ⟨e1, e2⟩ | ⟨j, e1, e2, e3⟩
          · rw [e1, if_pos rfl, if_neg (fun q => e2 3 (by decide) ((hc 59 (by decide) (by decide)).mp q)), if_neg (fun q => e2 4 (by decide) ((hc 40 (by decide) (by decide)).mp q)), if_neg (fun q => e2 5 (by decide) ((hc 41 (by decide) (by decide)).mp q)), if_neg (fun q => e2 0 (by decide) ((hc 60 (by decide) (by decide)).mp q)), if_neg (fun q => e2 1 (by decide) ((hc 62 (by decide) (by decide)).mp q)), if_neg (fun q => e2 2 (by decide) ((hc 61 (by decide) (by decide)).mp q))]
          · rw [e3, if_neg (show ¬ Int32.ofNat (24 + j) = -1 from fun q => of_n1 (show 24 + j < 2147483648 by omega) q.symm)]
            have hj : hh f p = sgC j := by
              rcases (show j = 0 ∨ j = 1 ∨ j = 2 ∨ j = 3 ∨ j = 4 ∨ j = 5 by omega) with q | q | q | q | q | q <;> subst q <;> exact (hc _ (by decide) (by decide)).mpr e2
            rcases (show j = 0 ∨ j = 1 ∨ j = 2 ∨ j = 3 ∨ j = 4 ∨ j = 5 by omega) with q | q | q | q | q | q <;> subst q
            · have hj : hh f p = 60 := hj
              rw [hj]; rfl
            · have hj : hh f p = 62 := hj
              rw [hj]; rfl
            · have hj : hh f p = 61 := hj
              rw [hj]; rfl
            · have hj : hh f p = 59 := hj
              rw [hj]; rfl
            · have hj : hh f p = 40 := hj
              rw [hj]; rfl
            · have hj : hh f p = 41 := hj
              rw [hj]; rfl
        rw [key, J]
        refine ⟨_, rfl, x10.tr (x16.tr (((Rx.rf.s ⟨by decide, by decide⟩).s ⟨by decide, by decide⟩).s ⟨by decide, by decide⟩)), t58, ?_, ?_⟩
        · rw [mI_sI, if_pos ⟨rfl, rfl⟩, en]
        · refine TK_sig (fun q hq => hby q (by omega)) lt cl cd ?_ ?_ _
          · rw [mI_sI, if_neg (by omega), mI_sI, if_neg (by omega), mI_sI, if_pos ⟨rfl, rfl⟩]
          · rw [mI_sI, if_neg (by omega), mI_sI, if_pos ⟨rfl, rfl⟩]
  · have e : p = N := by omega
    simp only [if_neg lt]
    rw [if_neg (by decide), if_neg (by decide), if_neg (by decide)]
    refine ⟨_, rfl, x10.tr (x16.tr (Rx.rf.s ⟨by decide, by decide⟩)), t58, ?_, TK_end (by rw [mI_sI, if_pos ⟨rfl, rfl⟩]) _⟩
    rw [mI_sI, if_neg (by omega), t57, e]
def KK (f : Nat → Int32) (N T i : Nat) : Int32 := if i < T then kdT f N (PT f N i) else 31
/-- the reference's reader stands at token i -/
def AtE (f : Nat → Int32) (N T : Nat) (E : Mm) (i : Nat) : Prop := SR E ∧ mI E 79 = f ∧ mI E 39 56 = Int32.ofNat N ∧ i ≤ T ∧ mI E 39 58 = Int32.ofNat (PT f N i) ∧ mI E 39 57 = Int32.ofNat (if PT f N i < N then enT f N (PT f N i) else N) ∧ TK E (KK f N T i) (nbT f N (PT f N i))
/-- the text's tokens: T of them -/
def Txt (f : Nat → Int32) (N T : Nat) : Prop := N ≤ 500 ∧ Byt f ∧ T ≤ N ∧ PT f N T = N ∧ ∀ j, j < T → PT f N j < N
theorem Txt.le (h : Txt f N T) {i : Nat} (hi : i ≤ T) : PT f N i ≤ N := by
  by_cases c : i < T
  · have := h.2.2.2.2 i c; omega
  · rw [show i = T by omega, h.2.2.2.1]; exact Nat.le_refl _
theorem nx_gen (h : Txt f N T) {q : Nat} (sr : SR E) (h79 : mI E 79 = f) (h56 : mI E 39 56 = Int32.ofNat N) (hq : q ≤ N) (h57 : mI E 39 57 = Int32.ofNat q) {i : Nat} (hi : i ≤ T) (hs : skT f N q = PT f N i) : ∃ E', Mod_next E 39 = some ((), E') ∧ AtE f N T E' i ∧ Rx S5 E E' := by
  obtain ⟨hN, hby, hT, hPT, hlt⟩ := h
  obtain ⟨m, E1, z1, z2, z3, z4⟩ := nx_skip hN hby N fu q E (by omega) hq (by unfold fu; omega) sr h79 h56 h57
  have sb := skT_b (f := f) hq
  obtain ⟨E', y1, y2, y3, y4, y5⟩ := nx_main (m := m) (p := skT f N q) hN hby (z2.sr sr) (by rw [(z2.2.2.1 79 (by decide)).1]; exact h79) (by rw [z2.2.2.2.1 56 (by decide)]; exact h56) sb.2 z3 z4
  have xx : Rx S5 E E' := (z2.mono (fun j q => by rw [q]; exact ⟨by decide, by decide⟩)).tr y2
  refine ⟨E', z1.trans y1, ⟨xx.sr sr, by rw [(xx.2.2.1 79 (by decide)).1]; exact h79, by rw [xx.2.2.2.1 56 (by unfold S5; omega)]; exact h56, hi, by rw [← hs]; exact y3, by rw [← hs]; exact y4, ?_⟩, xx⟩
  rw [hs] at y5
  unfold KK
  by_cases c : i < T
  · rw [if_pos c]; rw [if_pos (hlt i c)] at y5; exact y5
  · rw [if_neg c]; rw [if_neg (by rw [show i = T by omega, hPT]; omega)] at y5; exact y5
theorem ev_next (h : Txt f N T) {i : Nat} (a : AtE f N T E i) (hi : i < T) : ∃ E', Mod_next E 39 = some ((), E') ∧ AtE f N T E' (i + 1) ∧ Rx S5 E E' := by
  have lt := h.2.2.2.2 i hi
  have eb := enT_b (f := f) lt
  obtain ⟨sr, h79, h56, -, h58, h57, -⟩ := a
  rw [if_pos lt] at h57
  refine nx_gen h sr h79 h56 eb.2 h57 (by omega) ?_
  show _ = if PT f N i < N then skT f N (enT f N (PT f N i)) else N
  rw [if_pos lt]
/-! what is known of kinds -/
theorem PT_s (h : Txt f N T) {i : Nat} (hi : i < T) : PT f N i + 1 ≤ PT f N (i + 1) ∧ enT f N (PT f N i) ≤ PT f N (i + 1) := by
  have lt := h.2.2.2.2 i hi
  have eb := enT_b (f := f) lt
  have sb := skT_b (f := f) eb.2
  have e : PT f N (i + 1) = skT f N (enT f N (PT f N i)) := by
    show (if PT f N i < N then skT f N (enT f N (PT f N i)) else N) = _
    rw [if_pos lt]
  rw [e]; omega
theorem rnG_a : ∀ (d p i : Nat), p ≤ i → i < rnG f d p → isD (f i)
  | 0, p, i, h1, h2 => by have h2 : i < p := h2; omega
  | d + 1, p, i, h1, h2 => by
    have h2 : i < (if isD (f p) then rnG f d (p + 1) else p) := h2
    by_cases c : isD (f p)
    · rw [if_pos c] at h2
      by_cases e : i = p
      · rw [e]; exact c
      · exact rnG_a d (p + 1) i (by omega) h2
    · rw [if_neg c] at h2; omega
theorem KK_w (h : Txt f N T) {i k : Nat} (hk : k < 24) (e : KK f N T i = Int32.ofNat k) : i < T ∧ PT f N i + 2 ≤ PT f N (i + 1) := by
  have hi : i < T := by
    apply Classical.byContradiction
    intro q
    unfold KK at e
    rw [if_neg q] at e
    exact of_ne (a := 31) (by decide) (by omega) (by omega) e
  have lt := h.2.2.2.2 i hi
  have s := PT_s h hi
  refine ⟨hi, ?_⟩
  unfold KK at e
  rw [if_pos hi] at e
  by_cases cl : isL (f (PT f N i))
  · obtain ⟨-, b⟩ := kd_iff h.2.1 h.1 lt cl
    rcases b with q | ⟨k', q1, q2, q3⟩
    · rw [q] at e; exact absurd e (of_n1 (by omega))
    · have := (tx_w2 k' q1).2.2.2.2.2
      omega
  · exfalso
    unfold kdT at e
    rw [if_neg cl] at e
    by_cases cd : isD (f (PT f N i))
    · rw [if_pos cd] at e
      split at e
      · exact of_ne (a := 30) (by decide) (by omega) (by omega) e
      · exact of_n1 (by omega) e
    · rw [if_neg cd] at e
      rcases sgT_s (f (PT f N i)) with ⟨e1, e2⟩ | ⟨j, e1, e2, e3⟩
      · rw [e1] at e; exact of_n1 (by omega) e
      · rw [e3] at e; exact of_ne (by omega) (by omega) (by omega) e
theorem KK_n (h : Txt f N T) {i : Nat} (e : KK f N T i = 30) : i < T ∧ 0 ≤ nbT f N (PT f N i) ∧ nbT f N (PT f N i) ≤ 99999 := by
  have hi : i < T := by
    apply Classical.byContradiction
    intro q
    unfold KK at e
    rw [if_neg q] at e
    exact absurd e (by decide)
  have lt := h.2.2.2.2 i hi
  refine ⟨hi, ?_⟩
  unfold KK at e
  rw [if_pos hi] at e
  by_cases cl : isL (f (PT f N i))
  · exfalso
    obtain ⟨-, b⟩ := kd_iff h.2.1 h.1 lt cl
    rcases b with q | ⟨k', q1, q2, q3⟩
    · rw [q] at e; exact absurd e (by decide)
    · rw [q2] at e; exact of_ne (b := 30) (by omega) (by decide) (by omega) e
  · unfold kdT at e
    rw [if_neg cl] at e
    by_cases cd : isD (f (PT f N i))
    · rw [if_pos cd] at e
      split at e
      · rename_i t
        have eb := enT_b (f := f) lt
        have ee : enT f N (PT f N i) = rnG f (N - (PT f N i + 1)) (PT f N i + 1) := by unfold enT; rw [if_neg cl, if_pos cd]
        have b := nuT_b (f := f) (p := PT f N i) (enT f N (PT f N i) - PT f N i) t (fun j h1 h2 => by
          by_cases q : j = PT f N i
          · rw [q]; exact cd
          · exact rnG_a (N - (PT f N i + 1)) (PT f N i + 1) j (by omega) (by rw [← ee]; omega))
        have u : (10 : Int) ^ (enT f N (PT f N i) - PT f N i) ≤ 100000 := by
          rcases (show enT f N (PT f N i) - PT f N i = 0 ∨ enT f N (PT f N i) - PT f N i = 1 ∨ enT f N (PT f N i) - PT f N i = 2 ∨ enT f N (PT f N i) - PT f N i = 3 ∨ enT f N (PT f N i) - PT f N i = 4 ∨ enT f N (PT f N i) - PT f N i = 5 by omega) with w | w | w | w | w | w <;> rw [w] <;> decide
        unfold nbT
        rw [I_le, I_le, i0T, i99T]
        exact ⟨b.1, by omega⟩
      · exact absurd e (by decide)
    · exfalso
      rw [if_neg cd] at e
      rcases sgT_s (f (PT f N i)) with ⟨e1, e2⟩ | ⟨j, e1, e2, e3⟩
      · rw [e1] at e; exact absurd e (by decide)
      · rw [e3] at e; exact of_ne (b := 30) (by omega) (by decide) (by omega) e
end ZO
