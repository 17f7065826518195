/-! other places for what isn't there yet -/
section A1
variable {k : Nat} {ad ad' : Nat → Nat → Nat} {C R : Mm}
theorem al14 (h : Rel k ad C R) {s c : Nat} (hs : s < ix (mI R 39 70)) (hc : c < ix (mI R 87 s)) : Al R 14 (60 * s + c) := by
  have hN := n24 h
  have h60 := n60 h (show s < 24 by omega)
  have e1 : (60 * s + c) / 60 = s := by omega
  have e2 : (60 * s + c) % 60 = c := by omega
  unfold Al
  rw [e1, e2]
  exact Or.inr (Or.inr (Or.inr (Or.inl ⟨rfl, hc, hs⟩)))
theorem al15 (h : Rel k ad C R) {s c : Nat} (hs : s < ix (mI R 39 70)) (hc : c < ix (mI R 88 s)) : Al R 15 (60 * s + c) := by
  have hN := n24 h
  have h60 := n60 h (show s < 24 by omega)
  have e1 : (60 * s + c) / 60 = s := by omega
  have e2 : (60 * s + c) % 60 = c := by omega
  unfold Al
  rw [e1, e2]
  exact Or.inr (Or.inr (Or.inr (Or.inr (Or.inl ⟨rfl, hc, hs⟩))))
theorem alP {c i : Nat} (hc : 1 ≤ c ∧ c ≤ 3) (hi : i < ix (mI R 39 9)) : Al R c i := Or.inl ⟨hc.1, hc.2, hi⟩
theorem alS {c i : Nat} (hc : 4 ≤ c ∧ c ≤ 9) (hi : i < ix (mI R 39 22)) : Al R c i := Or.inr (Or.inl ⟨hc.1, hc.2, hi⟩)
theorem alN {c i : Nat} (hc : 10 ≤ c ∧ c ≤ 13) (hi : i < ix (mI R 39 70)) : Al R c i := Or.inr (Or.inr (Or.inl ⟨hc.1, hc.2, hi⟩))
theorem alE {c i : Nat} (hc : 16 ≤ c ∧ c ≤ 20) (hi : i < ix (mI R 39 37)) : Al R c i := Or.inr (Or.inr (Or.inr (Or.inr (Or.inr ⟨hc.1, hc.2, hi⟩))))
/-- what is there lies in the heap -/
theorem al_lt (h : Rel k ad C R) {c i : Nat} (ha : Al R c i) : ad c i < mZ C := by
  rcases ha with ⟨a, b, hi⟩ | ⟨a, b, hi⟩ | ⟨a, b, hi⟩ | ⟨a, b, hi⟩ | ⟨a, b, hi⟩ | ⟨a, b, hi⟩
  · obtain ⟨-, q1, -, -, q2, q3⟩ := h.shp i hi
    rcases (show c = 1 ∨ c = 2 ∨ c = 3 by omega) with e | e | e <;> subst e
    · exact h.lv.in q1 (by decide)
    · exact h.lv.in q2 (by decide)
    · exact h.lv.in q3 (by decide)
  · have l := lvS h hi
    rcases (show c = 4 ∨ c = 5 ∨ c = 6 ∨ c = 7 ∨ c = 8 ∨ c = 9 by omega) with e | e | e | e | e | e <;> subst e
    · exact l.1
    · exact l.2.1
    · exact l.2.2.1
    · exact l.2.2.2.1
    · exact l.2.2.2.2.1
    · exact l.2.2.2.2.2
  · obtain ⟨-, q1, -, -, -, q2, q3, q4, -⟩ := h.shn.1 i hi
    rcases (show c = 10 ∨ c = 11 ∨ c = 12 ∨ c = 13 by omega) with e | e | e | e <;> subst e
    · exact h.lv.in q1 (by decide)
    · exact h.lv.in q2 (by decide)
    · exact h.lv.in q3 (by decide)
    · exact h.lv.in q4 (by decide)
  · subst a
    have := ((h.shn.1 (i / 60) hi).2.2.2.2.2.2.2.2.1 (i % 60) b).2
    rw [show 60 * (i / 60) + i % 60 = i by omega] at this
    exact h.lv.in this (by decide)
  · subst a
    have := ((h.shn.1 (i / 60) hi).2.2.2.2.2.2.2.2.2 (i % 60) b).2
    rw [show 60 * (i / 60) + i % 60 = i by omega] at this
    exact h.lv.in this (by decide)
  · obtain ⟨-, q1, -, -, -, -, q2, q3, q4, q5, -⟩ := h.she i hi
    rcases (show c = 16 ∨ c = 17 ∨ c = 18 ∨ c = 19 ∨ c = 20 by omega) with e | e | e | e | e <;> subst e
    · exact h.lv.in q1 (by decide)
    · exact h.lv.in q2 (by decide)
    · exact h.lv.in q3 (by decide)
    · exact h.lv.in q4 (by decide)
    · exact h.lv.in (show mK C (ad 20 i) = (20, (mK C (ad 20 i)).2) from Prod.ext q5 rfl) (by decide)
theorem Rel.re0 (h : Rel k ad C R) (hA' : Ad ad') (ag : ∀ c i, Al R c i → ad' c i = ad c i) (un : ∀ c i, ¬ Al R c i → mZ C ≤ ad' c i) : Rel k ad' C R := by
  have hN := n24 h
  have unO : ∀ c i, ¬ Al R c i → mZ C ≤ ad c i := fun c i q => (h.shn.2.2 c i).resolve_left q
  refine Rel.mk h.sc h.sr hA' h.lv ?_ ?_ h.isc h.ila h.ipe ?_ ?_ h.ist ?_ ?_ h.ied ?_ ?_ h.ise h.ison ?_ ?_ ?_
  · intro c i j q
    rw [← h.dt c i j q]
    unfold pl
    by_cases c1 : c < 100
    · rw [if_pos c1, if_pos c1]
      by_cases a : Al R c i
      · rw [ag c i a]
      · unfold rI
        rw [if_neg (by have := un c i a; omega), if_neg (by have := unO c i a; omega)]
    · rw [if_neg c1, if_neg c1]
  · intro c i j q
    rw [← h.dl c i j q]
    unfold pl
    by_cases c1 : c < 100
    · rw [if_pos c1, if_pos c1]
      by_cases a : Al R c i
      · rw [ag c i a]
      · unfold rL
        rw [if_neg (by have := un c i a; omega), if_neg (by have := unO c i a; omega)]
    · rw [if_neg c1, if_neg c1]
  · intro i hi
    rw [ag 1 i (alP (by decide) hi), ag 2 i (alP (by decide) hi), ag 3 i (alP (by decide) hi)]
    exact h.shp i hi
  · intro s hs
    rw [ag 4 s (alS (by decide) hs), ag 5 s (alS (by decide) hs), ag 6 s (alS (by decide) hs), ag 7 s (alS (by decide) hs), ag 8 s (alS (by decide) hs), ag 9 s (alS (by decide) hs)]
    exact h.shs s hs
  · intro s hs
    rw [ag 4 s (alS (by decide) hs), ag 5 s (alS (by decide) hs), ag 6 s (alS (by decide) hs), ag 7 s (alS (by decide) hs), ag 8 s (alS (by decide) hs), ag 9 s (alS (by decide) hs)]
    exact h.qs s hs
  · intro t ht
    rw [ag 16 t (alE (by decide) ht), ag 17 t (alE (by decide) ht), ag 18 t (alE (by decide) ht), ag 19 t (alE (by decide) ht), ag 20 t (alE (by decide) ht)]
    exact h.she t ht
  · intro t ht s hs
    have := h.eds t ht s hs
    unfold ceL at this ⊢
    rw [ag 17 t (alE (by decide) ht), ag 18 t (alE (by decide) ht), ag 19 t (alE (by decide) ht), ag 20 t (alE (by decide) ht)]
    exact this
  · refine ⟨fun s hs => ?_, ?_, fun c i => ?_⟩
    · obtain ⟨a1, a2, a3, a4, a5, a6, a7, a8, a9, a10⟩ := h.shn.1 s hs
      rw [ag 10 s (alN (by decide) hs), ag 11 s (alN (by decide) hs), ag 12 s (alN (by decide) hs), ag 13 s (alN (by decide) hs)]
      refine ⟨a1, a2, a3, a4, a5, a6, a7, a8, fun c hc => ?_, fun b hb => ?_⟩
      · rw [ag 14 _ (al14 h hs hc)]; exact a9 c hc
      · rw [ag 15 _ (al15 h hs hb)]; exact a10 b hb
    · rw [h.shn.2.1]
      by_cases o : mI R 39 73 = 0
      · rw [if_pos o, if_pos o]
      · rw [if_neg o, if_neg o]
        have o1 : mI R 39 73 = 1 := by rcases h.isc.on with q | q; exact absurd q o; exact q
        obtain ⟨s, t1, -⟩ := on_s h o1
        rw [ag 10 _ (alN (by decide) (by omega))]
    · by_cases a : Al R c i
      · exact Or.inl a
      · exact Or.inr (un c i a)
  · refine ⟨fun s hs => ?_, fun o => ?_⟩
    · rw [ag 10 s (alN (by decide) hs)]; exact h.son.1 s hs
    · obtain ⟨s, t1, -⟩ := on_s h o
      rw [ag 12 _ (alN (by decide) (by omega))]
      exact h.son.2 o
  · intro s b hs hb
    rw [ag 15 _ (al15 h hs hb)]
    exact h.den s b hs hb
  · intro s hs
    have h60 := n60 h (show s < 24 by omega)
    obtain ⟨w1, w2, w3, w4, w5⟩ := h.evs s hs
    refine ⟨w1, fun j hj => ?_, fun c hc => ?_, ?_, fun o q c hc => ?_⟩
    · rcases w2 j hj with z | ⟨c, z1, z2, z3⟩
      · exact Or.inl z
      · have cm := cc_mo (f := mI R 96) (b := 120 * s) (n := ix (mI R 90 s)) (j := j) (by omega)
        exact Or.inr ⟨c, z1, z2, by rw [ag 14 _ (al14 h hs (by omega))]; exact z3⟩
    · rw [ag 14 _ (al14 h hs hc)]; exact w3 c hc
    · rw [w4]
      congr 1
      apply sumTo_cg
      intro c hc
      show (if mI C (ad 14 (60 * s + c)) 5 = -1 then (0 : Int) else 1) = (if mI C (ad' 14 (60 * s + c)) 5 = -1 then (0 : Int) else 1)
      rw [ag 14 _ (al14 h hs hc)]
    · rw [ag 14 _ (al14 h hs hc)]; exact w5 o q c hc
/-- new places for the roles that nu names -/
theorem Rel.re (h : Rel k ad C R) (nu : Nat → Nat → Nat) (h1 : ∀ c i, nu c i ≠ 0 → mZ C ≤ nu c i ∧ nu c i < mZ C + 200 ∧ ¬ Al R c i) (h2 : ∀ c i c' i', nu c i ≠ 0 → nu c i = nu c' i' → c = c' ∧ i = i') : ∃ ad', Rel k ad' C R ∧ (∀ c i, nu c i ≠ 0 → ad' c i = nu c i) ∧ (∀ c i, Al R c i → ad' c i = ad c i) ∧ (∀ c i, ¬ Al R c i → nu c i = 0 → mZ C + 200 ≤ ad' c i) := by
  have hz := h.lv.1
  have key : ∀ c i, ∃ x, (Al R c i → x = ad c i) ∧ (¬ Al R c i → nu c i ≠ 0 → x = nu c i) ∧ (¬ Al R c i → nu c i = 0 → x = if c < 100 then 2 * (mZ C + 200 + 100 * i + c) else 2 * (mZ C + 200 + ad c i) + 1) := by
    intro c i
    by_cases a : Al R c i
    · exact ⟨ad c i, fun _ => rfl, fun q => absurd a q, fun q => absurd a q⟩
    · by_cases b : nu c i = 0
      · exact ⟨_, fun q => absurd q a, fun _ q => absurd b q, fun _ _ => rfl⟩
      · exact ⟨nu c i, fun q => absurd q a, fun _ _ => rfl, fun _ q => absurd q b⟩
  have key2 : ∀ c, ∃ f : Nat → Nat, ∀ i, (Al R c i → f i = ad c i) ∧ (¬ Al R c i → nu c i ≠ 0 → f i = nu c i) ∧ (¬ Al R c i → nu c i = 0 → f i = if c < 100 then 2 * (mZ C + 200 + 100 * i + c) else 2 * (mZ C + 200 + ad c i) + 1) := fun c => Classical.axiomOfChoice (key c)
  obtain ⟨ad', hf⟩ := Classical.axiomOfChoice key2
  have big : ∀ c i, ¬ Al R c i → nu c i = 0 → mZ C + 200 ≤ ad' c i := fun c i a b => by
    rw [(hf c i).2.2 a b]
    split <;> omega
  have un : ∀ c i, ¬ Al R c i → mZ C ≤ ad' c i := fun c i a => by
    by_cases b : nu c i = 0
    · have := big c i a b; omega
    · rw [(hf c i).2.1 a b]; exact (h1 c i b).1
  refine ⟨ad', h.re0 ⟨fun c i => ?_, fun c i c' i' e => ?_⟩ (fun c i => (hf c i).1) un, fun c i q => (hf c i).2.1 (h1 c i q).2.2 q, fun c i => (hf c i).1, big⟩
  · by_cases a : Al R c i
    · rw [(hf c i).1 a]; exact h.hA.1 c i
    · have := un c i a; omega
  · by_cases a : Al R c i
    · have l1 := al_lt h a
      rw [(hf c i).1 a] at e
      by_cases a' : Al R c' i'
      · rw [(hf c' i').1 a'] at e; exact h.hA.2 _ _ _ _ e
      · have := un c' i' a'; omega
    · by_cases a' : Al R c' i'
      · have l1 := al_lt h a'
        rw [(hf c' i').1 a'] at e
        have := un c i a; omega
      · by_cases b : nu c i = 0
        · have g1 := big c i a b
          by_cases b' : nu c' i' = 0
          · rw [(hf c i).2.2 a b, (hf c' i').2.2 a' b'] at e
            split at e <;> split at e
            · omega
            · omega
            · omega
            · have : ad c i = ad c' i' := by omega
              exact h.hA.2 _ _ _ _ this
          · rw [(hf c' i').2.1 a' b'] at e
            have := (h1 c' i' b').2.1
            omega
        · rw [(hf c i).2.1 a b] at e
          by_cases b' : nu c' i' = 0
          · have g1 := big c' i' a' b'
            have := (h1 c i b).2.1
            omega
          · rw [(hf c' i').2.1 a' b'] at e
            exact h2 c i c' i' b e
end A1
