section Y7
variable {k : Nat} {ad : Nat → Nat → Nat} {C R : Mm}
/-- a cry that stands, on both sides -/
theorem stand_R (h : Rel k ad C R) (o : mI R 39 73 = 1) {s c : Nat} {l : Int32} (t1 : s + 1 = ix (mI R 39 70)) (hc : c + 1 = ix (mI R 87 s)) (hl : 1 ≤ l ∧ l ≤ 50) (z : mI R 109 c = 0) (h5 : mI C (ad 14 (60 * s + c)) 5 = -1) (hq : (ix (mI R 88 s) : Int) + sumTo (fun c => if mI R 109 c = 0 then 0 else 1) 60 + 1 ≤ ix (mI R 87 s)) : Rel k ad (sI C (ad 12 s) c l) (sI R 109 c l) := by
  have hN := n24 h
  have s24 : s < 24 := by omega
  have hs : s < ix (mI R 39 70) := by omega
  have h60 := n60 h s24
  have sh := h.shn.1 s hs
  have lv12 : ad 12 s < mZ C := al_lt h (alN (by decide) hs)
  have rC : ∀ c' i, c' ≠ 12 → mI (sI C (ad 12 s) c l) (ad c' i) = mI C (ad c' i) := fun c' i p => row_d h.hA c' i p
  have g : ∀ a, a ≠ 109 → mI (sI R 109 c l) a = mI R a := fun a p => row_n p
  have so := h.ison o
  rw [← t1, Nat.add_sub_cancel] at so
  have D1 : Dt ad (sI C (ad 12 s) c l) (sI R 109 c l) := (h.dt.stc h.hA 12 s c rfl (Or.inl (by decide)) lv12).str 109 c rfl
  have L1 : DL ad (sI C (ad 12 s) c l) (sI R 109 c l) := h.dl
  have q109 : ∀ j, mI (sI R 109 c l) 109 j = if j = c then l else mI R 109 j := fun j => by
    rw [mI_sI]
    by_cases y : j = c
    · rw [if_pos ⟨rfl, y⟩, if_pos y]
    · rw [if_neg (fun z => y z.2), if_neg y]
  have q12 : ∀ j, mI (sI C (ad 12 s) c l) (ad 12 s) j = if j = c then l else mI C (ad 12 s) j := fun j => by
    rw [mI_sI]
    by_cases y : j = c
    · rw [if_pos ⟨rfl, y⟩, if_pos y]
    · rw [if_neg (fun z => y z.2), if_neg y]
  have eL : mL (sI R 109 c l) = mL R := rfl
  have eR : mR (sI R 109 c l) = mR R := rfl
  have eK : mK (sI R 109 c l) = mK R := rfl
  have cK : mK (sI C (ad 12 s) c l) = mK C := rfl
  have cR : mR (sI C (ad 12 s) c l) = mR C := rfl
  have lv : Lv k (sI C (ad 12 s) c l) := h.lv
  have shn0 : ShN ad (sI C (ad 12 s) c l) R := h.shn
  generalize sI R 109 c l = R' at *
  generalize sI C (ad 12 s) c l = C' at *
  have g39 := g 39 (by decide)
  have g87 := g 87 (by decide)
  have g88 := g 88 (by decide)
  refine h.ses lv (fun c' i y => rC c' i (by omega)) (fun c' i _ => by rw [cK]) (fun c' i _ => by rw [cR]) (fun a _ => by rw [cK]) (fun a _ => by rw [cR]) D1 L1 g39 (fun a y => g a (fun w => y (by unfold tS; omega))) eL eR eK ?_ ?_ ?_ ?_ ?_ ?_
  · unfold ShN Un Al at shn0 ⊢
    rw [g39, g87, g88]
    exact shn0
  · have := h.ise
    unfold Ise at this ⊢
    rw [g39, g87, g88, g 90 (by decide), g 84 (by decide), g 86 (by decide), g 89 (by decide), g 85 (by decide), g 92 (by decide), g 97 (by decide), g 93 (by decide), g 94 (by decide), g 95 (by decide), g 98 (by decide), g 99 (by decide), g 100 (by decide), g 101 (by decide), g 102 (by decide), g 103 (by decide), g 104 (by decide), g 105 (by decide), g 107 (by decide), g 108 (by decide)]
    exact this
  · intro _
    rw [g39, g87, g88, ← t1, Nat.add_sub_cancel]
    refine ⟨so.1, so.2.1, fun c' y => ?_, fun c' y w => ?_, ?_⟩
    · rw [q109]; split
      · exact ⟨by clear h lv shn0 D1 L1; grind, hl.2⟩
      · exact so.2.2.1 c' y
    · rw [q109, if_neg (by omega)]
      exact so.2.2.2.1 c' y w
    · have s1 := sumTo_one (f := fun i => if mI R' 109 i = 0 then (0 : Int) else 1) (g := fun i => if mI R 109 i = 0 then (0 : Int) else 1) (n := 60) (i := c) (by omega) (fun j _ w => by
        show (if mI R' 109 j = 0 then (0 : Int) else 1) = _
        rw [q109, if_neg w])
      rw [s1]
      have e1 : (if mI R 109 c = 0 then (0 : Int) else 1) = 0 := if_pos z
      have e2 : (if mI R' 109 c = 0 then (0 : Int) else 1) ≤ 1 := by split <;> omega
      show (ix (mI R 88 s) : Int) + (sumTo (fun i => if mI R 109 i = 0 then (0 : Int) else 1) 60 + ((if mI R' 109 c = 0 then (0 : Int) else 1) - (if mI R 109 c = 0 then (0 : Int) else 1))) ≤ _
      rw [e1]
      omega
  · refine ⟨fun s' y => ?_, fun _ c' y => ?_⟩
    · rw [g39] at y ⊢
      rw [rC 10 s' (by decide)]
      exact h.son.1 s' y
    · have := h.son.2 o c' y
      rw [← t1, Nat.add_sub_cancel] at this
      rw [g39, ← t1, Nat.add_sub_cancel, q12, q109, this]
  · exact h.den.cg (fun x j _ => congrFun (rC 15 x (by decide)) j) (congrFun g39 70) g88 (g 105 (by decide)) (g 106 (by decide))
  · intro s' y
    rw [g39] at y
    obtain ⟨w1, w2, w3, w4, w5⟩ := h.evs s' y
    rw [g39, g87, g 90 (by decide), g 96 (by decide)]
    simp only [rC 14 _ (show 14 ≠ 12 by decide)]
    refine ⟨w1, w2, w3, w4, fun o' y2 c' hc' hb' => ?_⟩
    have : ¬ c' = c := fun w => by
      rw [w, show s' = s by omega] at hb'
      exact hb' h5
    rw [q109, if_neg this]
    exact w5 o' y2 c' hc' hb'
theorem ev_cnew {M : Mm} {z : Nat} {p b l pr t : Int32} (kz : mK M z = (1, 6)) (hb : b = 0 ∨ b = 1) : Cry_new M z p b l pr t = some ((), sI (sI (sI (sI (sI (sI M z 0 p) z 1 b) z 2 l) z 3 pr) z 4 t) z 5 (-1)) := by
  have k1 : kZ b = true := by rcases hb with e | e <;> subst e <;> rfl
  unfold Cry_new
  simp only [kO_t kz, k1, ck_t]
theorem ev_addc {M : Mm} {X S11 z c : Nat} (kX : mK M X = (9, 11)) (i4 : mI M X 4 = Int32.ofNat c) (c60 : c < 60) (r1 : mR M X 1 = some S11) (k11 : mK M S11 = (28, 60)) (kz : mK M z = (1, 6)) : Session_addCry M X z = some (Int32.ofNat c, sI (sR M S11 c (some z)) X 4 (Int32.ofNat (c + 1))) := by
  have C0 : (0 : Int32) ≤ Int32.ofNat c := of_nn _ (by omega)
  have C1 : ix (Int32.ofNat c) = c := ix_of _ (by omega)
  have lt : Int32.ofNat c < 60 := (of_lt c 60 (by omega) (by omega)).mpr (by omega)
  have i4' : mI (sR M S11 c (some z)) X 4 = Int32.ofNat c := i4
  have sub1 : Int32.ofNat (c + 1) - 1 = Int32.ofNat c := of_sub (c + 1) 1 (by omega)
  have e5 : ∀ v, mI (sI (sR M S11 c (some z)) X 4 v) X 4 = v := fun v => by rw [mI_sI, if_pos ⟨rfl, rfl⟩]
  unfold Session_addCry
  simp only [kO_t kX, ck_t, i4, if_pos lt, r1, nn_s, kA_t k11 C0 (show ix (Int32.ofNat c) < 60 by omega), C1, kO_t kz, i4', of_s1 c (by omega), e5, sub1]
theorem cry_C {M F N P Q G H : Mm} {X z a : Nat} {p b l pr t c f g r12 : Int32} (k8 : mK M 8 = (11, 18)) (m14 : mR M 8 14 = some X) (eP : Hall_isPerson M 8 p = some (1, M)) (hl : 1 ≤ l ∧ l ≤ 50) (hpr : 1 ≤ pr ∧ pr ≤ 9999) (kX : mK M X = (9, 11)) (m4 : mI M X 4 < 60) (e10 : Hall_askLaw M 8 10 = some (r12, F)) (h10 : ¬ r12 = 1) (f8 : mK F 8 = (11, 18)) (f1 : mR F 8 1 = some 16) (f16 : mK F 16 = (24, 16)) (p0 : 0 ≤ p) (p16 : ix p < 16) (fp : mR F 16 (ix p) = some a) (fa : mK F a = (6, 9)) (fc : mI F a 6 = -1) (f14 : mR F 8 14 = some X) (eN : nw F 1 6 = N) (n8 : mK N 8 = (11, 18)) (nt : mI N 8 16 = t) (zF : mZ F = z) (eC : Cry_new N z p b l pr t = some ((), P)) (pX : mK P X = (9, 11)) (eA : Session_addCry P X z = some (c, Q)) (q8 : mK Q 8 = (11, 18)) (e0 : Hall_askLaw Q 8 0 = some (f, G)) (g8 : mK G 8 = (11, 18)) (e1 : Hall_askLaw G 8 1 = some (g, H)) (h8 : mK H 8 = (11, 18)) (h14 : mR H 8 14 = some X) (hX : mK H X = (9, 11)) : Hall_cry M 8 p b l pr = if f ≤ pr ∧ pr ≤ g then bd (Session_meet H X c) (fun _ M39 => some (c, M39)) else some (-3, H) := by
  unfold Hall_cry
  simp only [kO_t k8, ck_t, m14, nl_s, eP, bd_s, i10, if_false, ev_within, if_pos hl, if_pos hpr, nn_s, kO_t kX, if_pos m4, e10, if_neg h10, kO_t f8, f1, kA_t f16 p0 p16, fp, kO_t fa, fc, if_true, f14, eN, kO_t n8, nt, zF, eC, kO_t pX, eA, kO_t q8, e0, kO_t g8, e1]
  by_cases w : f ≤ pr ∧ pr ≤ g
  · simp only [if_pos w, i10, if_false, kO_t h8, ck_t, h14, nn_s, kO_t hX]
  · simp only [if_neg w, if_true]
/-- the reference's memory behind a cry that is added -/
def rC (R : Mm) (s c e : Nat) (p b l pr : Int32) : Mm := sI (sI (sI (sI (sI (sI (sI (sI (sI R 92 (60 * s + c) p) 97 (60 * s + c) b) 93 (60 * s + c) l) 94 (60 * s + c) pr) 95 (60 * s + c) (mI R 39 0)) 96 (120 * s + e) (Int32.ofNat c)) 90 s (Int32.ofNat (e + 1))) 87 s (Int32.ofNat (c + 1))) 109 c 0
theorem rC_CR {s c e : Nat} {p b l pr : Int32} : CR R (rC R s c e p b l pr) s c e p b l pr := by
  unfold rC
  have key : ∀ (M : Mm) (a i : Nat) (v : Int32) (j : Nat), mI (sI M a i v) a j = if j = i then v else mI M a j := fun M a i v j => by
    rw [mI_sI]
    by_cases y : j = i
    · rw [if_pos ⟨rfl, y⟩, if_pos y]
    · rw [if_neg (fun z => y z.2), if_neg y]
  refine ⟨fun j => ?_, fun j => ?_, fun j => ?_, fun j => ?_, fun j => ?_, fun j => ?_, fun j => ?_, fun j => ?_, fun j => ?_, fun a a1 a2 a3 a4 a5 a6 a7 a8 a9 => ?_, rfl, rfl, rfl⟩
  · rw [row_n (show 92 ≠ 109 by decide), row_n (show 92 ≠ 87 by decide), row_n (show 92 ≠ 90 by decide), row_n (show 92 ≠ 96 by decide), row_n (show 92 ≠ 95 by decide), row_n (show 92 ≠ 94 by decide), row_n (show 92 ≠ 93 by decide), row_n (show 92 ≠ 97 by decide), key]
  · rw [row_n (show 97 ≠ 109 by decide), row_n (show 97 ≠ 87 by decide), row_n (show 97 ≠ 90 by decide), row_n (show 97 ≠ 96 by decide), row_n (show 97 ≠ 95 by decide), row_n (show 97 ≠ 94 by decide), row_n (show 97 ≠ 93 by decide), key, row_n (show 97 ≠ 92 by decide)]
  · rw [row_n (show 93 ≠ 109 by decide), row_n (show 93 ≠ 87 by decide), row_n (show 93 ≠ 90 by decide), row_n (show 93 ≠ 96 by decide), row_n (show 93 ≠ 95 by decide), row_n (show 93 ≠ 94 by decide), key, row_n (show 93 ≠ 97 by decide), row_n (show 93 ≠ 92 by decide)]
  · rw [row_n (show 94 ≠ 109 by decide), row_n (show 94 ≠ 87 by decide), row_n (show 94 ≠ 90 by decide), row_n (show 94 ≠ 96 by decide), row_n (show 94 ≠ 95 by decide), key, row_n (show 94 ≠ 93 by decide), row_n (show 94 ≠ 97 by decide), row_n (show 94 ≠ 92 by decide)]
  · rw [row_n (show 95 ≠ 109 by decide), row_n (show 95 ≠ 87 by decide), row_n (show 95 ≠ 90 by decide), row_n (show 95 ≠ 96 by decide), key, row_n (show 95 ≠ 94 by decide), row_n (show 95 ≠ 93 by decide), row_n (show 95 ≠ 97 by decide), row_n (show 95 ≠ 92 by decide)]
  · rw [row_n (show 96 ≠ 109 by decide), row_n (show 96 ≠ 87 by decide), row_n (show 96 ≠ 90 by decide), key, row_n (show 96 ≠ 95 by decide), row_n (show 96 ≠ 94 by decide), row_n (show 96 ≠ 93 by decide), row_n (show 96 ≠ 97 by decide), row_n (show 96 ≠ 92 by decide)]
  · rw [row_n (show 90 ≠ 109 by decide), row_n (show 90 ≠ 87 by decide), key, row_n (show 90 ≠ 96 by decide), row_n (show 90 ≠ 95 by decide), row_n (show 90 ≠ 94 by decide), row_n (show 90 ≠ 93 by decide), row_n (show 90 ≠ 97 by decide), row_n (show 90 ≠ 92 by decide)]
  · rw [row_n (show 87 ≠ 109 by decide), key, row_n (show 87 ≠ 90 by decide), row_n (show 87 ≠ 96 by decide), row_n (show 87 ≠ 95 by decide), row_n (show 87 ≠ 94 by decide), row_n (show 87 ≠ 93 by decide), row_n (show 87 ≠ 97 by decide), row_n (show 87 ≠ 92 by decide)]
  · rw [key, row_n (show 109 ≠ 87 by decide), row_n (show 109 ≠ 90 by decide), row_n (show 109 ≠ 96 by decide), row_n (show 109 ≠ 95 by decide), row_n (show 109 ≠ 94 by decide), row_n (show 109 ≠ 93 by decide), row_n (show 109 ≠ 97 by decide), row_n (show 109 ≠ 92 by decide)]
  · rw [row_n a9, row_n a8, row_n a7, row_n a6, row_n a5, row_n a4, row_n a3, row_n a2, row_n a1]
theorem cry_M {M R1 : Mm} {s c e : Nat} {p b l pr r12 : Int32} (sM : SR M) (eP : Mod_isPerson M 39 p = some (1, M)) (hl : 1 ≤ l ∧ l ≤ 50) (hpr : 1 ≤ pr ∧ pr ≤ 9999) (o : mI M 39 73 = 1) (hn : mI M 39 70 - 1 = Int32.ofNat s) (s24 : s < 24) (m4 : ¬ mI M 87 s = 60) (e10 : Mod_asked M 39 10 = some (r12, R1)) (h10 : ¬ r12 = 1) (sR1 : SR R1) (p0 : 0 ≤ p) (p16 : ix p < 16) (fc : mI R1 49 (ix p) < 0) (h87 : mI R1 87 s = Int32.ofNat c) (h90 : mI R1 90 s = Int32.ofNat e) (c60 : c < 60) (e120 : e < 120) (hb : b = 0 ∨ b = 1) : Mod_cry M 39 p b l pr = bd (Mod_asked (rC R1 s c e p b l pr) 39 0) (fun r51 M52 => if pr < r51 then some (-3, M52) else ck (kO M52 39 12 107) (bd (Mod_asked M52 39 1) (fun r54 M55 => if pr ≤ r54 then ck (kO M55 39 12 107) (nn (mR M55 39 100) (fun b57 => ck (kA M55 b57 20 (Int32.ofNat c)) (bd (Mod_against (sI M55 b57 (ix (Int32.ofNat c)) l) 39 (Int32.ofNat s) (Int32.ofNat c) (Int32.ofNat c)) (fun r60 M61 => Mod_cry_L244 fu 39 p b (Int32.ofNat s) (Int32.ofNat c) r60 M61)))) else some (-3, M55)))) := by
  have S0 : (0 : Int32) ≤ Int32.ofNat s := of_nn _ (by omega)
  have S1 : ix (Int32.ofNat s) = s := ix_of _ (by omega)
  have C0 : (0 : Int32) ≤ Int32.ofNat c := of_nn _ (by omega)
  have C1 : ix (Int32.ofNat c) = c := ix_of _ (by omega)
  have ex : 60 * Int32.ofNat s + Int32.ofNat c = Int32.ofNat (60 * s + c) := by rw [show (60 : Int32) = Int32.ofNat 60 from rfl, of_mul, of_add]
  have ee : 120 * Int32.ofNat s + Int32.ofNat e = Int32.ofNat (120 * s + e) := by rw [show (120 : Int32) = Int32.ofNat 120 from rfl, of_mul, of_add]
  have X0 : (0 : Int32) ≤ Int32.ofNat (60 * s + c) := of_nn _ (by omega)
  have X1 : ix (Int32.ofNat (60 * s + c)) = 60 * s + c := ix_of _ (by omega)
  have E0 : (0 : Int32) ≤ Int32.ofNat (120 * s + e) := of_nn _ (by omega)
  have E1 : ix (Int32.ofNat (120 * s + e)) = 120 * s + e := ix_of _ (by omega)
  have kb : kZ b = true := by rcases hb with z | z <;> subst z <;> rfl
  have x1 : ix (Int32.ofNat (60 * s + c)) < 1440 := by omega
  have e1 : ix (Int32.ofNat (120 * s + e)) < 2880 := by omega
  have s1 : ix (Int32.ofNat s) < 24 := by omega
  have c1 : ix (Int32.ofNat c) < 60 := by omega
  unfold Mod_cry
  simp only [kO_t sM.k39, ck_t, eP, bd_s, i10, if_false, ev_in, if_pos hl, if_pos hpr, o, sM.r39_78, nn_s, hn, kA_t sM.k87 S0 s1, S1, if_neg m4, e10, if_neg h10, kO_t sR1.k39, sR1.r39_13, kA_t sR1.k49 p0 (show ix p < 16 from p16), if_pos fc, sR1.r39_78, kA_t sR1.k87 S0 s1, h87, ex, sR1.r39_83, kA_t sR1.k92 X0 x1, X1, mR_sI, kA_sI, kO_sI, sR1.r39_88, kA_t sR1.k97 X0 x1, kb, sR1.r39_84, kA_t sR1.k93 X0 x1, sR1.r39_85, kA_t sR1.k94 X0 x1, sR1.r39_86, kA_t sR1.k95 X0 x1, row_n (show 39 ≠ 92 by decide), row_n (show 39 ≠ 97 by decide), row_n (show 39 ≠ 93 by decide), row_n (show 39 ≠ 94 by decide), sR1.r39_87, sR1.r39_81, kA_t sR1.k90 S0 s1, row_n (show 90 ≠ 92 by decide), row_n (show 90 ≠ 97 by decide), row_n (show 90 ≠ 93 by decide), row_n (show 90 ≠ 94 by decide), row_n (show 90 ≠ 95 by decide), row_n (show 90 ≠ 96 by decide), h90, ee, kA_t sR1.k96 E0 e1, E1, of_s1 e (by omega), row_n (show 87 ≠ 92 by decide), row_n (show 87 ≠ 97 by decide), row_n (show 87 ≠ 93 by decide), row_n (show 87 ≠ 94 by decide), row_n (show 87 ≠ 95 by decide), row_n (show 87 ≠ 96 by decide), row_n (show 87 ≠ 90 by decide), of_s1 c (by omega), sR1.r39_100, kA_t sR1.k109 C0 c1, C1]
  unfold rC
  rfl
end Y7
