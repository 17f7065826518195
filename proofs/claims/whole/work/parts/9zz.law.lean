/-! one turn of the law's loop -/
section ZL
variable {k : Nat} {ad : Nat → Nat → Nat} {M : Mm}
def TN (k : Nat) (K : Nat → Nat → Int32 → Mm → Option (Int32 × Mm)) (x3 : Int32) (o : Option (Int32 × Mm)) : Prop := ∃ M2 ad', o = K 8 39 (x3 + 6) M2 ∧ Rel (k + 1) ad' M2 M2 ∧ Cl Dc M2
theorem TN_if {K : Nat → Nat → Int32 → Mm → Option (Int32 × Mm)} {x3 : Int32} {c : Prop} [Decidable c] {o1 o2 : Option (Int32 × Mm)} (h1 : c → TN k K x3 o1) (h2 : ¬ c → TN k K x3 o2) : TN k K x3 (if c then o1 else o2) := by
  by_cases q : c
  · rw [if_pos q]; exact h1 q
  · rw [if_neg q]; exact h2 q
theorem lw_turn (h : Rel k ad M M) (hk : k < 512) (hcl : Cl Dc M) (xs : Nat → Int32) (nx : Nat) (K : Nat → Nat → Int32 → Mm → Option (Int32 × Mm)) (x3 : Int32) (c : ¬ (Int32.ofNat nx) - 6 < x3) (s0 : kS nx x3 = true) (s1 : kS nx (x3 + 1) = true) (s2 : kS nx (x3 + 2) = true) (s3 : kS nx (x3 + 3) = true) (s4 : kS nx (x3 + 4) = true) (s5 : kS nx (x3 + 5) = true) : TN k K x3 (Lw_law_B18 xs nx K 8 39 x3 M) := by
  have o8 := h.o8
  unfold Lw_law_B18
  rw [if_neg c, s0, ck_t]
  generalize xs (ix x3) &&& 63 = op
  refine TN_if (fun _ => ?_) (fun _ => ?_)
  · obtain ⟨r, M1, M2, ad', e1, e2, -, r2, c2⟩ := st_town h hk hcl 
    have k1 : kO M1 39 12 107 = true := kO_t (by rw [← (nj_Mod_town M1 39  r M2 e2).2.1]; exact r2.sr.k39)
    simp only [s1, s2, s3, s4, s5, o8, ck_t, e1, bd_s, k1, e2, if_true, Lw_law_J1588]
    exact ⟨M2, ad', rfl, r2, c2⟩
  refine TN_if (fun _ => ?_) (fun _ => ?_)
  · obtain ⟨r, M1, M2, ad', e1, e2, -, r2, c2⟩ := st_fog h hk hcl (xs (ix (x3 + 1))) (xs (ix (x3 + 2))) (xs (ix (x3 + 3)))
    have k1 : kO M1 39 12 107 = true := kO_t (by rw [← (nj_Mod_fog M1 39 (xs (ix (x3 + 1))) (xs (ix (x3 + 2))) (xs (ix (x3 + 3))) r M2 e2).2.1]; exact r2.sr.k39)
    simp only [s1, s2, s3, s4, s5, o8, ck_t, e1, bd_s, k1, e2, if_true, Lw_law_J1588]
    exact ⟨M2, ad', rfl, r2, c2⟩
  refine TN_if (fun _ => ?_) (fun _ => ?_)
  · obtain ⟨r, M1, M2, ad', e1, e2, -, r2, c2⟩ := st_road h hk hcl (xs (ix (x3 + 1))) (xs (ix (x3 + 2))) (xs (ix (x3 + 3))) (xs (ix (x3 + 4)))
    have k1 : kO M1 39 12 107 = true := kO_t (by rw [← (nj_Mod_road M1 39 (xs (ix (x3 + 1))) (xs (ix (x3 + 2))) (xs (ix (x3 + 3))) (xs (ix (x3 + 4))) r M2 e2).2.1]; exact r2.sr.k39)
    simp only [s1, s2, s3, s4, s5, o8, ck_t, e1, bd_s, k1, e2, if_true, Lw_law_J1588]
    exact ⟨M2, ad', rfl, r2, c2⟩
  refine TN_if (fun _ => ?_) (fun _ => ?_)
  · obtain ⟨r, M1, M2, ad', e1, e2, -, r2, c2⟩ := st_news h hk hcl (xs (ix (x3 + 1))) (xs (ix (x3 + 2))) (xs (ix (x3 + 3)))
    have k1 : kO M1 39 12 107 = true := kO_t (by rw [← (nj_Mod_news M1 39 (xs (ix (x3 + 1))) (xs (ix (x3 + 2))) (xs (ix (x3 + 3))) r M2 e2).2.1]; exact r2.sr.k39)
    simp only [s1, s2, s3, s4, s5, o8, ck_t, e1, bd_s, k1, e2, if_true, Lw_law_J1588]
    exact ⟨M2, ad', rfl, r2, c2⟩
  refine TN_if (fun _ => ?_) (fun _ => ?_)
  · obtain ⟨r, M1, M2, ad', e1, e2, -, r2, c2⟩ := st_person h hk hcl (xs (ix (x3 + 1)))
    have k1 : kO M1 39 12 107 = true := kO_t (by rw [← (nj_Mod_person M1 39 (xs (ix (x3 + 1))) r M2 e2).2.1]; exact r2.sr.k39)
    simp only [s1, s2, s3, s4, s5, o8, ck_t, e1, bd_s, k1, e2, if_true, Lw_law_J1588]
    exact ⟨M2, ad', rfl, r2, c2⟩
  refine TN_if (fun _ => ?_) (fun _ => ?_)
  · obtain ⟨r, M1, M2, ad', e1, e2, -, r2, c2⟩ := st_hears h hk hcl (xs (ix (x3 + 1))) (xs (ix (x3 + 2))) (xs (ix (x3 + 3)))
    have k1 : kO M1 39 12 107 = true := kO_t (by rw [← (nj_Mod_hears M1 39 (xs (ix (x3 + 1))) (xs (ix (x3 + 2))) (xs (ix (x3 + 3))) r M2 e2).2.1]; exact r2.sr.k39)
    simp only [s1, s2, s3, s4, s5, o8, ck_t, e1, bd_s, k1, e2, if_true, Lw_law_J1588]
    exact ⟨M2, ad', rfl, r2, c2⟩
  refine TN_if (fun _ => ?_) (fun _ => ?_)
  · obtain ⟨r, M1, M2, ad', e1, e2, -, r2, c2⟩ := st_store h hk hcl 
    have k1 : kO M1 39 12 107 = true := kO_t (by rw [← (nj_Mod_store M1 39  r M2 e2).2.1]; exact r2.sr.k39)
    simp only [s1, s2, s3, s4, s5, o8, ck_t, e1, bd_s, k1, e2, if_true, Lw_law_J1588]
    exact ⟨M2, ad', rfl, r2, c2⟩
  refine TN_if (fun _ => ?_) (fun _ => ?_)
  · obtain ⟨r, M1, M2, ad', e1, e2, -, r2, c2⟩ := st_issue h hk hcl (xs (ix (x3 + 1))) (xs (ix (x3 + 2))) (xs (ix (x3 + 3))) (xs (ix (x3 + 4)))
    have k1 : kO M1 39 12 107 = true := kO_t (by rw [← (nj_Mod_issue M1 39 (xs (ix (x3 + 1))) (xs (ix (x3 + 2))) (xs (ix (x3 + 3))) (xs (ix (x3 + 4))) r M2 e2).2.1]; exact r2.sr.k39)
    simp only [s1, s2, s3, s4, s5, o8, ck_t, e1, bd_s, k1, e2, if_true, Lw_law_J1588]
    exact ⟨M2, ad', rfl, r2, c2⟩
  refine TN_if (fun _ => ?_) (fun _ => ?_)
  · obtain ⟨r, M1, M2, ad', e1, e2, -, r2, c2⟩ := st_give h hk hcl (xs (ix (x3 + 1))) (xs (ix (x3 + 2))) (xs (ix (x3 + 3))) (xs (ix (x3 + 4)))
    have k1 : kO M1 39 12 107 = true := kO_t (by rw [← (nj_Mod_give M1 39 (xs (ix (x3 + 1))) (xs (ix (x3 + 2))) (xs (ix (x3 + 3))) (xs (ix (x3 + 4))) r M2 e2).2.1]; exact r2.sr.k39)
    simp only [s1, s2, s3, s4, s5, o8, ck_t, e1, bd_s, k1, e2, if_true, Lw_law_J1588]
    exact ⟨M2, ad', rfl, r2, c2⟩
  refine TN_if (fun _ => ?_) (fun _ => ?_)
  · obtain ⟨r, M1, M2, ad', e1, e2, -, r2, c2⟩ := st_call h hk hcl (xs (ix (x3 + 1))) (xs (ix (x3 + 2))) (xs (ix (x3 + 3)))
    have k1 : kO M1 39 12 107 = true := kO_t (by rw [← (nj_Mod_call M1 39 (xs (ix (x3 + 1))) (xs (ix (x3 + 2))) (xs (ix (x3 + 3))) r M2 e2).2.1]; exact r2.sr.k39)
    simp only [s1, s2, s3, s4, s5, o8, ck_t, e1, bd_s, k1, e2, if_true, Lw_law_J1588]
    exact ⟨M2, ad', rfl, r2, c2⟩
  refine TN_if (fun _ => ?_) (fun _ => ?_)
  · obtain ⟨r, M1, M2, ad', e1, e2, -, r2, c2⟩ := st_come h hk hcl (xs (ix (x3 + 1))) (xs (ix (x3 + 2)))
    have k1 : kO M1 39 12 107 = true := kO_t (by rw [← (nj_Mod_come M1 39 (xs (ix (x3 + 1))) (xs (ix (x3 + 2))) r M2 e2).2.1]; exact r2.sr.k39)
    simp only [s1, s2, s3, s4, s5, o8, ck_t, e1, bd_s, k1, e2, if_true, Lw_law_J1588]
    exact ⟨M2, ad', rfl, r2, c2⟩
  refine TN_if (fun _ => ?_) (fun _ => ?_)
  · obtain ⟨r, M1, M2, ad', e1, e2, -, r2, c2⟩ := st_spoil h hk hcl (xs (ix (x3 + 1))) (xs (ix (x3 + 2)))
    have k1 : kO M1 39 12 107 = true := kO_t (by rw [← (nj_Mod_spoil M1 39 (xs (ix (x3 + 1))) (xs (ix (x3 + 2))) r M2 e2).2.1]; exact r2.sr.k39)
    simp only [s1, s2, s3, s4, s5, o8, ck_t, e1, bd_s, k1, e2, if_true, Lw_law_J1588]
    exact ⟨M2, ad', rfl, r2, c2⟩
  refine TN_if (fun _ => ?_) (fun _ => ?_)
  · obtain ⟨r, M1, M2, ad', e1, e2, -, r2, c2⟩ := st_over h hk hcl (xs (ix (x3 + 1))) (xs (ix (x3 + 2)))
    have k1 : kO M1 39 12 107 = true := kO_t (by rw [← (nj_Mod_over M1 39 (xs (ix (x3 + 1))) (xs (ix (x3 + 2))) r M2 e2).2.1]; exact r2.sr.k39)
    simp only [s1, s2, s3, s4, s5, o8, ck_t, e1, bd_s, k1, e2, if_true, Lw_law_J1588]
    exact ⟨M2, ad', rfl, r2, c2⟩
  refine TN_if (fun _ => ?_) (fun _ => ?_)
  · obtain ⟨r, M1, M2, ad', e1, e2, -, r2, c2⟩ := st_storeOf h hk hcl (xs (ix (x3 + 1))) (xs (ix (x3 + 2)))
    have k1 : kO M1 39 12 107 = true := kO_t (by rw [← (nj_Mod_storeOf M1 39 (xs (ix (x3 + 1))) (xs (ix (x3 + 2))) r M2 e2).2.1]; exact r2.sr.k39)
    simp only [s1, s2, s3, s4, s5, o8, ck_t, e1, bd_s, k1, e2, if_true, Lw_law_J1588]
    exact ⟨M2, ad', rfl, r2, c2⟩
  refine TN_if (fun _ => ?_) (fun _ => ?_)
  · obtain ⟨r, M1, M2, ad', e1, e2, -, r2, c2⟩ := st_told h hk hcl (xs (ix (x3 + 1))) (xs (ix (x3 + 2)))
    have k1 : kO M1 39 12 107 = true := kO_t (by rw [← (nj_Mod_told M1 39 (xs (ix (x3 + 1))) (xs (ix (x3 + 2))) r M2 e2).2.1]; exact r2.sr.k39)
    simp only [s1, s2, s3, s4, s5, o8, ck_t, e1, bd_s, k1, e2, if_true, Lw_law_J1588]
    exact ⟨M2, ad', rfl, r2, c2⟩
  refine TN_if (fun _ => ?_) (fun _ => ?_)
  · obtain ⟨r, M1, M2, ad', e1, e2, -, r2, c2⟩ := st_coins h hk hcl (xs (ix (x3 + 1)))
    have k1 : kO M1 39 12 107 = true := kO_t (by rw [← (nj_Mod_coins M1 39 (xs (ix (x3 + 1))) r M2 e2).2.1]; exact r2.sr.k39)
    simp only [s1, s2, s3, s4, s5, o8, ck_t, e1, bd_s, k1, e2, if_true, Lw_law_J1588]
    exact ⟨M2, ad', rfl, r2, c2⟩
  refine TN_if (fun _ => ?_) (fun _ => ?_)
  · obtain ⟨r, M1, M2, ad', e1, e2, -, r2, c2⟩ := st_pay h hk hcl (xs (ix (x3 + 1))) (xs (ix (x3 + 2)))
    have k1 : kO M1 39 12 107 = true := kO_t (by rw [← (nj_Mod_pay M1 39 (xs (ix (x3 + 1))) (xs (ix (x3 + 2))) r M2 e2).2.1]; exact r2.sr.k39)
    simp only [s1, s2, s3, s4, s5, o8, ck_t, e1, bd_s, k1, e2, if_true, Lw_law_J1588]
    exact ⟨M2, ad', rfl, r2, c2⟩
  refine TN_if (fun _ => ?_) (fun _ => ?_)
  · obtain ⟨r, M1, M2, ad', e1, e2, -, r2, c2⟩ := st_draw h hk hcl (xs (ix (x3 + 1))) (xs (ix (x3 + 2)))
    have k1 : kO M1 39 12 107 = true := kO_t (by rw [← (nj_Mod_draw M1 39 (xs (ix (x3 + 1))) (xs (ix (x3 + 2))) r M2 e2).2.1]; exact r2.sr.k39)
    simp only [s1, s2, s3, s4, s5, o8, ck_t, e1, bd_s, k1, e2, if_true, Lw_law_J1588]
    exact ⟨M2, ad', rfl, r2, c2⟩
  refine TN_if (fun _ => ?_) (fun _ => ?_)
  · obtain ⟨r, M1, M2, ad', e1, e2, -, r2, c2⟩ := st_feed h hk hcl (xs (ix (x3 + 1))) (xs (ix (x3 + 2))) (xs (ix (x3 + 3))) (xs (ix (x3 + 4))) (xs (ix (x3 + 5)))
    have k1 : kO M1 39 12 107 = true := kO_t (by rw [← (nj_Mod_feed M1 39 (xs (ix (x3 + 1))) (xs (ix (x3 + 2))) (xs (ix (x3 + 3))) (xs (ix (x3 + 4))) (xs (ix (x3 + 5))) r M2 e2).2.1]; exact r2.sr.k39)
    simp only [s1, s2, s3, s4, s5, o8, ck_t, e1, bd_s, k1, e2, if_true, Lw_law_J1588]
    exact ⟨M2, ad', rfl, r2, c2⟩
  refine TN_if (fun _ => ?_) (fun _ => ?_)
  · obtain ⟨r, M1, M2, ad', e1, e2, -, r2, c2⟩ := st_rules h hk hcl (xs (ix (x3 + 1))) (xs (ix (x3 + 2)))
    have k1 : kO M1 39 12 107 = true := kO_t (by rw [← (nj_Mod_rules M1 39 (xs (ix (x3 + 1))) (xs (ix (x3 + 2))) r M2 e2).2.1]; exact r2.sr.k39)
    simp only [s1, s2, s3, s4, s5, o8, ck_t, e1, bd_s, k1, e2, if_true, Lw_law_J1588]
    exact ⟨M2, ad', rfl, r2, c2⟩
  refine TN_if (fun _ => ?_) (fun _ => ?_)
  · obtain ⟨r, M1, M2, ad', e1, e2, -, r2, c2⟩ := st_fault h hk hcl 
    have k1 : kO M1 39 12 107 = true := kO_t (by rw [← (nj_Mod_fault M1 39  r M2 e2).2.1]; exact r2.sr.k39)
    simp only [s1, s2, s3, s4, s5, o8, ck_t, e1, bd_s, k1, e2, if_true, Lw_law_J1588]
    exact ⟨M2, ad', rfl, r2, c2⟩
  refine TN_if (fun _ => ?_) (fun _ => ?_)
  · obtain ⟨r, M1, M2, ad', e1, e2, -, r2, c2⟩ := st_rule h hk hcl (xs (ix (x3 + 1)))
    have k1 : kO M1 39 12 107 = true := kO_t (by rw [← (nj_Mod_rule M1 39 (xs (ix (x3 + 1))) r M2 e2).2.1]; exact r2.sr.k39)
    simp only [s1, s2, s3, s4, s5, o8, ck_t, e1, bd_s, k1, e2, if_true, Lw_law_J1588]
    exact ⟨M2, ad', rfl, r2, c2⟩
  refine TN_if (fun _ => ?_) (fun _ => ?_)
  · obtain ⟨r, M1, M2, ad', e1, e2, -, r2, c2⟩ := st_heard h hk hcl (xs (ix (x3 + 1)))
    have k1 : kO M1 39 12 107 = true := kO_t (by rw [← (nj_Mod_heard M1 39 (xs (ix (x3 + 1))) r M2 e2).2.1]; exact r2.sr.k39)
    simp only [s1, s2, s3, s4, s5, o8, ck_t, e1, bd_s, k1, e2, if_true, Lw_law_J1588]
    exact ⟨M2, ad', rfl, r2, c2⟩
  refine TN_if (fun _ => ?_) (fun _ => ?_)
  · obtain ⟨r, M1, M2, ad', e1, e2, -, r2, c2⟩ := st_wind h hk hcl (xs (ix (x3 + 1)))
    have k1 : kO M1 39 12 107 = true := kO_t (by rw [← (nj_Mod_wind M1 39 (xs (ix (x3 + 1))) r M2 e2).2.1]; exact r2.sr.k39)
    simp only [s1, s2, s3, s4, s5, o8, ck_t, e1, bd_s, k1, e2, if_true, Lw_law_J1588]
    exact ⟨M2, ad', rfl, r2, c2⟩
  refine TN_if (fun _ => ?_) (fun _ => ?_)
  · obtain ⟨r, M1, M2, ad', e1, e2, -, r2, c2⟩ := st_light h hk hcl 
    have k1 : kO M1 39 12 107 = true := kO_t (by rw [← (nj_Mod_light M1 39  r M2 e2).2.1]; exact r2.sr.k39)
    simp only [s1, s2, s3, s4, s5, o8, ck_t, e1, bd_s, k1, e2, if_true, Lw_law_J1588]
    exact ⟨M2, ad', rfl, r2, c2⟩
  refine TN_if (fun _ => ?_) (fun _ => ?_)
  · unfold Lw_law_J1053 Lw_law_J1085
    by_cases z : xs (ix (x3 + 2)) = 0
    · obtain ⟨r, M1, M2, ad', e1, e2, -, r2, c2⟩ := st_cry h hk hcl (xs (ix (x3 + 1))) 0 (xs (ix (x3 + 3))) (xs (ix (x3 + 4))) (Or.inl rfl)
      have k1 : kO M1 39 12 107 = true := kO_t (by rw [← (nj_Mod_cry M1 39 (xs (ix (x3 + 1))) 0 (xs (ix (x3 + 3))) (xs (ix (x3 + 4))) r M2 e2).2.1]; exact r2.sr.k39)
      simp only [s1, s2, s3, s4, s5, o8, ck_t, if_pos z, e1, bd_s, k1, e2, if_true, Lw_law_J1588]
      exact ⟨M2, ad', rfl, r2, c2⟩
    · obtain ⟨r, M1, M2, ad', e1, e2, -, r2, c2⟩ := st_cry h hk hcl (xs (ix (x3 + 1))) 1 (xs (ix (x3 + 3))) (xs (ix (x3 + 4))) (Or.inr rfl)
      have k1 : kO M1 39 12 107 = true := kO_t (by rw [← (nj_Mod_cry M1 39 (xs (ix (x3 + 1))) 1 (xs (ix (x3 + 3))) (xs (ix (x3 + 4))) r M2 e2).2.1]; exact r2.sr.k39)
      simp only [s1, s2, s3, s4, s5, o8, ck_t, if_neg z, e1, bd_s, k1, e2, if_true, Lw_law_J1588]
      exact ⟨M2, ad', rfl, r2, c2⟩
  refine TN_if (fun _ => ?_) (fun _ => ?_)
  · obtain ⟨r, M1, M2, ad', e1, e2, -, r2, c2⟩ := st_back h hk hcl (xs (ix (x3 + 1)))
    have k1 : kO M1 39 12 107 = true := kO_t (by rw [← (nj_Mod_back M1 39 (xs (ix (x3 + 1))) r M2 e2).2.1]; exact r2.sr.k39)
    simp only [s1, s2, s3, s4, s5, o8, ck_t, e1, bd_s, k1, e2, if_true, Lw_law_J1588]
    exact ⟨M2, ad', rfl, r2, c2⟩
  refine TN_if (fun _ => ?_) (fun _ => ?_)
  · unfold Lw_law_J1145 Lw_law_J1177
    by_cases z : xs (ix (x3 + 2)) = 0
    · obtain ⟨r, M1, M2, ad', e1, e2, -, r2, c2⟩ := st_note h hk hcl (xs (ix (x3 + 1))) 0 (xs (ix (x3 + 3))) (xs (ix (x3 + 4)))
      have k1 : kO M1 39 12 107 = true := kO_t (by rw [← (nj_Mod_note M1 39 (xs (ix (x3 + 1))) 0 (xs (ix (x3 + 3))) (xs (ix (x3 + 4))) r M2 e2).2.1]; exact r2.sr.k39)
      simp only [s1, s2, s3, s4, s5, o8, ck_t, if_pos z, e1, bd_s, k1, e2, if_true, Lw_law_J1588]
      exact ⟨M2, ad', rfl, r2, c2⟩
    · obtain ⟨r, M1, M2, ad', e1, e2, -, r2, c2⟩ := st_note h hk hcl (xs (ix (x3 + 1))) 1 (xs (ix (x3 + 3))) (xs (ix (x3 + 4)))
      have k1 : kO M1 39 12 107 = true := kO_t (by rw [← (nj_Mod_note M1 39 (xs (ix (x3 + 1))) 1 (xs (ix (x3 + 3))) (xs (ix (x3 + 4))) r M2 e2).2.1]; exact r2.sr.k39)
      simp only [s1, s2, s3, s4, s5, o8, ck_t, if_neg z, e1, bd_s, k1, e2, if_true, Lw_law_J1588]
      exact ⟨M2, ad', rfl, r2, c2⟩
  refine TN_if (fun _ => ?_) (fun _ => ?_)
  · unfold Lw_law_J1214 Lw_law_J1236
    by_cases z : xs (ix (x3 + 2)) = 0
    · obtain ⟨r, M1, M2, ad', e1, e2, -, r2, c2⟩ := st_deny h hk hcl (xs (ix (x3 + 1))) 0 (Or.inl rfl)
      have k1 : kO M1 39 12 107 = true := kO_t (by rw [← (nj_Mod_deny M1 39 (xs (ix (x3 + 1))) 0 r M2 e2).2.1]; exact r2.sr.k39)
      simp only [s1, s2, s3, s4, s5, o8, ck_t, if_pos z, e1, bd_s, k1, e2, if_true, Lw_law_J1588]
      exact ⟨M2, ad', rfl, r2, c2⟩
    · obtain ⟨r, M1, M2, ad', e1, e2, -, r2, c2⟩ := st_deny h hk hcl (xs (ix (x3 + 1))) 1 (Or.inr rfl)
      have k1 : kO M1 39 12 107 = true := kO_t (by rw [← (nj_Mod_deny M1 39 (xs (ix (x3 + 1))) 1 r M2 e2).2.1]; exact r2.sr.k39)
      simp only [s1, s2, s3, s4, s5, o8, ck_t, if_neg z, e1, bd_s, k1, e2, if_true, Lw_law_J1588]
      exact ⟨M2, ad', rfl, r2, c2⟩
  refine TN_if (fun _ => ?_) (fun _ => ?_)
  · obtain ⟨r, M1, M2, ad', e1, e2, -, r2, c2⟩ := st_pass h hk hcl (xs (ix (x3 + 1)))
    have k1 : kO M1 39 12 107 = true := kO_t (by rw [← (nj_Mod_pass M1 39 (xs (ix (x3 + 1))) r M2 e2).2.1]; exact r2.sr.k39)
    simp only [s1, s2, s3, s4, s5, o8, ck_t, e1, bd_s, k1, e2, if_true, Lw_law_J1588]
    exact ⟨M2, ad', rfl, r2, c2⟩
  refine TN_if (fun _ => ?_) (fun _ => ?_)
  · obtain ⟨r, M1, M2, ad', e1, e2, -, r2, c2⟩ := st_session h hk hcl (xs (ix (x3 + 1))) (xs (ix (x3 + 2)))
    have k1 : kO M1 39 12 107 = true := kO_t (by rw [← (nj_Mod_session M1 39 (xs (ix (x3 + 1))) (xs (ix (x3 + 2))) r M2 e2).2.1]; exact r2.sr.k39)
    simp only [s1, s2, s3, s4, s5, o8, ck_t, e1, bd_s, k1, e2, if_true, Lw_law_J1588]
    exact ⟨M2, ad', rfl, r2, c2⟩
  refine TN_if (fun _ => ?_) (fun _ => ?_)
  · obtain ⟨r, M1, M2, ad', e1, e2, -, r2, c2⟩ := st_bargain h hk hcl (xs (ix (x3 + 1))) (xs (ix (x3 + 2))) (xs (ix (x3 + 3)))
    have k1 : kO M1 39 12 107 = true := kO_t (by rw [← (nj_Mod_bargain M1 39 (xs (ix (x3 + 1))) (xs (ix (x3 + 2))) (xs (ix (x3 + 3))) r M2 e2).2.1]; exact r2.sr.k39)
    simp only [s1, s2, s3, s4, s5, o8, ck_t, e1, bd_s, k1, e2, if_true, Lw_law_J1588]
    exact ⟨M2, ad', rfl, r2, c2⟩
  refine TN_if (fun _ => ?_) (fun _ => ?_)
  · obtain ⟨r, M1, M2, ad', e1, e2, -, r2, c2⟩ := st_best h hk hcl (xs (ix (x3 + 1)))
    have k1 : kO M1 39 12 107 = true := kO_t (by rw [← (nj_Mod_best M1 39 (xs (ix (x3 + 1))) r M2 e2).2.1]; exact r2.sr.k39)
    simp only [s1, s2, s3, s4, s5, o8, ck_t, e1, bd_s, k1, e2, if_true, Lw_law_J1588]
    exact ⟨M2, ad', rfl, r2, c2⟩
  refine TN_if (fun _ => ?_) (fun _ => ?_)
  · obtain ⟨r, M1, M2, ad', e1, e2, -, r2, c2⟩ := st_owe h hk hcl (xs (ix (x3 + 1))) (xs (ix (x3 + 2))) (xs (ix (x3 + 3)))
    have k1 : kO M1 39 12 107 = true := kO_t (by rw [← (nj_Mod_owe M1 39 (xs (ix (x3 + 1))) (xs (ix (x3 + 2))) (xs (ix (x3 + 3))) r M2 e2).2.1]; exact r2.sr.k39)
    simp only [s1, s2, s3, s4, s5, o8, ck_t, e1, bd_s, k1, e2, if_true, Lw_law_J1588]
    exact ⟨M2, ad', rfl, r2, c2⟩
  refine TN_if (fun _ => ?_) (fun _ => ?_)
  · obtain ⟨r, M1, M2, ad', e1, e2, -, r2, c2⟩ := st_fails h hk hcl (xs (ix (x3 + 1))) (xs (ix (x3 + 2)))
    have k1 : kO M1 39 12 107 = true := kO_t (by rw [← (nj_Mod_fails M1 39 (xs (ix (x3 + 1))) (xs (ix (x3 + 2))) r M2 e2).2.1]; exact r2.sr.k39)
    simp only [s1, s2, s3, s4, s5, o8, ck_t, e1, bd_s, k1, e2, if_true, Lw_law_J1588]
    exact ⟨M2, ad', rfl, r2, c2⟩
  refine TN_if (fun _ => ?_) (fun _ => ?_)
  · obtain ⟨r, M1, M2, ad', e1, e2, -, r2, c2⟩ := st_other h hk hcl (xs (ix (x3 + 1))) (xs (ix (x3 + 2))) (xs (ix (x3 + 3)))
    have k1 : kO M1 39 12 107 = true := kO_t (by rw [← (nj_Mod_other M1 39 (xs (ix (x3 + 1))) (xs (ix (x3 + 2))) (xs (ix (x3 + 3))) r M2 e2).2.1]; exact r2.sr.k39)
    simp only [s1, s2, s3, s4, s5, o8, ck_t, e1, bd_s, k1, e2, if_true, Lw_law_J1588]
    exact ⟨M2, ad', rfl, r2, c2⟩
  refine TN_if (fun _ => ?_) (fun _ => ?_)
  · obtain ⟨r, M1, M2, ad', e1, e2, -, r2, c2⟩ := st_least h hk hcl (xs (ix (x3 + 1)))
    have k1 : kO M1 39 12 107 = true := kO_t (by rw [← (nj_Mod_least M1 39 (xs (ix (x3 + 1))) r M2 e2).2.1]; exact r2.sr.k39)
    simp only [s1, s2, s3, s4, s5, o8, ck_t, e1, bd_s, k1, e2, if_true, Lw_law_J1588]
    exact ⟨M2, ad', rfl, r2, c2⟩
  refine TN_if (fun _ => ?_) (fun _ => ?_)
  · obtain ⟨r, M1, M2, ad', e1, e2, -, r2, c2⟩ := st_judged h hk hcl (xs (ix (x3 + 1))) (xs (ix (x3 + 2)))
    have k1 : kO M1 39 12 107 = true := kO_t (by rw [← (nj_Mod_judged M1 39 (xs (ix (x3 + 1))) (xs (ix (x3 + 2))) r M2 e2).2.1]; exact r2.sr.k39)
    simp only [s1, s2, s3, s4, s5, o8, ck_t, e1, bd_s, k1, e2, if_true, Lw_law_J1588]
    exact ⟨M2, ad', rfl, r2, c2⟩
  refine TN_if (fun _ => ?_) (fun _ => ?_)
  · obtain ⟨r, M1, M2, ad', e1, e2, -, r2, c2⟩ := st_count h hk hcl (xs (ix (x3 + 1)))
    have k1 : kO M1 39 12 107 = true := kO_t (by rw [← (nj_Mod_count M1 39 (xs (ix (x3 + 1))) r M2 e2).2.1]; exact r2.sr.k39)
    simp only [s1, s2, s3, s4, s5, o8, ck_t, e1, bd_s, k1, e2, if_true, Lw_law_J1588]
    exact ⟨M2, ad', rfl, r2, c2⟩
  refine TN_if (fun _ => ?_) (fun _ => ?_)
  · obtain ⟨r, M1, M2, ad', e1, e2, -, r2, c2⟩ := st_sum h hk hcl (xs (ix (x3 + 1)))
    have k1 : kO M1 39 12 107 = true := kO_t (by rw [← (nj_Mod_sum M1 39 (xs (ix (x3 + 1))) r M2 e2).2.1]; exact r2.sr.k39)
    simp only [s1, s2, s3, s4, s5, o8, ck_t, e1, bd_s, k1, e2, if_true, Lw_law_J1588]
    exact ⟨M2, ad', rfl, r2, c2⟩
  exact ⟨M, ad, rfl, h.up hk, hcl⟩
end ZL
section ZL2
theorem kS_t {nx i : Nat} (h : i < nx) (hn : nx ≤ 3072) : kS nx (Int32.ofNat i) = true := by
  unfold kS
  rw [decide_eq_true (of_nn i (by omega))]
  exact decide_eq_true (show ix (Int32.ofNat i) < nx by rw [ix_of i (by omega)]; exact h)
theorem lw_c {nx j : Nat} (hn : nx ≤ 3072) (hj : j ≤ 512) : ((Int32.ofNat nx) - 6 < Int32.ofNat (6 * j)) ↔ nx < 6 * j + 6 := by
  have a := of_t nx (by omega)
  have b := of_t (6 * j) (by omega)
  grind
theorem lw_loop (xs : Nat → Int32) (nx : Nat) (hn : nx ≤ 3072) : ∀ (d n j : Nat) (ad : Nat → Nat → Nat) (M : Mm), Rel j ad M M → Cl Dc M → nx ≤ 6 * j + 6 * d + 5 → d < n → j ≤ 512 → ∃ M', Lw_law_L18 xs nx n 8 39 (Int32.ofNat (6 * j)) M = some (1, M') ∧ mZ M' ≤ 600008 ∧ mS M' ≤ 7302250 := by
  intro d
  induction d with
  | zero =>
    intro n j ad M h hcl hd hn' hj
    obtain ⟨n, rfl⟩ : ∃ x, n = x + 1 := ⟨n - 1, by omega⟩
    refine ⟨M, ?_, ?_, ?_⟩
    · show Lw_law_B18 _ _ _ _ _ _ _ = _
      unfold Lw_law_B18
      rw [if_pos ((lw_c hn hj).mpr (by omega))]
    · have := h.lv.2.2.2.1; omega
    · have := h.lv.2.2.2.2; omega
  | succ d ih =>
    intro n j ad M h hcl hd hn' hj
    obtain ⟨n, rfl⟩ : ∃ x, n = x + 1 := ⟨n - 1, by omega⟩
    by_cases q : nx < 6 * j + 6
    · refine ⟨M, ?_, ?_, ?_⟩
      · show Lw_law_B18 _ _ _ _ _ _ _ = _
        unfold Lw_law_B18
        rw [if_pos ((lw_c hn hj).mpr q)]
      · have := h.lv.2.2.2.1; omega
      · have := h.lv.2.2.2.2; omega
    · have e : ∀ i, i < 7 → Int32.ofNat (6 * j) + Int32.ofNat i = Int32.ofNat (6 * j + i) := fun i _ => of_add _ _
      have s : ∀ i, i < 6 → kS nx (Int32.ofNat (6 * j) + Int32.ofNat i) = true := fun i w => by rw [e i (by omega)]; exact kS_t (by omega) hn
      obtain ⟨M2, ad', t1, t2, t3⟩ := lw_turn h (by omega) hcl xs nx (Lw_law_L18 xs nx n) (Int32.ofNat (6 * j)) (fun w => q ((lw_c hn hj).mp w)) (kS_t (by omega) hn) (s 1 (by decide)) (s 2 (by decide)) (s 3 (by decide)) (s 4 (by decide)) (s 5 (by decide))
      have e6 : Int32.ofNat (6 * j) + 6 = Int32.ofNat (6 * (j + 1)) := e 6 (by decide)
      obtain ⟨M', u1, u2⟩ := ih n (j + 1) ad' M2 t2 t3 (by omega) (by omega) (by omega)
      refine ⟨M', ?_, u2⟩
      show Lw_law_B18 _ _ _ _ _ _ _ = _
      rw [t1, e6]
      exact u1
theorem law_ok : ∀ (xs : Nat → Int32) (n : Nat), n ≤ 3072 → ∃ M', Lw_law xs n M0 = some (1, M') ∧ mZ M' ≤ 600008 ∧ mS M' ≤ 7302250 := by
  intro xs n hn
  obtain ⟨r, M', e, q1, q2, q3⟩ := c_law xs n (fun r M' => r = 1 ∧ mZ M' ≤ 600008 ∧ mS M' ≤ 7302250) (fun M t => by
    obtain ⟨h, hcl⟩ := init_rel t
    obtain ⟨M', a1, a2, a3⟩ := lw_loop xs n hn 512 fu 0 adI M h hcl (by omega) (fu_g (by omega)) (by omega)
    exact ⟨1, M', a1, rfl, a2, a3⟩)
  exact ⟨M', by rw [e, q1], q2, q3⟩
end ZL2
