section X2
variable {k : Nat} {ad : Nat → Nat → Nat} {M : Mm}
theorem st_light (h : Rel k ad M M) (hk : k < 512) (hcl : Cl Dc M)  : ∃ r M1 M2 ad', Hall_light M 8  = some (r, M1) ∧ Mod_light M1 39  = some (r, M2) ∧ mZ M ≤ mZ M1 ∧ Rel (k + 1) ad' M2 M2 ∧ Cl Dc M2 :=
  step (H := fun M => Hall_light M 8 ) (Md := fun M => Mod_light M 39 ) h hcl (fun R hR => sim_light hR hk ) (fj_Hall_light hcl (tpDc h) 8 Dc8 ) (fun D M1 c t d => fj_Mod_light c t 39 d ) (fun M1 => nj_Mod_light M1 39 )
theorem st_cry (h : Rel k ad M M) (hk : k < 512) (hcl : Cl Dc M) (a1 : Int32) (a2 : Int32) (a3 : Int32) (a4 : Int32) (hz : a2 = 0 ∨ a2 = 1) : ∃ r M1 M2 ad', Hall_cry M 8 a1 a2 a3 a4 = some (r, M1) ∧ Mod_cry M1 39 a1 a2 a3 a4 = some (r, M2) ∧ mZ M ≤ mZ M1 ∧ Rel (k + 1) ad' M2 M2 ∧ Cl Dc M2 :=
  step (H := fun M => Hall_cry M 8 a1 a2 a3 a4) (Md := fun M => Mod_cry M 39 a1 a2 a3 a4) h hcl (fun R hR => sim_cry hR hk a1 a2 a3 a4 hz) (fj_Hall_cry hcl (tpDc h) 8 Dc8 a1 a2 a3 a4) (fun D M1 c t d => fj_Mod_cry c t 39 d a1 a2 a3 a4) (fun M1 => nj_Mod_cry M1 39 a1 a2 a3 a4)
theorem st_pass (h : Rel k ad M M) (hk : k < 512) (hcl : Cl Dc M) (a1 : Int32) : ∃ r M1 M2 ad', Hall_pass M 8 a1 = some (r, M1) ∧ Mod_pass M1 39 a1 = some (r, M2) ∧ mZ M ≤ mZ M1 ∧ Rel (k + 1) ad' M2 M2 ∧ Cl Dc M2 :=
  step (H := fun M => Hall_pass M 8 a1) (Md := fun M => Mod_pass M 39 a1) h hcl (fun R hR => sim_pass hR hk a1) (fj_Hall_pass hcl (tpDc h) 8 Dc8 a1) (fun D M1 c t d => fj_Mod_pass c t 39 d a1) (fun M1 => nj_Mod_pass M1 39 a1)
theorem st_rules (h : Rel k ad M M) (hk : k < 512) (hcl : Cl Dc M) (a1 : Int32) (a2 : Int32) : ∃ r M1 M2 ad', Hall_rules M 8 a1 a2 = some (r, M1) ∧ Mod_rules M1 39 a1 a2 = some (r, M2) ∧ mZ M ≤ mZ M1 ∧ Rel (k + 1) ad' M2 M2 ∧ Cl Dc M2 :=
  step (H := fun M => Hall_rules M 8 a1 a2) (Md := fun M => Mod_rules M 39 a1 a2) h hcl (fun R hR => sim_rules hR hk a1 a2) (fj_Hall_rules hcl (tpDc h) 8 Dc8 a1 a2) (fun D M1 c t d => fj_Mod_rules c t 39 d a1 a2) (fun M1 => nj_Mod_rules M1 39 a1 a2)
theorem st_other (h : Rel k ad M M) (hk : k < 512) (hcl : Cl Dc M) (a1 : Int32) (a2 : Int32) (a3 : Int32) : ∃ r M1 M2 ad', Hall_other M 8 a1 a2 a3 = some (r, M1) ∧ Mod_other M1 39 a1 a2 a3 = some (r, M2) ∧ mZ M ≤ mZ M1 ∧ Rel (k + 1) ad' M2 M2 ∧ Cl Dc M2 :=
  step (H := fun M => Hall_other M 8 a1 a2 a3) (Md := fun M => Mod_other M 39 a1 a2 a3) h hcl (fun R hR => sim_other hR hk a1 a2 a3) (fj_Hall_other hcl (tpDc h) 8 Dc8 a1 a2 a3) (fun D M1 c t d => fj_Mod_other c t 39 d a1 a2 a3) (fun M1 => nj_Mod_other M1 39 a1 a2 a3)
end X2
