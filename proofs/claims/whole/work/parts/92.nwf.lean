section X7
variable {C R : Mm}
theorem nw_sI {a j c n : Nat} {v : Int32} (h : a ≠ mZ C) : sI (nw C c n) a j v = nw (sI C a j v) c n := by
  unfold nw sI
  congr 1
  funext b i
  show (if b = a ∧ i = j then v else if b = mZ C then 0 else mI C b i) = (if b = mZ C then 0 else if b = a ∧ i = j then v else mI C b i)
  by_cases c1 : b = a ∧ i = j
  · rw [if_pos c1, if_neg (fun w => h (c1.1.symm.trans w)), if_pos c1]
  · rw [if_neg c1, if_neg c1]
/-- the facts and a new cell, in either order -/
theorem fct_nw {c n : Nat} (h : 116 ≤ mZ C) : fct (nw C c n) R = nw (fct C R) c n := by
  have q : 29 ≠ mZ C := by omega
  unfold fct mkt clk
  rw [nw_sI, nw_sI, nw_sI, nw_sI, nw_sI, nw_sI, nw_sI]
  all_goals exact q
end X7
