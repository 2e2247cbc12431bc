theorem col_step {σ : Sto} (h : Inv σ) : ∃ r σ1 σ2, f_X7_col σ = some (r, σ1) ∧ f_X8_col σ1 = some (r, σ2) ∧ Inv σ2 := sorry
