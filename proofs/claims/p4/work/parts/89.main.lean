theorem lw_main : ∃ Rl, Rl hp0 hr0 ∧ lw_St Rl := sorry
