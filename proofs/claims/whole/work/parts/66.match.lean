theorem sim_match : Sim_match Rel := sorry
