theorem ki_RL_99 : sk_lkI RL 99 yX4_init cX4_init 1 := ⟨q_95, q_96, q_78, q_97, by decide, by decide, by decide +kernel, rfl⟩
theorem ki_RL_102 : sk_lkI RL 102 yX5_init cX5_init 2 := ⟨q_940, q_941, q_83, q_942, by decide, by decide, by decide +kernel, rfl⟩
