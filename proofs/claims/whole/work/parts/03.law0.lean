theorem kdl_0 : kd_ok code kl_0 = true := by decide +kernel
theorem kdl_1 : kd_ok code kl_1 = true := by decide +kernel
theorem kdl_2 : kd_ok code kl_2 = true := by decide +kernel
