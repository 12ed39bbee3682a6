theorem kdl_3 : kd_ok code kl_3 = true := by decide +kernel
theorem kdl_4 : kd_ok code kl_4 = true := by decide +kernel
theorem kdl_5 : kd_ok code kl_5 = true := by decide +kernel
