theorem kdl_9 : kd_ok code kl_9 = true := by decide +kernel
theorem kdl_10 : kd_ok code kl_10 = true := by decide +kernel
theorem kdl_11 : kd_ok code kl_11 = true := by decide +kernel
