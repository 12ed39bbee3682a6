theorem kdl_12 : kd_ok code kl_12 = true := by decide +kernel
theorem kdl_13 : kd_ok code kl_13 = true := by decide +kernel
theorem kdl_14 : kd_ok code kl_14 = true := by decide +kernel
