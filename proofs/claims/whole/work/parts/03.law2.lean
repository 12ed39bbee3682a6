theorem kdl_6 : kd_ok code kl_6 = true := by decide +kernel
theorem kdl_7 : kd_ok code kl_7 = true := by decide +kernel
theorem kdl_8 : kd_ok code kl_8 = true := by decide +kernel
