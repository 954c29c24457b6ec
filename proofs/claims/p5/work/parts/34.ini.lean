/-! constructors -/
-- X11_mark steps 60
theorem k_r198_0 : c_run k_K k_P k_c198_0 k_b198 4000 = true := by decide +kernel
-- X0_init steps 27
theorem k_r0_0 : c_run k_K k_P k_c0_0 k_b0 4000 = true := by decide +kernel
-- X1_init steps 9
theorem k_r7_0 : c_run k_K k_P k_c7_0 k_b7 4000 = true := by decide +kernel
-- X2_init steps 39
theorem k_r14_0 : c_run k_K k_P k_c14_0 k_b14 4000 = true := by decide +kernel
-- X8_init steps 23
theorem k_r88_0 : c_run k_K k_P k_c88_0 k_b88 4000 = true := by decide +kernel
-- X3_init steps 27
theorem k_r31_0 : c_run k_K k_P k_c31_0 k_b31 4000 = true := by decide +kernel
-- X5_init steps 19
theorem k_r62_0 : c_run k_K k_P k_c62_0 k_b62 4000 = true := by decide +kernel
