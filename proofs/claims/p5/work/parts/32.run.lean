/-! the kernel runs the checker -/
-- X11_status steps 3
theorem k_r112_0 : c_run k_K k_P k_c112_0 k_b112 4000 = true := by decide +kernel
-- X11_top steps 4
theorem k_r113_0 : c_run k_K k_P k_c113_0 k_b113 4000 = true := by decide +kernel
-- X11_bottom steps 4
theorem k_r114_0 : c_run k_K k_P k_c114_0 k_b114 4000 = true := by decide +kernel
-- X11_tray steps 64
theorem k_r123_0 : c_run k_K k_P k_c123_0 k_b123 4000 = true := by decide +kernel
-- X11_write steps 73
theorem k_r125_0 : c_run k_K k_P k_c125_0 k_b125 4000 = true := by decide +kernel
-- X11_read steps 62
theorem k_r127_0 : c_run k_K k_P k_c127_0 k_b127 4000 = true := by decide +kernel
-- X11_pour steps 122
theorem k_r128_0 : c_run k_K k_P k_c128_0 k_b128 4000 = true := by decide +kernel
-- X11_feed steps 24
theorem k_r129_0 : c_run k_K k_P k_c129_0 k_b129 4000 = true := by decide +kernel
-- X11_land steps 69
theorem k_r132_0 : c_run k_K k_P k_c132_0 k_b132 4000 = true := by decide +kernel
-- X11_fault steps 16
theorem k_r133_0 : c_run k_K k_P k_c133_0 k_b133 4000 = true := by decide +kernel
-- X11_many steps 44
theorem k_r134_0 : c_run k_K k_P k_c134_0 k_b134 4000 = true := by decide +kernel
-- X11_boat steps 50
theorem k_r143_0 : c_run k_K k_P k_c143_0 k_b143 4000 = true := by decide +kernel
