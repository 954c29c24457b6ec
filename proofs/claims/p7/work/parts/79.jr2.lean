/-! second layer: kernel runs (printed by gen_j.py) -/
def j_b210_3 : cBody := (5, 12, [], k_b210_0.2.2.2.1, [])
-- X12_tray L steps 12
theorem j_r210_3 : c_run c_X0 j_K j_P j_c210_3 j_b210_3 4000 = true := by decide +kernel
theorem j_g210_3 {l : Launch} {D : va_G} {dA : Nat → ClassId} {AA : Nat → Prop} {d : Nat} (h : j_Hy l D dA AA d) : j_Go l D dA AA d j_c210_3 := c_good_ok j_tabsOk (M := k_M210) rfl (k_bodyB_ok (by decide +kernel)) j_r210_3 h
def j_b210_4 : cBody := (5, 12, [], k_b210_0.2.2.2.1, [])
-- X12_tray H steps 15
theorem j_r210_4 : c_run c_X0 j_K j_P j_c210_4 j_b210_4 4000 = true := by decide +kernel
theorem j_g210_4 {l : Launch} {D : va_G} {dA : Nat → ClassId} {AA : Nat → Prop} {d : Nat} (h : j_Hy l D dA AA d) : j_Go l D dA AA d j_c210_4 := c_good_ok j_tabsOk (M := k_M210) rfl (k_bodyB_ok (by decide +kernel)) j_r210_4 h
def j_b213_0 : cBody := (5, 12, [(44, 9, 4440)], k_b213_0.2.2.2.1, [])
-- X12_write e steps 49
theorem j_r213_0 : c_run (j_X j_K j_c213_0) j_K j_P j_c213_0 j_b213_0 4000 = true := by decide +kernel
theorem j_g213_0 {l : Launch} {D : va_G} {dA : Nat → ClassId} {AA : Nat → Prop} {d : Nat} (h : j_Hy l D dA AA d) : j_Go l D dA AA d j_c213_0 := j_goodX j_tabsOk (M := k_M213) rfl (k_bodyB_ok (by decide +kernel)) j_r213_0 (by decide +kernel) h
def j_b213_1 : cBody := (5, 12, [(44, 9, 4440)], k_b213_0.2.2.2.1, [])
-- X12_write l steps 49
theorem j_r213_1 : c_run (j_X j_K j_c213_1) j_K j_P j_c213_1 j_b213_1 4000 = true := by decide +kernel
theorem j_g213_1 {l : Launch} {D : va_G} {dA : Nat → ClassId} {AA : Nat → Prop} {d : Nat} (h : j_Hy l D dA AA d) : j_Go l D dA AA d j_c213_1 := j_goodX j_tabsOk (M := k_M213) rfl (k_bodyB_ok (by decide +kernel)) j_r213_1 (by decide +kernel) h
def j_b213_2 : cBody := (5, 12, [(44, 9, 4440)], k_b213_0.2.2.2.1, [])
-- X12_write g steps 49
theorem j_r213_2 : c_run (j_X j_K j_c213_2) j_K j_P j_c213_2 j_b213_2 4000 = true := by decide +kernel
theorem j_g213_2 {l : Launch} {D : va_G} {dA : Nat → ClassId} {AA : Nat → Prop} {d : Nat} (h : j_Hy l D dA AA d) : j_Go l D dA AA d j_c213_2 := j_goodX j_tabsOk (M := k_M213) rfl (k_bodyB_ok (by decide +kernel)) j_r213_2 (by decide +kernel) h
def j_b213_3 : cBody := (5, 12, [], k_b213_0.2.2.2.1, [])
-- X12_write n steps 20
theorem j_r213_3 : c_run c_X0 j_K j_P j_c213_3 j_b213_3 4000 = true := by decide +kernel
theorem j_g213_3 {l : Launch} {D : va_G} {dA : Nat → ClassId} {AA : Nat → Prop} {d : Nat} (h : j_Hy l D dA AA d) : j_Go l D dA AA d j_c213_3 := c_good_ok j_tabsOk (M := k_M213) rfl (k_bodyB_ok (by decide +kernel)) j_r213_3 h
def j_b213_4 : cBody := (5, 12, [], k_b213_0.2.2.2.1, [])
-- X12_write p steps 20
theorem j_r213_4 : c_run c_X0 j_K j_P j_c213_4 j_b213_4 4000 = true := by decide +kernel
theorem j_g213_4 {l : Launch} {D : va_G} {dA : Nat → ClassId} {AA : Nat → Prop} {d : Nat} (h : j_Hy l D dA AA d) : j_Go l D dA AA d j_c213_4 := c_good_ok j_tabsOk (M := k_M213) rfl (k_bodyB_ok (by decide +kernel)) j_r213_4 h
def j_b213_5 : cBody := (5, 12, [], k_b213_0.2.2.2.1, [])
-- X12_write L steps 14
theorem j_r213_5 : c_run c_X0 j_K j_P j_c213_5 j_b213_5 4000 = true := by decide +kernel
theorem j_g213_5 {l : Launch} {D : va_G} {dA : Nat → ClassId} {AA : Nat → Prop} {d : Nat} (h : j_Hy l D dA AA d) : j_Go l D dA AA d j_c213_5 := c_good_ok j_tabsOk (M := k_M213) rfl (k_bodyB_ok (by decide +kernel)) j_r213_5 h
def j_b213_6 : cBody := (5, 12, [], k_b213_0.2.2.2.1, [])
-- X12_write H steps 14
theorem j_r213_6 : c_run c_X0 j_K j_P j_c213_6 j_b213_6 4000 = true := by decide +kernel
theorem j_g213_6 {l : Launch} {D : va_G} {dA : Nat → ClassId} {AA : Nat → Prop} {d : Nat} (h : j_Hy l D dA AA d) : j_Go l D dA AA d j_c213_6 := c_good_ok j_tabsOk (M := k_M213) rfl (k_bodyB_ok (by decide +kernel)) j_r213_6 h
def j_b215_3 : cBody := (9, 12, [(212, 9, 21240)], k_b215_0.2.2.2.1, [(158, (19, [(2, 0, 3), (3, 0, 60), (4, 0, 3), (5, 0, 60), (6, 0, 60), (7, 0, 59), (8, 0, 3), (10, (-9223372036854775808), 9223372036854775807), (11, 0, 1), (12, 0, 60), (14, 0, 60), (15, 0, 60), (17, 0, 3), (18, 0, 3)], [(1, 3), (9, 3), (13, 3), (16, 3)], [(1, 13), (9, 61), (13, 60), (16, 59)], [((-1), [(4, 60), (5, 1), (7, (-1)), (8, (-60))]), (0, [(17, 1), (18, (-1))]), (0, [(17, (-1)), (18, 1)]), (0, [(3, (-1)), (6, (-1)), (14, 1)]), (0, [(5, (-1)), (6, (-1)), (15, 1)])], [(0, (2, (0, [(1, 1)]))), (1, (0, (0, [(2, 1)]))), (2, (0, (0, [(3, 1)]))), (3, (0, (0, [(4, 1)]))), (4, (0, (0, [(5, 1)]))), (5, (0, (0, [(6, 1)]))), (6, (0, (0, [(11, 1)]))), (7, (0, (0, [(12, 1)])))], [], [(0, (40, []), (1, (0, [(7, 1)]))), (0, (41, []), (1, (0, [(8, 1)]))), (1, (6, []), (2, (0, [(9, 1)]))), (9, (0, [(7, 1), (8, 60)]), (1, (0, [(10, 1)]))), (1, (1, []), (0, (0, []))), (1, (0, []), (0, (0, []))), (1, (5, []), (2, (0, [(13, 1)]))), (13, (0, [(2, 1)]), (0, (0, [(14, 1)]))), (13, (0, [(4, 1)]), (0, (0, [(15, 1)]))), (1, (4, []), (2, (0, [(16, 1)]))), (16, (0, [(2, 1)]), (0, (0, [(17, 1)]))), (16, (0, [(4, 1)]), (0, (0, [(18, 1)])))], 0, 0), (60, [(12, (-1))]))])
-- X12_pour l steps 173
theorem j_r215_3 : c_run (j_X j_K j_c215_3) j_K j_P j_c215_3 j_b215_3 4000 = true := by decide +kernel
theorem j_g215_3 {l : Launch} {D : va_G} {dA : Nat → ClassId} {AA : Nat → Prop} {d : Nat} (h : j_Hy l D dA AA d) : j_Go l D dA AA d j_c215_3 := j_goodX j_tabsOk (M := k_M215) rfl (k_bodyB_ok (by decide +kernel)) j_r215_3 (by decide +kernel) h
def j_b215_4 : cBody := (9, 12, [(212, 9, 21240)], k_b215_0.2.2.2.1, [(158, (19, [(2, 0, 3), (3, 0, 60), (4, 0, 3), (5, 0, 60), (6, 0, 60), (7, 0, 59), (8, 0, 3), (10, (-9223372036854775808), 9223372036854775807), (11, 0, 1), (12, 0, 60), (14, 0, 60), (15, 0, 60), (17, 0, 3), (18, 0, 3)], [(1, 3), (9, 3), (13, 3), (16, 3)], [(1, 13), (9, 61), (13, 60), (16, 59)], [(0, [(4, (-60)), (5, (-1)), (6, (-1)), (7, 1), (8, 60)]), (0, [(17, 1), (18, (-1))]), (0, [(17, (-1)), (18, 1)]), (0, [(3, (-1)), (6, (-1)), (14, 1)]), (0, [(5, (-1)), (6, (-1)), (15, 1)])], [(0, (2, (0, [(1, 1)]))), (1, (0, (0, [(2, 1)]))), (2, (0, (0, [(3, 1)]))), (3, (0, (0, [(4, 1)]))), (4, (0, (0, [(5, 1)]))), (5, (0, (0, [(6, 1)]))), (6, (0, (0, [(11, 1)]))), (7, (0, (0, [(12, 1)])))], [], [(0, (40, []), (1, (0, [(7, 1)]))), (0, (41, []), (1, (0, [(8, 1)]))), (1, (6, []), (2, (0, [(9, 1)]))), (9, (0, [(7, 1), (8, 60)]), (1, (0, [(10, 1)]))), (1, (1, []), (0, (0, []))), (1, (0, []), (0, (0, []))), (1, (5, []), (2, (0, [(13, 1)]))), (13, (0, [(2, 1)]), (0, (0, [(14, 1)]))), (13, (0, [(4, 1)]), (0, (0, [(15, 1)]))), (1, (4, []), (2, (0, [(16, 1)]))), (16, (0, [(2, 1)]), (0, (0, [(17, 1)]))), (16, (0, [(4, 1)]), (0, (0, [(18, 1)])))], 0, 0), (60, [(12, (-1))]))])
-- X12_pour g steps 173
theorem j_r215_4 : c_run (j_X j_K j_c215_4) j_K j_P j_c215_4 j_b215_4 4000 = true := by decide +kernel
theorem j_g215_4 {l : Launch} {D : va_G} {dA : Nat → ClassId} {AA : Nat → Prop} {d : Nat} (h : j_Hy l D dA AA d) : j_Go l D dA AA d j_c215_4 := j_goodX j_tabsOk (M := k_M215) rfl (k_bodyB_ok (by decide +kernel)) j_r215_4 (by decide +kernel) h
def j_b215_5 : cBody := (9, 12, [(212, 9, 21240)], k_b215_0.2.2.2.1, [(158, (19, [(2, 0, 3), (3, 0, 60), (4, 0, 3), (5, 0, 60), (6, 0, 60), (7, 0, 59), (8, 0, 3), (10, (-9223372036854775808), 9223372036854775807), (11, 0, 1), (12, 0, 60), (14, 0, 60), (15, 0, 60), (17, 0, 3), (18, 0, 3)], [(1, 3), (9, 3), (13, 3), (16, 3)], [(1, 13), (9, 61), (13, 60), (16, 59)], [(0, [(17, 1), (18, (-1))]), (0, [(17, (-1)), (18, 1)]), (0, [(3, (-1)), (6, (-1)), (14, 1)]), (0, [(5, (-1)), (6, (-1)), (15, 1)])], [(0, (2, (0, [(1, 1)]))), (1, (0, (0, [(2, 1)]))), (2, (0, (0, [(3, 1)]))), (3, (0, (0, [(4, 1)]))), (4, (0, (0, [(5, 1)]))), (5, (0, (0, [(6, 1)]))), (6, (0, (0, [(11, 1)]))), (7, (0, (0, [(12, 1)])))], [], [(0, (40, []), (1, (0, [(7, 1)]))), (0, (41, []), (1, (0, [(8, 1)]))), (1, (6, []), (2, (0, [(9, 1)]))), (1, (1, []), (0, (0, []))), (1, (0, []), (0, (0, []))), (1, (5, []), (2, (0, [(13, 1)]))), (13, (0, [(2, 1)]), (0, (0, [(14, 1)]))), (13, (0, [(4, 1)]), (0, (0, [(15, 1)]))), (1, (4, []), (2, (0, [(16, 1)]))), (16, (0, [(2, 1)]), (0, (0, [(17, 1)]))), (16, (0, [(4, 1)]), (0, (0, [(18, 1)])))], 0, 0), (60, [(12, (-1))]))])
-- X12_pour r steps 173
theorem j_r215_5 : c_run (j_X j_K j_c215_5) j_K j_P j_c215_5 j_b215_5 4000 = true := by decide +kernel
theorem j_g215_5 {l : Launch} {D : va_G} {dA : Nat → ClassId} {AA : Nat → Prop} {d : Nat} (h : j_Hy l D dA AA d) : j_Go l D dA AA d j_c215_5 := j_goodX j_tabsOk (M := k_M215) rfl (k_bodyB_ok (by decide +kernel)) j_r215_5 (by decide +kernel) h
def j_b215_6 : cBody := (9, 12, [], k_b215_0.2.2.2.1, [])
-- X12_pour L steps 12
theorem j_r215_6 : c_run c_X0 j_K j_P j_c215_6 j_b215_6 4000 = true := by decide +kernel
theorem j_g215_6 {l : Launch} {D : va_G} {dA : Nat → ClassId} {AA : Nat → Prop} {d : Nat} (h : j_Hy l D dA AA d) : j_Go l D dA AA d j_c215_6 := c_good_ok j_tabsOk (M := k_M215) rfl (k_bodyB_ok (by decide +kernel)) j_r215_6 h
def j_b215_7 : cBody := (9, 12, [], k_b215_0.2.2.2.1, [])
-- X12_pour H steps 15
theorem j_r215_7 : c_run c_X0 j_K j_P j_c215_7 j_b215_7 4000 = true := by decide +kernel
theorem j_g215_7 {l : Launch} {D : va_G} {dA : Nat → ClassId} {AA : Nat → Prop} {d : Nat} (h : j_Hy l D dA AA d) : j_Go l D dA AA d j_c215_7 := c_good_ok j_tabsOk (M := k_M215) rfl (k_bodyB_ok (by decide +kernel)) j_r215_7 h
def j_b215_8 : cBody := (9, 12, [], k_b215_0.2.2.2.1, [])
-- X12_pour ML steps 17
theorem j_r215_8 : c_run c_X0 j_K j_P j_c215_8 j_b215_8 4000 = true := by decide +kernel
theorem j_g215_8 {l : Launch} {D : va_G} {dA : Nat → ClassId} {AA : Nat → Prop} {d : Nat} (h : j_Hy l D dA AA d) : j_Go l D dA AA d j_c215_8 := c_good_ok j_tabsOk (M := k_M215) rfl (k_bodyB_ok (by decide +kernel)) j_r215_8 h
def j_b215_9 : cBody := (9, 12, [], k_b215_0.2.2.2.1, [])
-- X12_pour MH steps 20
theorem j_r215_9 : c_run c_X0 j_K j_P j_c215_9 j_b215_9 4000 = true := by decide +kernel
theorem j_g215_9 {l : Launch} {D : va_G} {dA : Nat → ClassId} {AA : Nat → Prop} {d : Nat} (h : j_Hy l D dA AA d) : j_Go l D dA AA d j_c215_9 := c_good_ok j_tabsOk (M := k_M215) rfl (k_bodyB_ok (by decide +kernel)) j_r215_9 h
def j_b205_0 : cBody := (2, 12, [], k_b205_0.2.2.2.1, [])
-- X12_no None steps 5
theorem j_r205_0 : c_run c_X0 j_K j_P j_c205_0 j_b205_0 4000 = true := by decide +kernel
theorem j_g205_0 {l : Launch} {D : va_G} {dA : Nat → ClassId} {AA : Nat → Prop} {d : Nat} (h : j_Hy l D dA AA d) : j_Go l D dA AA d j_c205_0 := c_good_ok j_tabsOk (M := k_M205) rfl (k_bodyB_ok (by decide +kernel)) j_r205_0 h
def j_b212_0 : cBody := (4, 12, [], k_b212_0.2.2.2.1, [])
-- X12_placed None steps 40
theorem j_r212_0 : c_run c_X0 j_K j_P j_c212_0 j_b212_0 4000 = true := by decide +kernel
theorem j_g212_0 {l : Launch} {D : va_G} {dA : Nat → ClassId} {AA : Nat → Prop} {d : Nat} (h : j_Hy l D dA AA d) : j_Go l D dA AA d j_c212_0 := c_good_ok j_tabsOk (M := k_M212) rfl (k_bodyB_ok (by decide +kernel)) j_r212_0 h
def j_b212_1 : cBody := (4, 12, [], k_b212_0.2.2.2.1, [])
-- X12_placed M steps 28
theorem j_r212_1 : c_run c_X0 j_K j_P j_c212_1 j_b212_1 4000 = true := by decide +kernel
theorem j_g212_1 {l : Launch} {D : va_G} {dA : Nat → ClassId} {AA : Nat → Prop} {d : Nat} (h : j_Hy l D dA AA d) : j_Go l D dA AA d j_c212_1 := c_good_ok j_tabsOk (M := k_M212) rfl (k_bodyB_ok (by decide +kernel)) j_r212_1 h
def j_b120_0 : cBody := (6, 11, [], k_b120_0.2.2.2.1, [])
-- X11_isWithin None steps 15
theorem j_r120_0 : c_run c_X0 j_K j_P j_c120_0 j_b120_0 4000 = true := by decide +kernel
theorem j_g120_0 {l : Launch} {D : va_G} {dA : Nat → ClassId} {AA : Nat → Prop} {d : Nat} (h : j_Hy l D dA AA d) : j_Go l D dA AA d j_c120_0 := c_good_ok j_tabsOk (M := k_M120) rfl (k_bodyB_ok (by decide +kernel)) j_r120_0 h
def j_b124_0 : cBody := (3, 11, [], k_b124_0.2.2.2.1, [])
-- X11_placeStatus None steps 41
theorem j_r124_0 : c_run c_X0 j_K j_P j_c124_0 j_b124_0 4000 = true := by decide +kernel
theorem j_g124_0 {l : Launch} {D : va_G} {dA : Nat → ClassId} {AA : Nat → Prop} {d : Nat} (h : j_Hy l D dA AA d) : j_Go l D dA AA d j_c124_0 := c_good_ok j_tabsOk (M := k_M124) rfl (k_bodyB_ok (by decide +kernel)) j_r124_0 h
def j_b124_1 : cBody := (3, 11, [], k_b124_0.2.2.2.1, [])
-- X11_placeStatus M steps 35
theorem j_r124_1 : c_run c_X0 j_K j_P j_c124_1 j_b124_1 4000 = true := by decide +kernel
theorem j_g124_1 {l : Launch} {D : va_G} {dA : Nat → ClassId} {AA : Nat → Prop} {d : Nat} (h : j_Hy l D dA AA d) : j_Go l D dA AA d j_c124_1 := c_good_ok j_tabsOk (M := k_M124) rfl (k_bodyB_ok (by decide +kernel)) j_r124_1 h
def j_b211_0 : cBody := (2, 12, [], k_b211_0.2.2.2.1, [])
-- X12_trayed M steps 15
theorem j_r211_0 : c_run c_X0 j_K j_P j_c211_0 j_b211_0 4000 = true := by decide +kernel
theorem j_g211_0 {l : Launch} {D : va_G} {dA : Nat → ClassId} {AA : Nat → Prop} {d : Nat} (h : j_Hy l D dA AA d) : j_Go l D dA AA d j_c211_0 := c_good_ok j_tabsOk (M := k_M211) rfl (k_bodyB_ok (by decide +kernel)) j_r211_0 h
def j_b211_1 : cBody := (2, 12, [], k_b211_0.2.2.2.1, [])
-- X12_trayed None steps 21
theorem j_r211_1 : c_run c_X0 j_K j_P j_c211_1 j_b211_1 4000 = true := by decide +kernel
theorem j_g211_1 {l : Launch} {D : va_G} {dA : Nat → ClassId} {AA : Nat → Prop} {d : Nat} (h : j_Hy l D dA AA d) : j_Go l D dA AA d j_c211_1 := c_good_ok j_tabsOk (M := k_M211) rfl (k_bodyB_ok (by decide +kernel)) j_r211_1 h
def j_b115_0 : cBody := (2, 11, [], k_b115_0.2.2.2.1, [])
-- X11_refuse None steps 5
theorem j_r115_0 : c_run c_X0 j_K j_P j_c115_0 j_b115_0 4000 = true := by decide +kernel
theorem j_g115_0 {l : Launch} {D : va_G} {dA : Nat → ClassId} {AA : Nat → Prop} {d : Nat} (h : j_Hy l D dA AA d) : j_Go l D dA AA d j_c115_0 := c_good_ok j_tabsOk (M := k_M115) rfl (k_bodyB_ok (by decide +kernel)) j_r115_0 h
def j_b117_0 : cBody := (1, 11, [], k_b117_0.2.2.2.1, [])
-- X11_grant None steps 5
theorem j_r117_0 : c_run c_X0 j_K j_P j_c117_0 j_b117_0 4000 = true := by decide +kernel
theorem j_g117_0 {l : Launch} {D : va_G} {dA : Nat → ClassId} {AA : Nat → Prop} {d : Nat} (h : j_Hy l D dA AA d) : j_Go l D dA AA d j_c117_0 := c_good_ok j_tabsOk (M := k_M117) rfl (k_bodyB_ok (by decide +kernel)) j_r117_0 h
def j_b373_0 : cBody := (5, 14, [(13, 9, 1301), (15, 9, 1540)], k_b373_0.2.2.2.1, [(6, (6, [(2, 0, 0), (3, 0, 59), (4, (-9223372036854775808), 9223372036854775807), (5, 0, 59)], [(1, 3)], [(1, 93)], [(0, [(3, 1), (5, (-1))])], [(0, (2, (0, [(1, 1)]))), (1, (1, (0, [(2, 1)]))), (3, (0, (0, [(5, 1)]))), (4, (0, (60, [])))], [], [(0, (40, []), (1, (0, [(3, 1)]))), (1, (0, [(3, 1)]), (1, (0, [(4, 1)])))], 0, 0), (119, [(5, (-1))])), (6, (6, [(2, 0, 0), (3, 0, 59), (4, (-9223372036854775808), 9223372036854775807), (5, 1, 60)], [(1, 3), (5, 2)], [(1, 93)], [((-1), [(3, (-1)), (5, 1)])], [(0, (2, (0, [(1, 1)]))), (1, (1, (0, [(2, 1)]))), (3, (0, (0, [(5, 1)]))), (4, (0, (60, [])))], [], [(0, (40, []), (1, (0, [(3, 1)]))), (1, (0, [(3, 1)]), (1, (0, [(2, 1)])))], 0, 0), (60, [(5, (-1))]))])
-- J7_fill_d0a16 k steps 32
theorem j_r373_0 : c_run (j_X j_K j_c373_0) j_K j_P j_c373_0 j_b373_0 4000 = true := by decide +kernel
theorem j_g373_0 {l : Launch} {D : va_G} {dA : Nat → ClassId} {AA : Nat → Prop} {d : Nat} (h : j_Hy l D dA AA d) : j_Go l D dA AA d j_c373_0 := j_goodX j_tabsOk (M := k_M373) rfl (k_bodyB_ok (by decide +kernel)) j_r373_0 (by decide +kernel) h
def j_b373_1 : cBody := (5, 14, [(13, 9, 1301), (15, 9, 1540)], k_b373_0.2.2.2.1, [(6, (6, [(2, 0, 0), (3, 0, 59), (4, (-9223372036854775808), 9223372036854775807), (5, 0, 59)], [(1, 3)], [(1, 92)], [(0, [(3, 1), (5, (-1))])], [(0, (2, (0, [(1, 1)]))), (1, (1, (0, [(2, 1)]))), (3, (0, (0, [(5, 1)]))), (4, (0, (60, [])))], [], [(0, (40, []), (1, (0, [(3, 1)]))), (1, (0, [(3, 1)]), (1, (0, [(4, 1)])))], 0, 0), (119, [(5, (-1))])), (6, (6, [(2, 0, 0), (3, 0, 59), (4, (-9223372036854775808), 9223372036854775807), (5, 1, 60)], [(1, 3), (5, 2)], [(1, 92)], [((-1), [(3, (-1)), (5, 1)])], [(0, (2, (0, [(1, 1)]))), (1, (1, (0, [(2, 1)]))), (3, (0, (0, [(5, 1)]))), (4, (0, (60, [])))], [], [(0, (40, []), (1, (0, [(3, 1)]))), (1, (0, [(3, 1)]), (1, (0, [(2, 1)])))], 0, 0), (60, [(5, (-1))]))])
-- J7_fill_d0a16 k steps 32
theorem j_r373_1 : c_run (j_X j_K j_c373_1) j_K j_P j_c373_1 j_b373_1 4000 = true := by decide +kernel
theorem j_g373_1 {l : Launch} {D : va_G} {dA : Nat → ClassId} {AA : Nat → Prop} {d : Nat} (h : j_Hy l D dA AA d) : j_Go l D dA AA d j_c373_1 := j_goodX j_tabsOk (M := k_M373) rfl (k_bodyB_ok (by decide +kernel)) j_r373_1 (by decide +kernel) h
def j_b373_2 : cBody := (5, 14, [(13, 9, 1301), (15, 9, 1540)], k_b373_0.2.2.2.1, [(6, (6, [(2, 0, 0), (3, 0, 59), (4, (-9223372036854775808), 9223372036854775807), (5, 0, 59)], [(1, 3)], [(1, 91)], [(0, [(3, 1), (5, (-1))])], [(0, (2, (0, [(1, 1)]))), (1, (1, (0, [(2, 1)]))), (3, (0, (0, [(5, 1)]))), (4, (0, (60, [])))], [], [(0, (40, []), (1, (0, [(3, 1)]))), (1, (0, [(3, 1)]), (1, (0, [(4, 1)])))], 0, 0), (119, [(5, (-1))])), (6, (6, [(2, 0, 0), (3, 0, 59), (4, (-9223372036854775808), 9223372036854775807), (5, 1, 60)], [(1, 3), (5, 2)], [(1, 91)], [((-1), [(3, (-1)), (5, 1)])], [(0, (2, (0, [(1, 1)]))), (1, (1, (0, [(2, 1)]))), (3, (0, (0, [(5, 1)]))), (4, (0, (60, [])))], [], [(0, (40, []), (1, (0, [(3, 1)]))), (1, (0, [(3, 1)]), (1, (0, [(2, 1)])))], 0, 0), (60, [(5, (-1))]))])
-- J7_fill_d0a16 k steps 32
theorem j_r373_2 : c_run (j_X j_K j_c373_2) j_K j_P j_c373_2 j_b373_2 4000 = true := by decide +kernel
theorem j_g373_2 {l : Launch} {D : va_G} {dA : Nat → ClassId} {AA : Nat → Prop} {d : Nat} (h : j_Hy l D dA AA d) : j_Go l D dA AA d j_c373_2 := j_goodX j_tabsOk (M := k_M373) rfl (k_bodyB_ok (by decide +kernel)) j_r373_2 (by decide +kernel) h
def j_b373_3 : cBody := (5, 14, [(13, 9, 1301), (15, 9, 1540)], k_b373_0.2.2.2.1, [(6, (6, [(2, 0, 0), (3, 0, 59), (4, (-9223372036854775808), 9223372036854775807), (5, 0, 59)], [(1, 3)], [(1, 90)], [(0, [(3, 1), (5, (-1))])], [(0, (2, (0, [(1, 1)]))), (1, (1, (0, [(2, 1)]))), (3, (0, (0, [(5, 1)]))), (4, (0, (60, [])))], [], [(0, (40, []), (1, (0, [(3, 1)]))), (1, (0, [(3, 1)]), (1, (0, [(4, 1)])))], 0, 0), (119, [(5, (-1))])), (6, (6, [(2, 0, 0), (3, 0, 59), (4, (-9223372036854775808), 9223372036854775807), (5, 1, 60)], [(1, 3), (5, 2)], [(1, 90)], [((-1), [(3, (-1)), (5, 1)])], [(0, (2, (0, [(1, 1)]))), (1, (1, (0, [(2, 1)]))), (3, (0, (0, [(5, 1)]))), (4, (0, (60, [])))], [], [(0, (40, []), (1, (0, [(3, 1)]))), (1, (0, [(3, 1)]), (1, (0, [(2, 1)])))], 0, 0), (60, [(5, (-1))]))])
-- J7_fill_d0a16 k steps 32
theorem j_r373_3 : c_run (j_X j_K j_c373_3) j_K j_P j_c373_3 j_b373_3 4000 = true := by decide +kernel
theorem j_g373_3 {l : Launch} {D : va_G} {dA : Nat → ClassId} {AA : Nat → Prop} {d : Nat} (h : j_Hy l D dA AA d) : j_Go l D dA AA d j_c373_3 := j_goodX j_tabsOk (M := k_M373) rfl (k_bodyB_ok (by decide +kernel)) j_r373_3 (by decide +kernel) h
def j_b209_0 : cBody := (3, 12, [(5, 9, 541), (6, 9, 642), (17, 9, 1741), (18, 9, 1843), (29, 9, 2941)], k_b209_0.2.2.2.1, [])
-- X12_cut None steps 27
theorem j_r209_0 : c_run (j_X j_K j_c209_0) j_K j_P j_c209_0 j_b209_0 4000 = true := by decide +kernel
theorem j_g209_0 {l : Launch} {D : va_G} {dA : Nat → ClassId} {AA : Nat → Prop} {d : Nat} (h : j_Hy l D dA AA d) : j_Go l D dA AA d j_c209_0 := j_goodX j_tabsOk (M := k_M209) rfl (k_bodyB_ok (by decide +kernel)) j_r209_0 (by decide +kernel) h
def j_b126_0 : cBody := (3, 11, [(29, 9, 2941), (30, 9, 3042), (34, 9, 3441), (35, 9, 3543), (39, 9, 3941)], k_b126_0.2.2.2.1, [])
-- X11_cutTo None steps 18
theorem j_r126_0 : c_run (j_X j_K j_c126_0) j_K j_P j_c126_0 j_b126_0 4000 = true := by decide +kernel
theorem j_g126_0 {l : Launch} {D : va_G} {dA : Nat → ClassId} {AA : Nat → Prop} {d : Nat} (h : j_Hy l D dA AA d) : j_Go l D dA AA d j_c126_0 := j_goodX j_tabsOk (M := k_M126) rfl (k_bodyB_ok (by decide +kernel)) j_r126_0 (by decide +kernel) h
