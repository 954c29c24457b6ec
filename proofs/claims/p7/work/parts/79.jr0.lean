/-! second layer: kernel runs (printed by gen_j.py) -/
def j_b123_0 : cBody := (4, 11, [], k_b123_0.2.2.2.1, [])
-- X11_tray 0 steps 54
theorem j_r123_0 : c_run c_X0 j_K j_P j_c123_0 j_b123_0 4000 = true := by decide +kernel
theorem j_g123_0 {l : Launch} {D : va_G} {dA : Nat → ClassId} {AA : Nat → Prop} {d : Nat} (h : j_Hy l D dA AA d) : j_Go l D dA AA d j_c123_0 := c_good_ok j_tabsOk (M := k_M123) rfl (k_bodyB_ok (by decide +kernel)) j_r123_0 h
def j_b123_1 : cBody := (4, 11, [], k_b123_0.2.2.2.1, [])
-- X11_tray 1 steps 54
theorem j_r123_1 : c_run c_X0 j_K j_P j_c123_1 j_b123_1 4000 = true := by decide +kernel
theorem j_g123_1 {l : Launch} {D : va_G} {dA : Nat → ClassId} {AA : Nat → Prop} {d : Nat} (h : j_Hy l D dA AA d) : j_Go l D dA AA d j_c123_1 := c_good_ok j_tabsOk (M := k_M123) rfl (k_bodyB_ok (by decide +kernel)) j_r123_1 h
def j_b123_2 : cBody := (4, 11, [], k_b123_0.2.2.2.1, [])
-- X11_tray 2 steps 54
theorem j_r123_2 : c_run c_X0 j_K j_P j_c123_2 j_b123_2 4000 = true := by decide +kernel
theorem j_g123_2 {l : Launch} {D : va_G} {dA : Nat → ClassId} {AA : Nat → Prop} {d : Nat} (h : j_Hy l D dA AA d) : j_Go l D dA AA d j_c123_2 := c_good_ok j_tabsOk (M := k_M123) rfl (k_bodyB_ok (by decide +kernel)) j_r123_2 h
def j_b123_3 : cBody := (4, 11, [], k_b123_0.2.2.2.1, [])
-- X11_tray 3 steps 54
theorem j_r123_3 : c_run c_X0 j_K j_P j_c123_3 j_b123_3 4000 = true := by decide +kernel
theorem j_g123_3 {l : Launch} {D : va_G} {dA : Nat → ClassId} {AA : Nat → Prop} {d : Nat} (h : j_Hy l D dA AA d) : j_Go l D dA AA d j_c123_3 := c_good_ok j_tabsOk (M := k_M123) rfl (k_bodyB_ok (by decide +kernel)) j_r123_3 h
def j_b123_4 : cBody := (4, 11, [], k_b123_0.2.2.2.1, [])
-- X11_tray L steps 10
theorem j_r123_4 : c_run c_X0 j_K j_P j_c123_4 j_b123_4 4000 = true := by decide +kernel
theorem j_g123_4 {l : Launch} {D : va_G} {dA : Nat → ClassId} {AA : Nat → Prop} {d : Nat} (h : j_Hy l D dA AA d) : j_Go l D dA AA d j_c123_4 := c_good_ok j_tabsOk (M := k_M123) rfl (k_bodyB_ok (by decide +kernel)) j_r123_4 h
def j_b123_5 : cBody := (4, 11, [], k_b123_0.2.2.2.1, [])
-- X11_tray H steps 10
theorem j_r123_5 : c_run c_X0 j_K j_P j_c123_5 j_b123_5 4000 = true := by decide +kernel
theorem j_g123_5 {l : Launch} {D : va_G} {dA : Nat → ClassId} {AA : Nat → Prop} {d : Nat} (h : j_Hy l D dA AA d) : j_Go l D dA AA d j_c123_5 := c_good_ok j_tabsOk (M := k_M123) rfl (k_bodyB_ok (by decide +kernel)) j_r123_5 h
def j_b125_0 : cBody := (6, 11, [(37, 9, 3740)], k_b125_0.2.2.2.1, [])
-- X11_write e0 steps 48
theorem j_r125_0 : c_run (j_X j_K j_c125_0) j_K j_P j_c125_0 j_b125_0 4000 = true := by decide +kernel
theorem j_g125_0 {l : Launch} {D : va_G} {dA : Nat → ClassId} {AA : Nat → Prop} {d : Nat} (h : j_Hy l D dA AA d) : j_Go l D dA AA d j_c125_0 := j_goodX j_tabsOk (M := k_M125) rfl (k_bodyB_ok (by decide +kernel)) j_r125_0 (by decide +kernel) h
def j_b125_1 : cBody := (6, 11, [(37, 9, 3740)], k_b125_0.2.2.2.1, [])
-- X11_write l0 steps 55
theorem j_r125_1 : c_run (j_X j_K j_c125_1) j_K j_P j_c125_1 j_b125_1 4000 = true := by decide +kernel
theorem j_g125_1 {l : Launch} {D : va_G} {dA : Nat → ClassId} {AA : Nat → Prop} {d : Nat} (h : j_Hy l D dA AA d) : j_Go l D dA AA d j_c125_1 := j_goodX j_tabsOk (M := k_M125) rfl (k_bodyB_ok (by decide +kernel)) j_r125_1 (by decide +kernel) h
def j_b125_2 : cBody := (6, 11, [(37, 9, 3740)], k_b125_0.2.2.2.1, [])
-- X11_write g0 steps 48
theorem j_r125_2 : c_run (j_X j_K j_c125_2) j_K j_P j_c125_2 j_b125_2 4000 = true := by decide +kernel
theorem j_g125_2 {l : Launch} {D : va_G} {dA : Nat → ClassId} {AA : Nat → Prop} {d : Nat} (h : j_Hy l D dA AA d) : j_Go l D dA AA d j_c125_2 := j_goodX j_tabsOk (M := k_M125) rfl (k_bodyB_ok (by decide +kernel)) j_r125_2 (by decide +kernel) h
def j_b125_3 : cBody := (6, 11, [(37, 9, 3740)], k_b125_0.2.2.2.1, [])
-- X11_write e1 steps 48
theorem j_r125_3 : c_run (j_X j_K j_c125_3) j_K j_P j_c125_3 j_b125_3 4000 = true := by decide +kernel
theorem j_g125_3 {l : Launch} {D : va_G} {dA : Nat → ClassId} {AA : Nat → Prop} {d : Nat} (h : j_Hy l D dA AA d) : j_Go l D dA AA d j_c125_3 := j_goodX j_tabsOk (M := k_M125) rfl (k_bodyB_ok (by decide +kernel)) j_r125_3 (by decide +kernel) h
def j_b125_4 : cBody := (6, 11, [(37, 9, 3740)], k_b125_0.2.2.2.1, [])
-- X11_write l1 steps 55
theorem j_r125_4 : c_run (j_X j_K j_c125_4) j_K j_P j_c125_4 j_b125_4 4000 = true := by decide +kernel
theorem j_g125_4 {l : Launch} {D : va_G} {dA : Nat → ClassId} {AA : Nat → Prop} {d : Nat} (h : j_Hy l D dA AA d) : j_Go l D dA AA d j_c125_4 := j_goodX j_tabsOk (M := k_M125) rfl (k_bodyB_ok (by decide +kernel)) j_r125_4 (by decide +kernel) h
def j_b125_5 : cBody := (6, 11, [(37, 9, 3740)], k_b125_0.2.2.2.1, [])
-- X11_write g1 steps 48
theorem j_r125_5 : c_run (j_X j_K j_c125_5) j_K j_P j_c125_5 j_b125_5 4000 = true := by decide +kernel
theorem j_g125_5 {l : Launch} {D : va_G} {dA : Nat → ClassId} {AA : Nat → Prop} {d : Nat} (h : j_Hy l D dA AA d) : j_Go l D dA AA d j_c125_5 := j_goodX j_tabsOk (M := k_M125) rfl (k_bodyB_ok (by decide +kernel)) j_r125_5 (by decide +kernel) h
def j_b125_6 : cBody := (6, 11, [(37, 9, 3740)], k_b125_0.2.2.2.1, [])
-- X11_write e2 steps 48
theorem j_r125_6 : c_run (j_X j_K j_c125_6) j_K j_P j_c125_6 j_b125_6 4000 = true := by decide +kernel
theorem j_g125_6 {l : Launch} {D : va_G} {dA : Nat → ClassId} {AA : Nat → Prop} {d : Nat} (h : j_Hy l D dA AA d) : j_Go l D dA AA d j_c125_6 := j_goodX j_tabsOk (M := k_M125) rfl (k_bodyB_ok (by decide +kernel)) j_r125_6 (by decide +kernel) h
def j_b125_7 : cBody := (6, 11, [(37, 9, 3740)], k_b125_0.2.2.2.1, [])
-- X11_write l2 steps 55
theorem j_r125_7 : c_run (j_X j_K j_c125_7) j_K j_P j_c125_7 j_b125_7 4000 = true := by decide +kernel
theorem j_g125_7 {l : Launch} {D : va_G} {dA : Nat → ClassId} {AA : Nat → Prop} {d : Nat} (h : j_Hy l D dA AA d) : j_Go l D dA AA d j_c125_7 := j_goodX j_tabsOk (M := k_M125) rfl (k_bodyB_ok (by decide +kernel)) j_r125_7 (by decide +kernel) h
def j_b125_8 : cBody := (6, 11, [(37, 9, 3740)], k_b125_0.2.2.2.1, [])
-- X11_write g2 steps 48
theorem j_r125_8 : c_run (j_X j_K j_c125_8) j_K j_P j_c125_8 j_b125_8 4000 = true := by decide +kernel
theorem j_g125_8 {l : Launch} {D : va_G} {dA : Nat → ClassId} {AA : Nat → Prop} {d : Nat} (h : j_Hy l D dA AA d) : j_Go l D dA AA d j_c125_8 := j_goodX j_tabsOk (M := k_M125) rfl (k_bodyB_ok (by decide +kernel)) j_r125_8 (by decide +kernel) h
def j_b125_9 : cBody := (6, 11, [(37, 9, 3740)], k_b125_0.2.2.2.1, [])
-- X11_write e3 steps 48
theorem j_r125_9 : c_run (j_X j_K j_c125_9) j_K j_P j_c125_9 j_b125_9 4000 = true := by decide +kernel
theorem j_g125_9 {l : Launch} {D : va_G} {dA : Nat → ClassId} {AA : Nat → Prop} {d : Nat} (h : j_Hy l D dA AA d) : j_Go l D dA AA d j_c125_9 := j_goodX j_tabsOk (M := k_M125) rfl (k_bodyB_ok (by decide +kernel)) j_r125_9 (by decide +kernel) h
def j_b125_10 : cBody := (6, 11, [(37, 9, 3740)], k_b125_0.2.2.2.1, [])
-- X11_write l3 steps 55
theorem j_r125_10 : c_run (j_X j_K j_c125_10) j_K j_P j_c125_10 j_b125_10 4000 = true := by decide +kernel
theorem j_g125_10 {l : Launch} {D : va_G} {dA : Nat → ClassId} {AA : Nat → Prop} {d : Nat} (h : j_Hy l D dA AA d) : j_Go l D dA AA d j_c125_10 := j_goodX j_tabsOk (M := k_M125) rfl (k_bodyB_ok (by decide +kernel)) j_r125_10 (by decide +kernel) h
def j_b125_11 : cBody := (6, 11, [(37, 9, 3740)], k_b125_0.2.2.2.1, [])
-- X11_write g3 steps 48
theorem j_r125_11 : c_run (j_X j_K j_c125_11) j_K j_P j_c125_11 j_b125_11 4000 = true := by decide +kernel
theorem j_g125_11 {l : Launch} {D : va_G} {dA : Nat → ClassId} {AA : Nat → Prop} {d : Nat} (h : j_Hy l D dA AA d) : j_Go l D dA AA d j_c125_11 := j_goodX j_tabsOk (M := k_M125) rfl (k_bodyB_ok (by decide +kernel)) j_r125_11 (by decide +kernel) h
def j_b125_12 : cBody := (6, 11, [], k_b125_0.2.2.2.1, [])
-- X11_write n steps 18
theorem j_r125_12 : c_run c_X0 j_K j_P j_c125_12 j_b125_12 4000 = true := by decide +kernel
theorem j_g125_12 {l : Launch} {D : va_G} {dA : Nat → ClassId} {AA : Nat → Prop} {d : Nat} (h : j_Hy l D dA AA d) : j_Go l D dA AA d j_c125_12 := c_good_ok j_tabsOk (M := k_M125) rfl (k_bodyB_ok (by decide +kernel)) j_r125_12 h
def j_b125_13 : cBody := (6, 11, [], k_b125_0.2.2.2.1, [])
-- X11_write p steps 18
theorem j_r125_13 : c_run c_X0 j_K j_P j_c125_13 j_b125_13 4000 = true := by decide +kernel
theorem j_g125_13 {l : Launch} {D : va_G} {dA : Nat → ClassId} {AA : Nat → Prop} {d : Nat} (h : j_Hy l D dA AA d) : j_Go l D dA AA d j_c125_13 := c_good_ok j_tabsOk (M := k_M125) rfl (k_bodyB_ok (by decide +kernel)) j_r125_13 h
def j_b125_14 : cBody := (6, 11, [], k_b125_0.2.2.2.1, [])
-- X11_write L steps 11
theorem j_r125_14 : c_run c_X0 j_K j_P j_c125_14 j_b125_14 4000 = true := by decide +kernel
theorem j_g125_14 {l : Launch} {D : va_G} {dA : Nat → ClassId} {AA : Nat → Prop} {d : Nat} (h : j_Hy l D dA AA d) : j_Go l D dA AA d j_c125_14 := c_good_ok j_tabsOk (M := k_M125) rfl (k_bodyB_ok (by decide +kernel)) j_r125_14 h
def j_b125_15 : cBody := (6, 11, [], k_b125_0.2.2.2.1, [])
-- X11_write H steps 11
theorem j_r125_15 : c_run c_X0 j_K j_P j_c125_15 j_b125_15 4000 = true := by decide +kernel
theorem j_g125_15 {l : Launch} {D : va_G} {dA : Nat → ClassId} {AA : Nat → Prop} {d : Nat} (h : j_Hy l D dA AA d) : j_Go l D dA AA d j_c125_15 := c_good_ok j_tabsOk (M := k_M125) rfl (k_bodyB_ok (by decide +kernel)) j_r125_15 h
def j_b127_0 : cBody := (4, 11, [], k_b127_0.2.2.2.1, [])
-- X11_read o0 steps 35
theorem j_r127_0 : c_run c_X0 j_K j_P j_c127_0 j_b127_0 4000 = true := by decide +kernel
theorem j_g127_0 {l : Launch} {D : va_G} {dA : Nat → ClassId} {AA : Nat → Prop} {d : Nat} (h : j_Hy l D dA AA d) : j_Go l D dA AA d j_c127_0 := c_good_ok j_tabsOk (M := k_M127) rfl (k_bodyB_ok (by decide +kernel)) j_r127_0 h
def j_b127_1 : cBody := (4, 11, [], k_b127_0.2.2.2.1, [])
-- X11_read n0 steps 22
theorem j_r127_1 : c_run c_X0 j_K j_P j_c127_1 j_b127_1 4000 = true := by decide +kernel
theorem j_g127_1 {l : Launch} {D : va_G} {dA : Nat → ClassId} {AA : Nat → Prop} {d : Nat} (h : j_Hy l D dA AA d) : j_Go l D dA AA d j_c127_1 := c_good_ok j_tabsOk (M := k_M127) rfl (k_bodyB_ok (by decide +kernel)) j_r127_1 h
def j_b127_2 : cBody := (4, 11, [], k_b127_0.2.2.2.1, [])
-- X11_read p0 steps 22
theorem j_r127_2 : c_run c_X0 j_K j_P j_c127_2 j_b127_2 4000 = true := by decide +kernel
theorem j_g127_2 {l : Launch} {D : va_G} {dA : Nat → ClassId} {AA : Nat → Prop} {d : Nat} (h : j_Hy l D dA AA d) : j_Go l D dA AA d j_c127_2 := c_good_ok j_tabsOk (M := k_M127) rfl (k_bodyB_ok (by decide +kernel)) j_r127_2 h
def j_b127_3 : cBody := (4, 11, [], k_b127_0.2.2.2.1, [])
-- X11_read o1 steps 35
theorem j_r127_3 : c_run c_X0 j_K j_P j_c127_3 j_b127_3 4000 = true := by decide +kernel
theorem j_g127_3 {l : Launch} {D : va_G} {dA : Nat → ClassId} {AA : Nat → Prop} {d : Nat} (h : j_Hy l D dA AA d) : j_Go l D dA AA d j_c127_3 := c_good_ok j_tabsOk (M := k_M127) rfl (k_bodyB_ok (by decide +kernel)) j_r127_3 h
def j_b127_4 : cBody := (4, 11, [], k_b127_0.2.2.2.1, [])
-- X11_read n1 steps 22
theorem j_r127_4 : c_run c_X0 j_K j_P j_c127_4 j_b127_4 4000 = true := by decide +kernel
theorem j_g127_4 {l : Launch} {D : va_G} {dA : Nat → ClassId} {AA : Nat → Prop} {d : Nat} (h : j_Hy l D dA AA d) : j_Go l D dA AA d j_c127_4 := c_good_ok j_tabsOk (M := k_M127) rfl (k_bodyB_ok (by decide +kernel)) j_r127_4 h
def j_b127_5 : cBody := (4, 11, [], k_b127_0.2.2.2.1, [])
-- X11_read p1 steps 22
theorem j_r127_5 : c_run c_X0 j_K j_P j_c127_5 j_b127_5 4000 = true := by decide +kernel
theorem j_g127_5 {l : Launch} {D : va_G} {dA : Nat → ClassId} {AA : Nat → Prop} {d : Nat} (h : j_Hy l D dA AA d) : j_Go l D dA AA d j_c127_5 := c_good_ok j_tabsOk (M := k_M127) rfl (k_bodyB_ok (by decide +kernel)) j_r127_5 h
def j_b127_6 : cBody := (4, 11, [], k_b127_0.2.2.2.1, [])
-- X11_read o2 steps 35
theorem j_r127_6 : c_run c_X0 j_K j_P j_c127_6 j_b127_6 4000 = true := by decide +kernel
theorem j_g127_6 {l : Launch} {D : va_G} {dA : Nat → ClassId} {AA : Nat → Prop} {d : Nat} (h : j_Hy l D dA AA d) : j_Go l D dA AA d j_c127_6 := c_good_ok j_tabsOk (M := k_M127) rfl (k_bodyB_ok (by decide +kernel)) j_r127_6 h
def j_b127_7 : cBody := (4, 11, [], k_b127_0.2.2.2.1, [])
-- X11_read n2 steps 22
theorem j_r127_7 : c_run c_X0 j_K j_P j_c127_7 j_b127_7 4000 = true := by decide +kernel
theorem j_g127_7 {l : Launch} {D : va_G} {dA : Nat → ClassId} {AA : Nat → Prop} {d : Nat} (h : j_Hy l D dA AA d) : j_Go l D dA AA d j_c127_7 := c_good_ok j_tabsOk (M := k_M127) rfl (k_bodyB_ok (by decide +kernel)) j_r127_7 h
def j_b127_8 : cBody := (4, 11, [], k_b127_0.2.2.2.1, [])
-- X11_read p2 steps 22
theorem j_r127_8 : c_run c_X0 j_K j_P j_c127_8 j_b127_8 4000 = true := by decide +kernel
theorem j_g127_8 {l : Launch} {D : va_G} {dA : Nat → ClassId} {AA : Nat → Prop} {d : Nat} (h : j_Hy l D dA AA d) : j_Go l D dA AA d j_c127_8 := c_good_ok j_tabsOk (M := k_M127) rfl (k_bodyB_ok (by decide +kernel)) j_r127_8 h
def j_b127_9 : cBody := (4, 11, [], k_b127_0.2.2.2.1, [])
-- X11_read o3 steps 35
theorem j_r127_9 : c_run c_X0 j_K j_P j_c127_9 j_b127_9 4000 = true := by decide +kernel
theorem j_g127_9 {l : Launch} {D : va_G} {dA : Nat → ClassId} {AA : Nat → Prop} {d : Nat} (h : j_Hy l D dA AA d) : j_Go l D dA AA d j_c127_9 := c_good_ok j_tabsOk (M := k_M127) rfl (k_bodyB_ok (by decide +kernel)) j_r127_9 h
def j_b127_10 : cBody := (4, 11, [], k_b127_0.2.2.2.1, [])
-- X11_read n3 steps 22
theorem j_r127_10 : c_run c_X0 j_K j_P j_c127_10 j_b127_10 4000 = true := by decide +kernel
theorem j_g127_10 {l : Launch} {D : va_G} {dA : Nat → ClassId} {AA : Nat → Prop} {d : Nat} (h : j_Hy l D dA AA d) : j_Go l D dA AA d j_c127_10 := c_good_ok j_tabsOk (M := k_M127) rfl (k_bodyB_ok (by decide +kernel)) j_r127_10 h
def j_b127_11 : cBody := (4, 11, [], k_b127_0.2.2.2.1, [])
-- X11_read p3 steps 22
theorem j_r127_11 : c_run c_X0 j_K j_P j_c127_11 j_b127_11 4000 = true := by decide +kernel
theorem j_g127_11 {l : Launch} {D : va_G} {dA : Nat → ClassId} {AA : Nat → Prop} {d : Nat} (h : j_Hy l D dA AA d) : j_Go l D dA AA d j_c127_11 := c_good_ok j_tabsOk (M := k_M127) rfl (k_bodyB_ok (by decide +kernel)) j_r127_11 h
def j_b127_12 : cBody := (4, 11, [], k_b127_0.2.2.2.1, [])
-- X11_read L steps 13
theorem j_r127_12 : c_run c_X0 j_K j_P j_c127_12 j_b127_12 4000 = true := by decide +kernel
theorem j_g127_12 {l : Launch} {D : va_G} {dA : Nat → ClassId} {AA : Nat → Prop} {d : Nat} (h : j_Hy l D dA AA d) : j_Go l D dA AA d j_c127_12 := c_good_ok j_tabsOk (M := k_M127) rfl (k_bodyB_ok (by decide +kernel)) j_r127_12 h
def j_b127_13 : cBody := (4, 11, [], k_b127_0.2.2.2.1, [])
-- X11_read H steps 13
theorem j_r127_13 : c_run c_X0 j_K j_P j_c127_13 j_b127_13 4000 = true := by decide +kernel
theorem j_g127_13 {l : Launch} {D : va_G} {dA : Nat → ClassId} {AA : Nat → Prop} {d : Nat} (h : j_Hy l D dA AA d) : j_Go l D dA AA d j_c127_13 := c_good_ok j_tabsOk (M := k_M127) rfl (k_bodyB_ok (by decide +kernel)) j_r127_13 h
def j_b214_0 : cBody := (3, 12, [], k_b214_0.2.2.2.1, [])
-- X12_read L steps 15
theorem j_r214_0 : c_run c_X0 j_K j_P j_c214_0 j_b214_0 4000 = true := by decide +kernel
theorem j_g214_0 {l : Launch} {D : va_G} {dA : Nat → ClassId} {AA : Nat → Prop} {d : Nat} (h : j_Hy l D dA AA d) : j_Go l D dA AA d j_c214_0 := c_good_ok j_tabsOk (M := k_M214) rfl (k_bodyB_ok (by decide +kernel)) j_r214_0 h
def j_b214_1 : cBody := (3, 12, [], k_b214_0.2.2.2.1, [])
-- X12_read H steps 15
theorem j_r214_1 : c_run c_X0 j_K j_P j_c214_1 j_b214_1 4000 = true := by decide +kernel
theorem j_g214_1 {l : Launch} {D : va_G} {dA : Nat → ClassId} {AA : Nat → Prop} {d : Nat} (h : j_Hy l D dA AA d) : j_Go l D dA AA d j_c214_1 := c_good_ok j_tabsOk (M := k_M214) rfl (k_bodyB_ok (by decide +kernel)) j_r214_1 h
def j_b214_2 : cBody := (3, 12, [], k_b214_0.2.2.2.1, [])
-- X12_read o steps 35
theorem j_r214_2 : c_run c_X0 j_K j_P j_c214_2 j_b214_2 4000 = true := by decide +kernel
theorem j_g214_2 {l : Launch} {D : va_G} {dA : Nat → ClassId} {AA : Nat → Prop} {d : Nat} (h : j_Hy l D dA AA d) : j_Go l D dA AA d j_c214_2 := c_good_ok j_tabsOk (M := k_M214) rfl (k_bodyB_ok (by decide +kernel)) j_r214_2 h
def j_b214_3 : cBody := (3, 12, [], k_b214_0.2.2.2.1, [])
-- X12_read n steps 22
theorem j_r214_3 : c_run c_X0 j_K j_P j_c214_3 j_b214_3 4000 = true := by decide +kernel
theorem j_g214_3 {l : Launch} {D : va_G} {dA : Nat → ClassId} {AA : Nat → Prop} {d : Nat} (h : j_Hy l D dA AA d) : j_Go l D dA AA d j_c214_3 := c_good_ok j_tabsOk (M := k_M214) rfl (k_bodyB_ok (by decide +kernel)) j_r214_3 h
def j_b214_4 : cBody := (3, 12, [], k_b214_0.2.2.2.1, [])
-- X12_read p steps 22
theorem j_r214_4 : c_run c_X0 j_K j_P j_c214_4 j_b214_4 4000 = true := by decide +kernel
theorem j_g214_4 {l : Launch} {D : va_G} {dA : Nat → ClassId} {AA : Nat → Prop} {d : Nat} (h : j_Hy l D dA AA d) : j_Go l D dA AA d j_c214_4 := c_good_ok j_tabsOk (M := k_M214) rfl (k_bodyB_ok (by decide +kernel)) j_r214_4 h
def j_b128_0 : cBody := (6, 11, [(149, 9, 14944)], k_b128_0.2.2.2.1, [])
-- X11_pour i00 steps 102
theorem j_r128_0 : c_run (j_X j_K j_c128_0) j_K j_P j_c128_0 j_b128_0 4000 = true := by decide +kernel
theorem j_g128_0 {l : Launch} {D : va_G} {dA : Nat → ClassId} {AA : Nat → Prop} {d : Nat} (h : j_Hy l D dA AA d) : j_Go l D dA AA d j_c128_0 := j_goodX j_tabsOk (M := k_M128) rfl (k_bodyB_ok (by decide +kernel)) j_r128_0 (by decide +kernel) h
def j_b128_1 : cBody := (6, 11, [(149, 9, 14944)], k_b128_0.2.2.2.1, [])
-- X11_pour l00 steps 98
theorem j_r128_1 : c_run (j_X j_K j_c128_1) j_K j_P j_c128_1 j_b128_1 4000 = true := by decide +kernel
theorem j_g128_1 {l : Launch} {D : va_G} {dA : Nat → ClassId} {AA : Nat → Prop} {d : Nat} (h : j_Hy l D dA AA d) : j_Go l D dA AA d j_c128_1 := j_goodX j_tabsOk (M := k_M128) rfl (k_bodyB_ok (by decide +kernel)) j_r128_1 (by decide +kernel) h
def j_b128_2 : cBody := (6, 11, [(149, 9, 14944)], k_b128_0.2.2.2.1, [])
-- X11_pour g00 steps 102
theorem j_r128_2 : c_run (j_X j_K j_c128_2) j_K j_P j_c128_2 j_b128_2 4000 = true := by decide +kernel
theorem j_g128_2 {l : Launch} {D : va_G} {dA : Nat → ClassId} {AA : Nat → Prop} {d : Nat} (h : j_Hy l D dA AA d) : j_Go l D dA AA d j_c128_2 := j_goodX j_tabsOk (M := k_M128) rfl (k_bodyB_ok (by decide +kernel)) j_r128_2 (by decide +kernel) h
def j_b128_3 : cBody := (6, 11, [(149, 9, 14944)], k_b128_0.2.2.2.1, [])
-- X11_pour r00 steps 102
theorem j_r128_3 : c_run (j_X j_K j_c128_3) j_K j_P j_c128_3 j_b128_3 4000 = true := by decide +kernel
theorem j_g128_3 {l : Launch} {D : va_G} {dA : Nat → ClassId} {AA : Nat → Prop} {d : Nat} (h : j_Hy l D dA AA d) : j_Go l D dA AA d j_c128_3 := j_goodX j_tabsOk (M := k_M128) rfl (k_bodyB_ok (by decide +kernel)) j_r128_3 (by decide +kernel) h
def j_b128_4 : cBody := (6, 11, [(149, 9, 14944)], k_b128_0.2.2.2.1, [])
-- X11_pour i01 steps 102
theorem j_r128_4 : c_run (j_X j_K j_c128_4) j_K j_P j_c128_4 j_b128_4 4000 = true := by decide +kernel
theorem j_g128_4 {l : Launch} {D : va_G} {dA : Nat → ClassId} {AA : Nat → Prop} {d : Nat} (h : j_Hy l D dA AA d) : j_Go l D dA AA d j_c128_4 := j_goodX j_tabsOk (M := k_M128) rfl (k_bodyB_ok (by decide +kernel)) j_r128_4 (by decide +kernel) h
def j_b128_5 : cBody := (6, 11, [(149, 9, 14944)], k_b128_0.2.2.2.1, [])
-- X11_pour l01 steps 98
theorem j_r128_5 : c_run (j_X j_K j_c128_5) j_K j_P j_c128_5 j_b128_5 4000 = true := by decide +kernel
theorem j_g128_5 {l : Launch} {D : va_G} {dA : Nat → ClassId} {AA : Nat → Prop} {d : Nat} (h : j_Hy l D dA AA d) : j_Go l D dA AA d j_c128_5 := j_goodX j_tabsOk (M := k_M128) rfl (k_bodyB_ok (by decide +kernel)) j_r128_5 (by decide +kernel) h
def j_b128_6 : cBody := (6, 11, [(149, 9, 14944)], k_b128_0.2.2.2.1, [])
-- X11_pour g01 steps 102
theorem j_r128_6 : c_run (j_X j_K j_c128_6) j_K j_P j_c128_6 j_b128_6 4000 = true := by decide +kernel
theorem j_g128_6 {l : Launch} {D : va_G} {dA : Nat → ClassId} {AA : Nat → Prop} {d : Nat} (h : j_Hy l D dA AA d) : j_Go l D dA AA d j_c128_6 := j_goodX j_tabsOk (M := k_M128) rfl (k_bodyB_ok (by decide +kernel)) j_r128_6 (by decide +kernel) h
def j_b128_7 : cBody := (6, 11, [(149, 9, 14944)], k_b128_0.2.2.2.1, [])
-- X11_pour r01 steps 102
theorem j_r128_7 : c_run (j_X j_K j_c128_7) j_K j_P j_c128_7 j_b128_7 4000 = true := by decide +kernel
theorem j_g128_7 {l : Launch} {D : va_G} {dA : Nat → ClassId} {AA : Nat → Prop} {d : Nat} (h : j_Hy l D dA AA d) : j_Go l D dA AA d j_c128_7 := j_goodX j_tabsOk (M := k_M128) rfl (k_bodyB_ok (by decide +kernel)) j_r128_7 (by decide +kernel) h
def j_b128_8 : cBody := (6, 11, [(149, 9, 14944)], k_b128_0.2.2.2.1, [])
-- X11_pour i02 steps 102
theorem j_r128_8 : c_run (j_X j_K j_c128_8) j_K j_P j_c128_8 j_b128_8 4000 = true := by decide +kernel
theorem j_g128_8 {l : Launch} {D : va_G} {dA : Nat → ClassId} {AA : Nat → Prop} {d : Nat} (h : j_Hy l D dA AA d) : j_Go l D dA AA d j_c128_8 := j_goodX j_tabsOk (M := k_M128) rfl (k_bodyB_ok (by decide +kernel)) j_r128_8 (by decide +kernel) h
def j_b128_9 : cBody := (6, 11, [(149, 9, 14944)], k_b128_0.2.2.2.1, [])
-- X11_pour l02 steps 98
theorem j_r128_9 : c_run (j_X j_K j_c128_9) j_K j_P j_c128_9 j_b128_9 4000 = true := by decide +kernel
theorem j_g128_9 {l : Launch} {D : va_G} {dA : Nat → ClassId} {AA : Nat → Prop} {d : Nat} (h : j_Hy l D dA AA d) : j_Go l D dA AA d j_c128_9 := j_goodX j_tabsOk (M := k_M128) rfl (k_bodyB_ok (by decide +kernel)) j_r128_9 (by decide +kernel) h
def j_b128_10 : cBody := (6, 11, [(149, 9, 14944)], k_b128_0.2.2.2.1, [])
-- X11_pour g02 steps 102
theorem j_r128_10 : c_run (j_X j_K j_c128_10) j_K j_P j_c128_10 j_b128_10 4000 = true := by decide +kernel
theorem j_g128_10 {l : Launch} {D : va_G} {dA : Nat → ClassId} {AA : Nat → Prop} {d : Nat} (h : j_Hy l D dA AA d) : j_Go l D dA AA d j_c128_10 := j_goodX j_tabsOk (M := k_M128) rfl (k_bodyB_ok (by decide +kernel)) j_r128_10 (by decide +kernel) h
def j_b128_11 : cBody := (6, 11, [(149, 9, 14944)], k_b128_0.2.2.2.1, [])
-- X11_pour r02 steps 102
theorem j_r128_11 : c_run (j_X j_K j_c128_11) j_K j_P j_c128_11 j_b128_11 4000 = true := by decide +kernel
theorem j_g128_11 {l : Launch} {D : va_G} {dA : Nat → ClassId} {AA : Nat → Prop} {d : Nat} (h : j_Hy l D dA AA d) : j_Go l D dA AA d j_c128_11 := j_goodX j_tabsOk (M := k_M128) rfl (k_bodyB_ok (by decide +kernel)) j_r128_11 (by decide +kernel) h
def j_b128_12 : cBody := (6, 11, [(149, 9, 14944)], k_b128_0.2.2.2.1, [])
-- X11_pour i03 steps 102
theorem j_r128_12 : c_run (j_X j_K j_c128_12) j_K j_P j_c128_12 j_b128_12 4000 = true := by decide +kernel
theorem j_g128_12 {l : Launch} {D : va_G} {dA : Nat → ClassId} {AA : Nat → Prop} {d : Nat} (h : j_Hy l D dA AA d) : j_Go l D dA AA d j_c128_12 := j_goodX j_tabsOk (M := k_M128) rfl (k_bodyB_ok (by decide +kernel)) j_r128_12 (by decide +kernel) h
def j_b128_13 : cBody := (6, 11, [(149, 9, 14944)], k_b128_0.2.2.2.1, [])
-- X11_pour l03 steps 98
theorem j_r128_13 : c_run (j_X j_K j_c128_13) j_K j_P j_c128_13 j_b128_13 4000 = true := by decide +kernel
theorem j_g128_13 {l : Launch} {D : va_G} {dA : Nat → ClassId} {AA : Nat → Prop} {d : Nat} (h : j_Hy l D dA AA d) : j_Go l D dA AA d j_c128_13 := j_goodX j_tabsOk (M := k_M128) rfl (k_bodyB_ok (by decide +kernel)) j_r128_13 (by decide +kernel) h
def j_b128_14 : cBody := (6, 11, [(149, 9, 14944)], k_b128_0.2.2.2.1, [])
-- X11_pour g03 steps 102
theorem j_r128_14 : c_run (j_X j_K j_c128_14) j_K j_P j_c128_14 j_b128_14 4000 = true := by decide +kernel
theorem j_g128_14 {l : Launch} {D : va_G} {dA : Nat → ClassId} {AA : Nat → Prop} {d : Nat} (h : j_Hy l D dA AA d) : j_Go l D dA AA d j_c128_14 := j_goodX j_tabsOk (M := k_M128) rfl (k_bodyB_ok (by decide +kernel)) j_r128_14 (by decide +kernel) h
def j_b128_15 : cBody := (6, 11, [(149, 9, 14944)], k_b128_0.2.2.2.1, [])
-- X11_pour r03 steps 102
theorem j_r128_15 : c_run (j_X j_K j_c128_15) j_K j_P j_c128_15 j_b128_15 4000 = true := by decide +kernel
theorem j_g128_15 {l : Launch} {D : va_G} {dA : Nat → ClassId} {AA : Nat → Prop} {d : Nat} (h : j_Hy l D dA AA d) : j_Go l D dA AA d j_c128_15 := j_goodX j_tabsOk (M := k_M128) rfl (k_bodyB_ok (by decide +kernel)) j_r128_15 (by decide +kernel) h
def j_b128_16 : cBody := (6, 11, [(149, 9, 14944)], k_b128_0.2.2.2.1, [])
-- X11_pour i10 steps 102
theorem j_r128_16 : c_run (j_X j_K j_c128_16) j_K j_P j_c128_16 j_b128_16 4000 = true := by decide +kernel
theorem j_g128_16 {l : Launch} {D : va_G} {dA : Nat → ClassId} {AA : Nat → Prop} {d : Nat} (h : j_Hy l D dA AA d) : j_Go l D dA AA d j_c128_16 := j_goodX j_tabsOk (M := k_M128) rfl (k_bodyB_ok (by decide +kernel)) j_r128_16 (by decide +kernel) h
def j_b128_17 : cBody := (6, 11, [(149, 9, 14944)], k_b128_0.2.2.2.1, [])
-- X11_pour l10 steps 98
theorem j_r128_17 : c_run (j_X j_K j_c128_17) j_K j_P j_c128_17 j_b128_17 4000 = true := by decide +kernel
theorem j_g128_17 {l : Launch} {D : va_G} {dA : Nat → ClassId} {AA : Nat → Prop} {d : Nat} (h : j_Hy l D dA AA d) : j_Go l D dA AA d j_c128_17 := j_goodX j_tabsOk (M := k_M128) rfl (k_bodyB_ok (by decide +kernel)) j_r128_17 (by decide +kernel) h
def j_b128_18 : cBody := (6, 11, [(149, 9, 14944)], k_b128_0.2.2.2.1, [])
-- X11_pour g10 steps 102
theorem j_r128_18 : c_run (j_X j_K j_c128_18) j_K j_P j_c128_18 j_b128_18 4000 = true := by decide +kernel
theorem j_g128_18 {l : Launch} {D : va_G} {dA : Nat → ClassId} {AA : Nat → Prop} {d : Nat} (h : j_Hy l D dA AA d) : j_Go l D dA AA d j_c128_18 := j_goodX j_tabsOk (M := k_M128) rfl (k_bodyB_ok (by decide +kernel)) j_r128_18 (by decide +kernel) h
def j_b128_19 : cBody := (6, 11, [(149, 9, 14944)], k_b128_0.2.2.2.1, [])
-- X11_pour r10 steps 102
theorem j_r128_19 : c_run (j_X j_K j_c128_19) j_K j_P j_c128_19 j_b128_19 4000 = true := by decide +kernel
theorem j_g128_19 {l : Launch} {D : va_G} {dA : Nat → ClassId} {AA : Nat → Prop} {d : Nat} (h : j_Hy l D dA AA d) : j_Go l D dA AA d j_c128_19 := j_goodX j_tabsOk (M := k_M128) rfl (k_bodyB_ok (by decide +kernel)) j_r128_19 (by decide +kernel) h
def j_b128_20 : cBody := (6, 11, [(149, 9, 14944)], k_b128_0.2.2.2.1, [])
-- X11_pour i11 steps 102
theorem j_r128_20 : c_run (j_X j_K j_c128_20) j_K j_P j_c128_20 j_b128_20 4000 = true := by decide +kernel
theorem j_g128_20 {l : Launch} {D : va_G} {dA : Nat → ClassId} {AA : Nat → Prop} {d : Nat} (h : j_Hy l D dA AA d) : j_Go l D dA AA d j_c128_20 := j_goodX j_tabsOk (M := k_M128) rfl (k_bodyB_ok (by decide +kernel)) j_r128_20 (by decide +kernel) h
def j_b128_21 : cBody := (6, 11, [(149, 9, 14944)], k_b128_0.2.2.2.1, [])
-- X11_pour l11 steps 98
theorem j_r128_21 : c_run (j_X j_K j_c128_21) j_K j_P j_c128_21 j_b128_21 4000 = true := by decide +kernel
theorem j_g128_21 {l : Launch} {D : va_G} {dA : Nat → ClassId} {AA : Nat → Prop} {d : Nat} (h : j_Hy l D dA AA d) : j_Go l D dA AA d j_c128_21 := j_goodX j_tabsOk (M := k_M128) rfl (k_bodyB_ok (by decide +kernel)) j_r128_21 (by decide +kernel) h
def j_b128_22 : cBody := (6, 11, [(149, 9, 14944)], k_b128_0.2.2.2.1, [])
-- X11_pour g11 steps 102
theorem j_r128_22 : c_run (j_X j_K j_c128_22) j_K j_P j_c128_22 j_b128_22 4000 = true := by decide +kernel
theorem j_g128_22 {l : Launch} {D : va_G} {dA : Nat → ClassId} {AA : Nat → Prop} {d : Nat} (h : j_Hy l D dA AA d) : j_Go l D dA AA d j_c128_22 := j_goodX j_tabsOk (M := k_M128) rfl (k_bodyB_ok (by decide +kernel)) j_r128_22 (by decide +kernel) h
def j_b128_23 : cBody := (6, 11, [(149, 9, 14944)], k_b128_0.2.2.2.1, [])
-- X11_pour r11 steps 102
theorem j_r128_23 : c_run (j_X j_K j_c128_23) j_K j_P j_c128_23 j_b128_23 4000 = true := by decide +kernel
theorem j_g128_23 {l : Launch} {D : va_G} {dA : Nat → ClassId} {AA : Nat → Prop} {d : Nat} (h : j_Hy l D dA AA d) : j_Go l D dA AA d j_c128_23 := j_goodX j_tabsOk (M := k_M128) rfl (k_bodyB_ok (by decide +kernel)) j_r128_23 (by decide +kernel) h
def j_b128_24 : cBody := (6, 11, [(149, 9, 14944)], k_b128_0.2.2.2.1, [])
-- X11_pour i12 steps 102
theorem j_r128_24 : c_run (j_X j_K j_c128_24) j_K j_P j_c128_24 j_b128_24 4000 = true := by decide +kernel
theorem j_g128_24 {l : Launch} {D : va_G} {dA : Nat → ClassId} {AA : Nat → Prop} {d : Nat} (h : j_Hy l D dA AA d) : j_Go l D dA AA d j_c128_24 := j_goodX j_tabsOk (M := k_M128) rfl (k_bodyB_ok (by decide +kernel)) j_r128_24 (by decide +kernel) h
def j_b128_25 : cBody := (6, 11, [(149, 9, 14944)], k_b128_0.2.2.2.1, [])
-- X11_pour l12 steps 98
theorem j_r128_25 : c_run (j_X j_K j_c128_25) j_K j_P j_c128_25 j_b128_25 4000 = true := by decide +kernel
theorem j_g128_25 {l : Launch} {D : va_G} {dA : Nat → ClassId} {AA : Nat → Prop} {d : Nat} (h : j_Hy l D dA AA d) : j_Go l D dA AA d j_c128_25 := j_goodX j_tabsOk (M := k_M128) rfl (k_bodyB_ok (by decide +kernel)) j_r128_25 (by decide +kernel) h
def j_b128_26 : cBody := (6, 11, [(149, 9, 14944)], k_b128_0.2.2.2.1, [])
-- X11_pour g12 steps 102
theorem j_r128_26 : c_run (j_X j_K j_c128_26) j_K j_P j_c128_26 j_b128_26 4000 = true := by decide +kernel
theorem j_g128_26 {l : Launch} {D : va_G} {dA : Nat → ClassId} {AA : Nat → Prop} {d : Nat} (h : j_Hy l D dA AA d) : j_Go l D dA AA d j_c128_26 := j_goodX j_tabsOk (M := k_M128) rfl (k_bodyB_ok (by decide +kernel)) j_r128_26 (by decide +kernel) h
