/-! third layer: kernel runs (printed by gen_t.py) -/
def t_t132_0 : t_Tb := [(25, [(0, 51, [])], 0)]
def t_b132_0 : cBody := (3, 11, [(25, 9, 25)], k_b132_0.2.2.2.1, [])
-- X11_land ok steps 63
theorem t_r132_0 : c_run (t_X t_Uu t_K t_P t_c132_0 t_b132_0 t_t132_0) t_K t_P t_c132_0 t_b132_0 4000 = true := by decide +kernel
theorem t_g132_0 {l : Launch} {D : va_G} {dA : Nat → ClassId} {AA : Nat → Prop} {d : Nat} (h : t_Hy l D dA AA d) : t_Go l D dA AA d t_c132_0 := t_gd (M := k_M132) rfl (by decide +kernel) t_r132_0 (by decide +kernel) h
def t_b132_1 : cBody := (3, 11, [], k_b132_0.2.2.2.1, [])
-- X11_land L steps 12
theorem t_r132_1 : c_run c_X0 t_K t_P t_c132_1 t_b132_1 4000 = true := by decide +kernel
theorem t_g132_1 {l : Launch} {D : va_G} {dA : Nat → ClassId} {AA : Nat → Prop} {d : Nat} (h : t_Hy l D dA AA d) : t_Go l D dA AA d t_c132_1 := c_good_ok t_tabsOk (M := k_M132) rfl (k_bodyB_ok (by decide +kernel)) t_r132_1 h
def t_b132_2 : cBody := (3, 11, [], k_b132_0.2.2.2.1, [])
-- X11_land H steps 12
theorem t_r132_2 : c_run c_X0 t_K t_P t_c132_2 t_b132_2 4000 = true := by decide +kernel
theorem t_g132_2 {l : Launch} {D : va_G} {dA : Nat → ClassId} {AA : Nat → Prop} {d : Nat} (h : t_Hy l D dA AA d) : t_Go l D dA AA d t_c132_2 := c_good_ok t_tabsOk (M := k_M132) rfl (k_bodyB_ok (by decide +kernel)) t_r132_2 h
def t_t129_0 : t_Tb := [(17, [(8, 7, [(0, [((1, 1, 0), 1)]), (4, [((1, 8, 0), 1)])])], 0), (22, [(8, 7, [(0, [((1, 1, 0), 1)]), (8, [((1, 8, 0), 1)])])], 0), (27, [(8, 7, [(0, [((1, 1, 0), 1)]), (12, [((1, 8, 0), 1)])])], 0), (33, [(8, 7, [(0, [((1, 1, 0), 1)]), (16, [((1, 8, 0), 1)])])], 0)]
def t_b129_0 : cBody := (6, 11, [(17, 9, 17), (22, 9, 22), (27, 9, 27), (33, 9, 33)], k_b129_0.2.2.2.1, [])
-- X11_feed ok steps 22
theorem t_r129_0 : c_run (t_X t_Uu t_K t_P t_c129_0 t_b129_0 t_t129_0) t_K t_P t_c129_0 t_b129_0 4000 = true := by decide +kernel
theorem t_g129_0 {l : Launch} {D : va_G} {dA : Nat → ClassId} {AA : Nat → Prop} {d : Nat} (h : t_Hy l D dA AA d) : t_Go l D dA AA d t_c129_0 := t_gd (M := k_M129) rfl (by decide +kernel) t_r129_0 (by decide +kernel) h
def t_b129_1 : cBody := (6, 11, [], k_b129_0.2.2.2.1, [])
-- X11_feed H steps 6
theorem t_r129_1 : c_run c_X0 t_K t_P t_c129_1 t_b129_1 4000 = true := by decide +kernel
theorem t_g129_1 {l : Launch} {D : va_G} {dA : Nat → ClassId} {AA : Nat → Prop} {d : Nat} (h : t_Hy l D dA AA d) : t_Go l D dA AA d t_c129_1 := c_good_ok t_tabsOk (M := k_M129) rfl (k_bodyB_ok (by decide +kernel)) t_r129_1 h
def t_t236_0 : t_Tb := [(25, [(8, 8, [(0, [((1, 1, 0), 1)]), (4, [((1, 8, 0), 1)])])], 0), (30, [(8, 8, [(0, [((1, 1, 0), 1)]), (8, [((1, 8, 0), 1)])])], 0), (35, [(8, 8, [(0, [((1, 1, 0), 1)]), (12, [((1, 8, 0), 1)])])], 0), (41, [(8, 8, [(0, [((1, 1, 0), 1)]), (16, [((1, 8, 0), 1)])])], 0)]
def t_b236_0 : cBody := (6, 12, [(25, 9, 25), (30, 9, 30), (35, 9, 35), (41, 9, 41)], k_b236_0.2.2.2.1, [])
-- X12_feed ok steps 27
theorem t_r236_0 : c_run (t_X t_Uu t_K t_P t_c236_0 t_b236_0 t_t236_0) t_K t_P t_c236_0 t_b236_0 4000 = true := by decide +kernel
theorem t_g236_0 {l : Launch} {D : va_G} {dA : Nat → ClassId} {AA : Nat → Prop} {d : Nat} (h : t_Hy l D dA AA d) : t_Go l D dA AA d t_c236_0 := t_gd (M := k_M236) rfl (by decide +kernel) t_r236_0 (by decide +kernel) h
def t_b236_1 : cBody := (6, 12, [], k_b236_0.2.2.2.1, [])
-- X12_feed H steps 11
theorem t_r236_1 : c_run c_X0 t_K t_P t_c236_1 t_b236_1 4000 = true := by decide +kernel
theorem t_g236_1 {l : Launch} {D : va_G} {dA : Nat → ClassId} {AA : Nat → Prop} {d : Nat} (h : t_Hy l D dA AA d) : t_Go l D dA AA d t_c236_1 := c_good_ok t_tabsOk (M := k_M236) rfl (k_bodyB_ok (by decide +kernel)) t_r236_1 h
