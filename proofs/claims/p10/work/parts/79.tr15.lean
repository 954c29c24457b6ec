/-! third layer: kernel runs (printed by gen_t.py) -/
def t_b57_2 : cBody := (1, 4, [], k_b57_0.2.2.2.1, [])
-- X4_skip f steps 8
theorem t_r57_2 : c_run c_X0 t_K t_P t_c57_2 t_b57_2 4000 = true := by decide +kernel
theorem t_g57_2 {l : Launch} {D : va_G} {dA : Nat → ClassId} {AA : Nat → Prop} {d : Nat} (h : t_Hy l D dA AA d) : t_Go l D dA AA d t_c57_2 := c_good_ok t_tabsOk (M := k_M57) rfl (k_bodyB_ok (by decide +kernel)) t_r57_2 h
def t_t22_0 : t_Tb := [(20, [(2, 9, [(0, [((4, 1, 0), 1)]), (0, [((4, 0, 0), 1)])])], 0), (22, [(1, 0, [(0, [((4, 1, 0), 1), ((4, 0, 0), (-1))])]), (4, 126, [(0, [((1, 4, 0), 1)]), (0, [((0, 2, 0), 1)]), (0, [((1, 7, 0), 1)]), (0, [((1, 2, 0), 1)])]), (4, 127, [(0, [((1, 4, 0), 1)]), (0, [((0, 2, 0), 1)]), (0, [((1, 7, 0), 1)]), (0, [((1, 2, 0), 1)])]), (4, 128, [(0, [((1, 4, 0), 1)]), (0, [((0, 2, 0), 1)]), (0, [((1, 7, 0), 1)]), (0, [((1, 2, 0), 1)])])], 0), (33, [(4, 125, [(0, [((0, 2, 0), 1)]), (0, [((1, 7, 0), 1)]), (0, [((1, 2, 0), 1)])])], 0)]
def t_b22_0 : cBody := (3, 2, [(20, 9, 20), (22, 9, 22), (33, 9, 33)], k_b22_0.2.2.2.1, [(2, (13, [(2, 0, 5), (3, 0, 0), (4, 0, 650), (6, 0, 1099511627776), (7, 0, 3), (8, 0, 3), (9, 0, 3), (10, (-1099511627776), 1099511627776), (11, 0, 3), (12, (-1099511627776), 1099511627776)], [(1, 3), (5, 3)], [(1, 3), (5, 22)], [(0, [(5, 1), (6, (-1))]), (0, [(5, (-1)), (6, 1)]), (0, [(7, 1), (8, (-1))]), (0, [(7, (-1)), (8, 1)]), (0, [(7, 1), (9, (-1))]), (0, [(7, (-1)), (9, 1)]), (0, [(10, (-1)), (12, 1)]), (0, [(10, 1), (12, (-1))])], [(0, (2, (0, [(1, 1)]))), (1, (0, (0, [(2, 1)]))), (2, (0, (0, [(11, 1)])))], [], [(0, (1, []), (1, (0, [(3, 1)]))), (0, (331, []), (1, (0, [(4, 1)]))), (1, (3, []), (2, (0, [(5, 1)]))), (0, (338, []), (1, (0, [(6, 1)]))), (1, (12, []), (0, (0, [(7, 1)]))), (0, (335, []), (1, (0, [(8, 1)]))), (0, (29014219670751100192948224, [(4, 1)]), (1, (0, [(9, 1)]))), (0, (38685626227668133590597632, [(2, 1073741824), (7, 1024)]), (1, (0, [(10, 1)]))), (0, (38685626227668133590597632, [(2, 1073741824), (7, 1024), (11, 1)]), (1, (0, [(12, 1)])))], 0, 0), (3, [(11, (-1))]))])
-- X2_boatTo None steps 26
theorem t_r22_0 : c_run (t_X t_Uu t_K t_P t_c22_0 t_b22_0 t_t22_0) t_K t_P t_c22_0 t_b22_0 4000 = true := by decide +kernel
theorem t_g22_0 {l : Launch} {D : va_G} {dA : Nat → ClassId} {AA : Nat → Prop} {d : Nat} (h : t_Hy l D dA AA d) : t_Go l D dA AA d t_c22_0 := t_gd (M := k_M22) rfl (by decide +kernel) t_r22_0 (by decide +kernel) h
def t_t52_0 : t_Tb := [(5, [(1, 0, [(0, [((4, 1, 0), 1), ((4, 0, 0), (-1))])])], 0)]
def t_b52_0 : cBody := (1, 4, [(5, 9, 5)], k_b52_0.2.2.2.1, [])
-- X4_isNumber None steps 11
theorem t_r52_0 : c_run (t_X t_Uu t_K t_P t_c52_0 t_b52_0 t_t52_0) t_K t_P t_c52_0 t_b52_0 4000 = true := by decide +kernel
theorem t_g52_0 {l : Launch} {D : va_G} {dA : Nat → ClassId} {AA : Nat → Prop} {d : Nat} (h : t_Hy l D dA AA d) : t_Go l D dA AA d t_c52_0 := t_gd (M := k_M52) rfl (by decide +kernel) t_r52_0 (by decide +kernel) h
def t_t244_0 : t_Tb := [(13, [], 1), (27, [], 1)]
def t_b244_0 : cBody := (3, 12, [(13, 9, 13), (27, 9, 27)], k_b244_0.2.2.2.1, [])
-- X12_code None steps 23
theorem t_r244_0 : c_run (t_X t_Uu t_K t_P t_c244_0 t_b244_0 t_t244_0) t_K t_P t_c244_0 t_b244_0 4000 = true := by decide +kernel
theorem t_g244_0 {l : Launch} {D : va_G} {dA : Nat → ClassId} {AA : Nat → Prop} {d : Nat} (h : t_Hy l D dA AA d) : t_Go l D dA AA d t_c244_0 := t_gd (M := k_M244) rfl (by decide +kernel) t_r244_0 (by decide +kernel) h
def t_t19_2 : t_Tb := [(0, [(0, 124, [(0, [((1, 2, 0), 1)]), (0, [((1, 3, 0), 1)])])], 0), (19, [(2, 8, [(0, [((4, 1, 0), 1)]), (0, [((4, 0, 0), 1)])])], 0), (22, [(1, 0, [(0, [((4, 0, 0), 1)])]), (4, 121, [(0, [((1, 7, 0), 1)]), (0, [((0, 4, 0), 1)]), (0, [((1, 2, 0), 1)]), (0, [((1, 3, 0), 1)])]), (4, 122, [(0, [((1, 7, 0), 1)]), (0, [((0, 4, 0), 1)]), (0, [((1, 2, 0), 1)]), (0, [((1, 3, 0), 1)])]), (4, 123, [(0, [((1, 7, 0), 1)]), (0, [((0, 4, 0), 1)]), (0, [((1, 2, 0), 1)]), (0, [((1, 3, 0), 1)])])], 0), (34, [(4, 120, [(0, [((0, 4, 0), 1)]), (0, [((1, 2, 0), 1)]), (0, [((1, 3, 0), 1)])])], 0)]
def t_b19_2 : cBody := (5, 2, [(0, 9, 0), (19, 9, 19), (22, 9, 22), (34, 9, 34)], k_b19_0.2.2.2.1, [(3, (12, [(2, 0, 4), (3, 0, 1099511627775), (4, 0, 0), (5, 0, 1099511627776), (6, 0, 4), (7, 0, 650), (8, 0, 4), (9, (-1), 3), (10, 0, 4), (11, (-1099511627776), 1099511627776)], [(1, 3)], [(1, 21)], [(0, [(1, 1), (5, (-1))]), (0, [(1, (-1)), (5, 1)]), (0, [(2, 1), (6, (-1))]), (0, [(2, (-1)), (6, 1)]), (0, [(2, (-1)), (8, 1)]), (0, [(2, 1), (8, (-1))]), ((-1), [(2, 1), (9, (-1))]), (0, [(9, (-1)), (11, 1)]), (0, [(9, 1), (11, (-1))])], [(0, (2, (0, [(1, 1)]))), (1, (0, (0, [(2, 1)]))), (2, (1, (0, [(3, 1)]))), (4, (0, (0, [(10, 1)])))], [], [(0, (1, []), (1, (0, [(4, 1)]))), (0, (329, []), (1, (0, [(5, 1)]))), (0, (334, []), (1, (0, [(6, 1)]))), (0, (331, []), (1, (0, [(7, 1)]))), (0, (27805293851136471018242048, [(7, 1)]), (1, (0, [(8, 1)]))), (0, (37476700408053504415891456, [(2, 1024), (3, 1073741824)]), (1, (0, [(9, 1)]))), (0, (37476700408053504415891456, [(2, 1024), (3, 1073741824), (10, 1)]), (1, (0, [(11, 1)])))], 0, 0), (4, [(10, (-1))]))])
-- X2_placeOf l steps 26
theorem t_r19_2 : c_run (t_X t_Uu t_K t_P t_c19_2 t_b19_2 t_t19_2) t_K t_P t_c19_2 t_b19_2 4000 = true := by decide +kernel
theorem t_g19_2 {l : Launch} {D : va_G} {dA : Nat → ClassId} {AA : Nat → Prop} {d : Nat} (h : t_Hy l D dA AA d) : t_Go l D dA AA d t_c19_2 := t_gd (M := k_M19) rfl (by decide +kernel) t_r19_2 (by decide +kernel) h
def t_b60_0 : cBody := (4, 4, [], k_b60_0.2.2.2.1, [])
-- X4_numberWithin f steps 13
theorem t_r60_0 : c_run c_X0 t_K t_P t_c60_0 t_b60_0 4000 = true := by decide +kernel
theorem t_g60_0 {l : Launch} {D : va_G} {dA : Nat → ClassId} {AA : Nat → Prop} {d : Nat} (h : t_Hy l D dA AA d) : t_Go l D dA AA d t_c60_0 := c_good_ok t_tabsOk (M := k_M60) rfl (k_bodyB_ok (by decide +kernel)) t_r60_0 h
def t_t60_1 : t_Tb := [(4, [(0, 48, [(0, [((1, 5, 0), 1)])]), (1, 0, [((-2), [((1, 6, 0), 1)])]), (4, 53, [(0, [((1, 5, 0), 1)])])], 0), (14, [(4, 69, [(0, [((1, 5, 0), 1)])]), (4, 70, [(0, [((1, 5, 0), 1)])])], 0), (31, [(0, 71, [(0, [((1, 5, 0), 1)])])], 0), (38, [(0, 68, [(0, [((1, 5, 0), 1)])])], 0)]
def t_b60_1 : cBody := (4, 4, [(4, 9, 4), (14, 9, 14), (31, 9, 31), (38, 9, 38)], k_b60_0.2.2.2.1, [])
-- X4_numberWithin ok steps 43
theorem t_r60_1 : c_run (t_X t_Uu t_K t_P t_c60_1 t_b60_1 t_t60_1) t_K t_P t_c60_1 t_b60_1 4000 = true := by decide +kernel
theorem t_g60_1 {l : Launch} {D : va_G} {dA : Nat → ClassId} {AA : Nat → Prop} {d : Nat} (h : t_Hy l D dA AA d) : t_Go l D dA AA d t_c60_1 := t_gd (M := k_M60) rfl (by decide +kernel) t_r60_1 (by decide +kernel) h
def t_b58_1 : cBody := (2, 4, [], k_b58_0.2.2.2.1, [])
-- X4_fail f steps 4
theorem t_r58_1 : c_run c_X0 t_K t_P t_c58_1 t_b58_1 4000 = true := by decide +kernel
theorem t_g58_1 {l : Launch} {D : va_G} {dA : Nat → ClassId} {AA : Nat → Prop} {d : Nat} (h : t_Hy l D dA AA d) : t_Go l D dA AA d t_c58_1 := c_good_ok t_tabsOk (M := k_M58) rfl (k_bodyB_ok (by decide +kernel)) t_r58_1 h
def t_b24_0 : cBody := (2, 2, [], k_b24_0.2.2.2.1, [])
-- X2_emit None steps 19
theorem t_r24_0 : c_run c_X0 t_K t_P t_c24_0 t_b24_0 4000 = true := by decide +kernel
theorem t_g24_0 {l : Launch} {D : va_G} {dA : Nat → ClassId} {AA : Nat → Prop} {d : Nat} (h : t_Hy l D dA AA d) : t_Go l D dA AA d t_c24_0 := c_good_ok t_tabsOk (M := k_M24) rfl (k_bodyB_ok (by decide +kernel)) t_r24_0 h
def t_b59_1 : cBody := (2, 4, [], k_b59_0.2.2.2.1, [])
-- X4_need f steps 18
theorem t_r59_1 : c_run c_X0 t_K t_P t_c59_1 t_b59_1 4000 = true := by decide +kernel
theorem t_g59_1 {l : Launch} {D : va_G} {dA : Nat → ClassId} {AA : Nat → Prop} {d : Nat} (h : t_Hy l D dA AA d) : t_Go l D dA AA d t_c59_1 := c_good_ok t_tabsOk (M := k_M59) rfl (k_bodyB_ok (by decide +kernel)) t_r59_1 h
