/-! third layer: kernel runs (printed by gen_t.py) -/
def t_t249_0 : t_Tb := [(27, [], 1), (51, [], 1), (61, [], 1), (70, [], 1), (79, [], 1), (89, [], 1), (100, [], 1), (110, [], 1)]
def t_b249_0 : cBody := (3, 12, [(27, 9, 27), (51, 9, 51), (61, 9, 61), (70, 9, 70), (79, 9, 79), (89, 9, 89), (100, 9, 100), (110, 9, 110)], k_b249_0.2.2.2.1, [])
-- X12_firstSight None steps 81
theorem t_r249_0 : c_run (t_X t_Uu t_K t_P t_c249_0 t_b249_0 t_t249_0) t_K t_P t_c249_0 t_b249_0 4000 = true := by decide +kernel
theorem t_g249_0 {l : Launch} {D : va_G} {dA : Nat → ClassId} {AA : Nat → Prop} {d : Nat} (h : t_Hy l D dA AA d) : t_Go l D dA AA d t_c249_0 := t_gd (M := k_M249) rfl (by decide +kernel) t_r249_0 (by decide +kernel) h
def t_t51_0 : t_Tb := [(4, [(1, 0, [(0, [((4, 0, 0), 1)])])], 0)]
def t_b51_0 : cBody := (1, 4, [(4, 9, 4)], k_b51_0.2.2.2.1, [])
-- X4_atEnd None steps 10
theorem t_r51_0 : c_run (t_X t_Uu t_K t_P t_c51_0 t_b51_0 t_t51_0) t_K t_P t_c51_0 t_b51_0 4000 = true := by decide +kernel
theorem t_g51_0 {l : Launch} {D : va_G} {dA : Nat → ClassId} {AA : Nat → Prop} {d : Nat} (h : t_Hy l D dA AA d) : t_Go l D dA AA d t_c51_0 := t_gd (M := k_M51) rfl (by decide +kernel) t_r51_0 (by decide +kernel) h
def t_t231_0 : t_Tb := [(0, [(0, 51, []), (0, 52, [(700, []), (0, [((1, 3, 0), 1)])]), (0, 48, [((-1), [((1, 3, 0), 1)])]), (1, 0, [((-1), [((1, 4, 0), 1)])]), (1, 0, [(0, [((1, 17, 0), 1)])]), (4, 176, [((-1), [((1, 3, 0), 1)])]), (4, 177, [((-1), [((1, 3, 0), 1)])])], 0), (5, [(1, 0, [(0, [((4, 1, 0), 1), ((4, 0, 0), (-1))])])], 0), (28, [(1, 0, [(0, [((4, 0, 0), 1)])])], 0), (35, [(1, 0, [(0, [((4, 0, 0), 1)])])], 0), (38, [(0, 238, [((-1), [((1, 3, 0), 1)])])], 0), (42, [(4, 59, [((-1), [((1, 3, 0), 1)])]), (4, 60, [((-1), [((1, 3, 0), 1)])]), (4, 61, [((-1), [((1, 3, 0), 1)])]), (4, 239, [((-1), [((1, 3, 0), 1)])]), (4, 240, [((-1), [((1, 3, 0), 1)])]), (4, 241, [((-1), [((1, 3, 0), 1)])])], 0)]
def t_b231_0 : cBody := (1, 12, [(0, 9, 0), (5, 9, 5), (28, 9, 28), (35, 9, 35), (38, 9, 38), (42, 9, 42)], k_b231_0.2.2.2.1, [])
-- X12_isLandName None steps 56
theorem t_r231_0 : c_run (t_X t_Uu t_K t_P t_c231_0 t_b231_0 t_t231_0) t_K t_P t_c231_0 t_b231_0 4000 = true := by decide +kernel
theorem t_g231_0 {l : Launch} {D : va_G} {dA : Nat → ClassId} {AA : Nat → Prop} {d : Nat} (h : t_Hy l D dA AA d) : t_Go l D dA AA d t_c231_0 := t_gd (M := k_M231) rfl (by decide +kernel) t_r231_0 (by decide +kernel) h
def t_b232_0 : cBody := (3, 12, [], k_b232_0.2.2.2.1, [])
-- X12_fail None steps 11
theorem t_r232_0 : c_run c_X0 t_K t_P t_c232_0 t_b232_0 4000 = true := by decide +kernel
theorem t_g232_0 {l : Launch} {D : va_G} {dA : Nat → ClassId} {AA : Nat → Prop} {d : Nat} (h : t_Hy l D dA AA d) : t_Go l D dA AA d t_c232_0 := c_good_ok t_tabsOk (M := k_M232) rfl (k_bodyB_ok (by decide +kernel)) t_r232_0 h
def t_b44_0 : cBody := (1, 4, [], k_b44_0.2.2.2.1, [])
-- X4_isLetter None steps 13
theorem t_r44_0 : c_run c_X0 t_K t_P t_c44_0 t_b44_0 4000 = true := by decide +kernel
theorem t_g44_0 {l : Launch} {D : va_G} {dA : Nat → ClassId} {AA : Nat → Prop} {d : Nat} (h : t_Hy l D dA AA d) : t_Go l D dA AA d t_c44_0 := c_good_ok t_tabsOk (M := k_M44) rfl (k_bodyB_ok (by decide +kernel)) t_r44_0 h
def t_t47_0 : t_Tb := [(20, [], 1), (31, [], 1), (41, [], 1), (52, [(1, 0, [((-1), [((1, 2, 0), 1)])])], 0), (64, [(4, 47, [(0, [((1, 4, 0), 1)])]), (4, 40, [(0, [((1, 17, 0), 1)]), (0, [((1, 4, 0), 1)])]), (4, 41, [(0, [((1, 17, 0), 1)])]), (4, 42, [(0, [((1, 17, 0), 1)])])], 0), (65, [], 1), (73, [(3, 320, [(0, [((4, 0, 0), 1)]), (0, [((1, 6, 0), 1)]), (0, [((1, 8, 0), 1)]), (0, [((1, 10, 0), 1)]), (0, [((1, 12, 0), 1)])])], 0)]
def t_b47_0 : cBody := (5, 4, [(20, 9, 20), (31, 9, 31), (41, 9, 41), (52, 9, 52), (64, 9, 64), (65, 9, 65), (73, 9, 73)], k_b47_0.2.2.2.1, [])
-- X4_put None steps 64
theorem t_r47_0 : c_run (t_X t_Uu t_K t_P t_c47_0 t_b47_0 t_t47_0) t_K t_P t_c47_0 t_b47_0 4000 = true := by decide +kernel
theorem t_g47_0 {l : Launch} {D : va_G} {dA : Nat → ClassId} {AA : Nat → Prop} {d : Nat} (h : t_Hy l D dA AA d) : t_Go l D dA AA d t_c47_0 := t_gd (M := k_M47) rfl (by decide +kernel) t_r47_0 (by decide +kernel) h
