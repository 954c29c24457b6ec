/-! third layer: kernel runs (printed by gen_t.py) -/
def t_b250_1 : cBody := (3, 12, [], k_b250_0.2.2.2.1, [])
-- X12_land L steps 13
theorem t_r250_1 : c_run c_X0 t_K t_P t_c250_1 t_b250_1 4000 = true := by decide +kernel
theorem t_g250_1 {l : Launch} {D : va_G} {dA : Nat → ClassId} {AA : Nat → Prop} {d : Nat} (h : t_Hy l D dA AA d) : t_Go l D dA AA d t_c250_1 := c_good_ok t_tabsOk (M := k_M250) rfl (k_bodyB_ok (by decide +kernel)) t_r250_1 h
def t_b250_2 : cBody := (3, 12, [], k_b250_0.2.2.2.1, [])
-- X12_land H steps 13
theorem t_r250_2 : c_run c_X0 t_K t_P t_c250_2 t_b250_2 4000 = true := by decide +kernel
theorem t_g250_2 {l : Launch} {D : va_G} {dA : Nat → ClassId} {AA : Nat → Prop} {d : Nat} (h : t_Hy l D dA AA d) : t_Go l D dA AA d t_c250_2 := c_good_ok t_tabsOk (M := k_M250) rfl (k_bodyB_ok (by decide +kernel)) t_r250_2 h
def t_b238_0 : cBody := (3, 12, [], k_b238_0.2.2.2.1, [])
-- X12_opens H steps 10
theorem t_r238_0 : c_run c_X0 t_K t_P t_c238_0 t_b238_0 4000 = true := by decide +kernel
theorem t_g238_0 {l : Launch} {D : va_G} {dA : Nat → ClassId} {AA : Nat → Prop} {d : Nat} (h : t_Hy l D dA AA d) : t_Go l D dA AA d t_c238_0 := c_good_ok t_tabsOk (M := k_M238) rfl (k_bodyB_ok (by decide +kernel)) t_r238_0 h
def t_b238_1 : cBody := (3, 12, [], k_b238_0.2.2.2.1, [])
-- X12_opens L steps 6
theorem t_r238_1 : c_run c_X0 t_K t_P t_c238_1 t_b238_1 4000 = true := by decide +kernel
theorem t_g238_1 {l : Launch} {D : va_G} {dA : Nat → ClassId} {AA : Nat → Prop} {d : Nat} (h : t_Hy l D dA AA d) : t_Go l D dA AA d t_c238_1 := c_good_ok t_tabsOk (M := k_M238) rfl (k_bodyB_ok (by decide +kernel)) t_r238_1 h
def t_t238_2 : t_Tb := [(43, [(3, 336, [(0, [])]), (0, 24, []), (0, 51, [])], 0)]
def t_b238_2 : cBody := (3, 12, [(43, 9, 43)], k_b238_0.2.2.2.1, [])
-- X12_opens ok steps 25
theorem t_r238_2 : c_run (t_X t_Uu t_K t_P t_c238_2 t_b238_2 t_t238_2) t_K t_P t_c238_2 t_b238_2 4000 = true := by decide +kernel
theorem t_g238_2 {l : Launch} {D : va_G} {dA : Nat → ClassId} {AA : Nat → Prop} {d : Nat} (h : t_Hy l D dA AA d) : t_Go l D dA AA d t_c238_2 := t_gd (M := k_M238) rfl (by decide +kernel) t_r238_2 (by decide +kernel) h
def t_t237_0 : t_Tb := [(19, [], 2), (20, [], 3), (21, [], 1), (22, [(3, 349, [(1, [((2, 1, 8), 1)]), (0, [((1, 5, 0), 1)])])], 0)]
def t_b237_0 : cBody := (3, 12, [(19, 9, 19), (20, 9, 20), (21, 9, 21), (22, 9, 22)], k_b237_0.2.2.2.1, [])
-- X12_lay None steps 89
theorem t_r237_0 : c_run (t_X t_Uu t_K t_P t_c237_0 t_b237_0 t_t237_0) t_K t_P t_c237_0 t_b237_0 4000 = true := by decide +kernel
theorem t_g237_0 {l : Launch} {D : va_G} {dA : Nat → ClassId} {AA : Nat → Prop} {d : Nat} (h : t_Hy l D dA AA d) : t_Go l D dA AA d t_c237_0 := t_gd (M := k_M237) rfl (by decide +kernel) t_r237_0 (by decide +kernel) h
def t_t130_0 : t_Tb := [(27, [], 2), (28, [], 3), (29, [], 1), (30, [(3, 347, [(1, [((2, 1, 7), 1)]), (0, [((1, 5, 0), 1)])])], 0)]
def t_b130_0 : cBody := (3, 11, [(27, 9, 27), (28, 9, 28), (29, 9, 29), (30, 9, 30)], k_b130_0.2.2.2.1, [])
-- X11_feedBytes None steps 97
theorem t_r130_0 : c_run (t_X t_Uu t_K t_P t_c130_0 t_b130_0 t_t130_0) t_K t_P t_c130_0 t_b130_0 4000 = true := by decide +kernel
theorem t_g130_0 {l : Launch} {D : va_G} {dA : Nat → ClassId} {AA : Nat → Prop} {d : Nat} (h : t_Hy l D dA AA d) : t_Go l D dA AA d t_c130_0 := t_gd (M := k_M130) rfl (by decide +kernel) t_r130_0 (by decide +kernel) h
def t_b120_0 : cBody := (6, 11, [], k_b120_0.2.2.2.1, [])
-- X11_isWithin None steps 15
theorem t_r120_0 : c_run c_X0 t_K t_P t_c120_0 t_b120_0 4000 = true := by decide +kernel
theorem t_g120_0 {l : Launch} {D : va_G} {dA : Nat → ClassId} {AA : Nat → Prop} {d : Nat} (h : t_Hy l D dA AA d) : t_Go l D dA AA d t_c120_0 := c_good_ok t_tabsOk (M := k_M120) rfl (k_bodyB_ok (by decide +kernel)) t_r120_0 h
