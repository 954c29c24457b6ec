/-! third layer: kernel runs (printed by gen_t.py) -/
def t_b205_0 : cBody := (2, 12, [], k_b205_0.2.2.2.1, [])
-- X12_no None steps 5
theorem t_r205_0 : c_run c_X0 t_K t_P t_c205_0 t_b205_0 4000 = true := by decide +kernel
theorem t_g205_0 {l : Launch} {D : va_G} {dA : Nat → ClassId} {AA : Nat → Prop} {d : Nat} (h : t_Hy l D dA AA d) : t_Go l D dA AA d t_c205_0 := c_good_ok t_tabsOk (M := k_M205) rfl (k_bodyB_ok (by decide +kernel)) t_r205_0 h
def t_b239_0 : cBody := (1, 12, [], k_b239_0.2.2.2.1, [])
-- X12_isWell None steps 29
theorem t_r239_0 : c_run c_X0 t_K t_P t_c239_0 t_b239_0 4000 = true := by decide +kernel
theorem t_g239_0 {l : Launch} {D : va_G} {dA : Nat → ClassId} {AA : Nat → Prop} {d : Nat} (h : t_Hy l D dA AA d) : t_Go l D dA AA d t_c239_0 := c_good_ok t_tabsOk (M := k_M239) rfl (k_bodyB_ok (by decide +kernel)) t_r239_0 h
def t_t226_0 : t_Tb := [(0, [(0, 51, []), (0, 52, [(700, []), (0, [((1, 3, 0), 1)])]), (0, 48, [((-1), [((1, 3, 0), 1)])]), (1, 0, [((-1), [((1, 4, 0), 1)])]), (1, 0, [(0, [((1, 17, 0), 1)])]), (4, 176, [((-1), [((1, 3, 0), 1)])]), (4, 177, [((-1), [((1, 3, 0), 1)])])], 0), (17, [(4, 182, [((-1), [((1, 3, 0), 1)])]), (4, 183, [((-1), [((1, 3, 0), 1)])]), (4, 184, [((-1), [((1, 3, 0), 1)])]), (4, 185, [((-1), [((1, 3, 0), 1)])]), (4, 186, [((-1), [((1, 3, 0), 1)])])], 0)]
def t_b226_0 : cBody := (1, 12, [(0, 9, 0), (17, 9, 17)], k_b226_0.2.2.2.1, [])
-- X12_isTownWord None steps 65
theorem t_r226_0 : c_run (t_X t_Uu t_K t_P t_c226_0 t_b226_0 t_t226_0) t_K t_P t_c226_0 t_b226_0 4000 = true := by decide +kernel
theorem t_g226_0 {l : Launch} {D : va_G} {dA : Nat → ClassId} {AA : Nat → Prop} {d : Nat} (h : t_Hy l D dA AA d) : t_Go l D dA AA d t_c226_0 := t_gd (M := k_M226) rfl (by decide +kernel) t_r226_0 (by decide +kernel) h
def t_b116_0 : cBody := (2, 11, [], k_b116_0.2.2.2.1, [])
-- X11_none None steps 5
theorem t_r116_0 : c_run c_X0 t_K t_P t_c116_0 t_b116_0 4000 = true := by decide +kernel
theorem t_g116_0 {l : Launch} {D : va_G} {dA : Nat → ClassId} {AA : Nat → Prop} {d : Nat} (h : t_Hy l D dA AA d) : t_Go l D dA AA d t_c116_0 := c_good_ok t_tabsOk (M := k_M116) rfl (k_bodyB_ok (by decide +kernel)) t_r116_0 h
def t_b131_0 : cBody := (2, 11, [], k_b131_0.2.2.2.1, [])
-- X11_scanTape None steps 10
theorem t_r131_0 : c_run c_X0 t_K t_P t_c131_0 t_b131_0 4000 = true := by decide +kernel
theorem t_g131_0 {l : Launch} {D : va_G} {dA : Nat → ClassId} {AA : Nat → Prop} {d : Nat} (h : t_Hy l D dA AA d) : t_Go l D dA AA d t_c131_0 := c_good_ok t_tabsOk (M := k_M131) rfl (k_bodyB_ok (by decide +kernel)) t_r131_0 h
