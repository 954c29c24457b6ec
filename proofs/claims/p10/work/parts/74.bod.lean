/-! every contract is met, if those of less depth are -/
theorem k_g25_0 {l : Launch} {D : va_G} {dA : Nat → ClassId} {AA : Nat → Prop} {d : Nat} (h : k_Hy l D dA AA d) : k_Go l D dA AA d k_c25_0 := c_good_ok k_tabsOk (M := k_M25) rfl (k_bodyB_ok (by decide +kernel)) k_r25_0 h
theorem k_g26_0 {l : Launch} {D : va_G} {dA : Nat → ClassId} {AA : Nat → Prop} {d : Nat} (h : k_Hy l D dA AA d) : k_Go l D dA AA d k_c26_0 := c_good_ok k_tabsOk (M := k_M26) rfl (k_bodyB_ok (by decide +kernel)) k_r26_0 h
theorem k_g27_0 {l : Launch} {D : va_G} {dA : Nat → ClassId} {AA : Nat → Prop} {d : Nat} (h : k_Hy l D dA AA d) : k_Go l D dA AA d k_c27_0 := c_good_ok k_tabsOk (M := k_M27) rfl (k_bodyB_ok (by decide +kernel)) k_r27_0 h
theorem k_g24_0 {l : Launch} {D : va_G} {dA : Nat → ClassId} {AA : Nat → Prop} {d : Nat} (h : k_Hy l D dA AA d) : k_Go l D dA AA d k_c24_0 := c_good_ok k_tabsOk (M := k_M24) rfl (k_bodyB_ok (by decide +kernel)) k_r24_0 h
