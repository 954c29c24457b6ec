/-! second layer: kernel runs (printed by gen_j.py) -/
def j_b128_27 : cBody := (6, 11, [(149, 9, 14944)], k_b128_0.2.2.2.1, [])
-- X11_pour r12 steps 102
theorem j_r128_27 : c_run (j_X j_K j_c128_27) j_K j_P j_c128_27 j_b128_27 4000 = true := by decide +kernel
theorem j_g128_27 {l : Launch} {D : va_G} {dA : Nat → ClassId} {AA : Nat → Prop} {d : Nat} (h : j_Hy l D dA AA d) : j_Go l D dA AA d j_c128_27 := j_goodX j_tabsOk (M := k_M128) rfl (k_bodyB_ok (by decide +kernel)) j_r128_27 (by decide +kernel) h
def j_b128_28 : cBody := (6, 11, [(149, 9, 14944)], k_b128_0.2.2.2.1, [])
-- X11_pour i13 steps 102
theorem j_r128_28 : c_run (j_X j_K j_c128_28) j_K j_P j_c128_28 j_b128_28 4000 = true := by decide +kernel
theorem j_g128_28 {l : Launch} {D : va_G} {dA : Nat → ClassId} {AA : Nat → Prop} {d : Nat} (h : j_Hy l D dA AA d) : j_Go l D dA AA d j_c128_28 := j_goodX j_tabsOk (M := k_M128) rfl (k_bodyB_ok (by decide +kernel)) j_r128_28 (by decide +kernel) h
def j_b128_29 : cBody := (6, 11, [(149, 9, 14944)], k_b128_0.2.2.2.1, [])
-- X11_pour l13 steps 98
theorem j_r128_29 : c_run (j_X j_K j_c128_29) j_K j_P j_c128_29 j_b128_29 4000 = true := by decide +kernel
theorem j_g128_29 {l : Launch} {D : va_G} {dA : Nat → ClassId} {AA : Nat → Prop} {d : Nat} (h : j_Hy l D dA AA d) : j_Go l D dA AA d j_c128_29 := j_goodX j_tabsOk (M := k_M128) rfl (k_bodyB_ok (by decide +kernel)) j_r128_29 (by decide +kernel) h
def j_b128_30 : cBody := (6, 11, [(149, 9, 14944)], k_b128_0.2.2.2.1, [])
-- X11_pour g13 steps 102
theorem j_r128_30 : c_run (j_X j_K j_c128_30) j_K j_P j_c128_30 j_b128_30 4000 = true := by decide +kernel
theorem j_g128_30 {l : Launch} {D : va_G} {dA : Nat → ClassId} {AA : Nat → Prop} {d : Nat} (h : j_Hy l D dA AA d) : j_Go l D dA AA d j_c128_30 := j_goodX j_tabsOk (M := k_M128) rfl (k_bodyB_ok (by decide +kernel)) j_r128_30 (by decide +kernel) h
def j_b128_31 : cBody := (6, 11, [(149, 9, 14944)], k_b128_0.2.2.2.1, [])
-- X11_pour r13 steps 102
theorem j_r128_31 : c_run (j_X j_K j_c128_31) j_K j_P j_c128_31 j_b128_31 4000 = true := by decide +kernel
theorem j_g128_31 {l : Launch} {D : va_G} {dA : Nat → ClassId} {AA : Nat → Prop} {d : Nat} (h : j_Hy l D dA AA d) : j_Go l D dA AA d j_c128_31 := j_goodX j_tabsOk (M := k_M128) rfl (k_bodyB_ok (by decide +kernel)) j_r128_31 (by decide +kernel) h
def j_b128_32 : cBody := (6, 11, [(149, 9, 14944)], k_b128_0.2.2.2.1, [])
-- X11_pour i20 steps 102
theorem j_r128_32 : c_run (j_X j_K j_c128_32) j_K j_P j_c128_32 j_b128_32 4000 = true := by decide +kernel
theorem j_g128_32 {l : Launch} {D : va_G} {dA : Nat → ClassId} {AA : Nat → Prop} {d : Nat} (h : j_Hy l D dA AA d) : j_Go l D dA AA d j_c128_32 := j_goodX j_tabsOk (M := k_M128) rfl (k_bodyB_ok (by decide +kernel)) j_r128_32 (by decide +kernel) h
def j_b128_33 : cBody := (6, 11, [(149, 9, 14944)], k_b128_0.2.2.2.1, [])
-- X11_pour l20 steps 98
theorem j_r128_33 : c_run (j_X j_K j_c128_33) j_K j_P j_c128_33 j_b128_33 4000 = true := by decide +kernel
theorem j_g128_33 {l : Launch} {D : va_G} {dA : Nat → ClassId} {AA : Nat → Prop} {d : Nat} (h : j_Hy l D dA AA d) : j_Go l D dA AA d j_c128_33 := j_goodX j_tabsOk (M := k_M128) rfl (k_bodyB_ok (by decide +kernel)) j_r128_33 (by decide +kernel) h
def j_b128_34 : cBody := (6, 11, [(149, 9, 14944)], k_b128_0.2.2.2.1, [])
-- X11_pour g20 steps 102
theorem j_r128_34 : c_run (j_X j_K j_c128_34) j_K j_P j_c128_34 j_b128_34 4000 = true := by decide +kernel
theorem j_g128_34 {l : Launch} {D : va_G} {dA : Nat → ClassId} {AA : Nat → Prop} {d : Nat} (h : j_Hy l D dA AA d) : j_Go l D dA AA d j_c128_34 := j_goodX j_tabsOk (M := k_M128) rfl (k_bodyB_ok (by decide +kernel)) j_r128_34 (by decide +kernel) h
def j_b128_35 : cBody := (6, 11, [(149, 9, 14944)], k_b128_0.2.2.2.1, [])
-- X11_pour r20 steps 102
theorem j_r128_35 : c_run (j_X j_K j_c128_35) j_K j_P j_c128_35 j_b128_35 4000 = true := by decide +kernel
theorem j_g128_35 {l : Launch} {D : va_G} {dA : Nat → ClassId} {AA : Nat → Prop} {d : Nat} (h : j_Hy l D dA AA d) : j_Go l D dA AA d j_c128_35 := j_goodX j_tabsOk (M := k_M128) rfl (k_bodyB_ok (by decide +kernel)) j_r128_35 (by decide +kernel) h
def j_b128_36 : cBody := (6, 11, [(149, 9, 14944)], k_b128_0.2.2.2.1, [])
-- X11_pour i21 steps 102
theorem j_r128_36 : c_run (j_X j_K j_c128_36) j_K j_P j_c128_36 j_b128_36 4000 = true := by decide +kernel
theorem j_g128_36 {l : Launch} {D : va_G} {dA : Nat → ClassId} {AA : Nat → Prop} {d : Nat} (h : j_Hy l D dA AA d) : j_Go l D dA AA d j_c128_36 := j_goodX j_tabsOk (M := k_M128) rfl (k_bodyB_ok (by decide +kernel)) j_r128_36 (by decide +kernel) h
def j_b128_37 : cBody := (6, 11, [(149, 9, 14944)], k_b128_0.2.2.2.1, [])
-- X11_pour l21 steps 98
theorem j_r128_37 : c_run (j_X j_K j_c128_37) j_K j_P j_c128_37 j_b128_37 4000 = true := by decide +kernel
theorem j_g128_37 {l : Launch} {D : va_G} {dA : Nat → ClassId} {AA : Nat → Prop} {d : Nat} (h : j_Hy l D dA AA d) : j_Go l D dA AA d j_c128_37 := j_goodX j_tabsOk (M := k_M128) rfl (k_bodyB_ok (by decide +kernel)) j_r128_37 (by decide +kernel) h
def j_b128_38 : cBody := (6, 11, [(149, 9, 14944)], k_b128_0.2.2.2.1, [])
-- X11_pour g21 steps 102
theorem j_r128_38 : c_run (j_X j_K j_c128_38) j_K j_P j_c128_38 j_b128_38 4000 = true := by decide +kernel
theorem j_g128_38 {l : Launch} {D : va_G} {dA : Nat → ClassId} {AA : Nat → Prop} {d : Nat} (h : j_Hy l D dA AA d) : j_Go l D dA AA d j_c128_38 := j_goodX j_tabsOk (M := k_M128) rfl (k_bodyB_ok (by decide +kernel)) j_r128_38 (by decide +kernel) h
def j_b128_39 : cBody := (6, 11, [(149, 9, 14944)], k_b128_0.2.2.2.1, [])
-- X11_pour r21 steps 102
theorem j_r128_39 : c_run (j_X j_K j_c128_39) j_K j_P j_c128_39 j_b128_39 4000 = true := by decide +kernel
theorem j_g128_39 {l : Launch} {D : va_G} {dA : Nat → ClassId} {AA : Nat → Prop} {d : Nat} (h : j_Hy l D dA AA d) : j_Go l D dA AA d j_c128_39 := j_goodX j_tabsOk (M := k_M128) rfl (k_bodyB_ok (by decide +kernel)) j_r128_39 (by decide +kernel) h
def j_b128_40 : cBody := (6, 11, [(149, 9, 14944)], k_b128_0.2.2.2.1, [])
-- X11_pour i22 steps 102
theorem j_r128_40 : c_run (j_X j_K j_c128_40) j_K j_P j_c128_40 j_b128_40 4000 = true := by decide +kernel
theorem j_g128_40 {l : Launch} {D : va_G} {dA : Nat → ClassId} {AA : Nat → Prop} {d : Nat} (h : j_Hy l D dA AA d) : j_Go l D dA AA d j_c128_40 := j_goodX j_tabsOk (M := k_M128) rfl (k_bodyB_ok (by decide +kernel)) j_r128_40 (by decide +kernel) h
def j_b128_41 : cBody := (6, 11, [(149, 9, 14944)], k_b128_0.2.2.2.1, [])
-- X11_pour l22 steps 98
theorem j_r128_41 : c_run (j_X j_K j_c128_41) j_K j_P j_c128_41 j_b128_41 4000 = true := by decide +kernel
theorem j_g128_41 {l : Launch} {D : va_G} {dA : Nat → ClassId} {AA : Nat → Prop} {d : Nat} (h : j_Hy l D dA AA d) : j_Go l D dA AA d j_c128_41 := j_goodX j_tabsOk (M := k_M128) rfl (k_bodyB_ok (by decide +kernel)) j_r128_41 (by decide +kernel) h
def j_b128_42 : cBody := (6, 11, [(149, 9, 14944)], k_b128_0.2.2.2.1, [])
-- X11_pour g22 steps 102
theorem j_r128_42 : c_run (j_X j_K j_c128_42) j_K j_P j_c128_42 j_b128_42 4000 = true := by decide +kernel
theorem j_g128_42 {l : Launch} {D : va_G} {dA : Nat → ClassId} {AA : Nat → Prop} {d : Nat} (h : j_Hy l D dA AA d) : j_Go l D dA AA d j_c128_42 := j_goodX j_tabsOk (M := k_M128) rfl (k_bodyB_ok (by decide +kernel)) j_r128_42 (by decide +kernel) h
def j_b128_43 : cBody := (6, 11, [(149, 9, 14944)], k_b128_0.2.2.2.1, [])
-- X11_pour r22 steps 102
theorem j_r128_43 : c_run (j_X j_K j_c128_43) j_K j_P j_c128_43 j_b128_43 4000 = true := by decide +kernel
theorem j_g128_43 {l : Launch} {D : va_G} {dA : Nat → ClassId} {AA : Nat → Prop} {d : Nat} (h : j_Hy l D dA AA d) : j_Go l D dA AA d j_c128_43 := j_goodX j_tabsOk (M := k_M128) rfl (k_bodyB_ok (by decide +kernel)) j_r128_43 (by decide +kernel) h
def j_b128_44 : cBody := (6, 11, [(149, 9, 14944)], k_b128_0.2.2.2.1, [])
-- X11_pour i23 steps 102
theorem j_r128_44 : c_run (j_X j_K j_c128_44) j_K j_P j_c128_44 j_b128_44 4000 = true := by decide +kernel
theorem j_g128_44 {l : Launch} {D : va_G} {dA : Nat → ClassId} {AA : Nat → Prop} {d : Nat} (h : j_Hy l D dA AA d) : j_Go l D dA AA d j_c128_44 := j_goodX j_tabsOk (M := k_M128) rfl (k_bodyB_ok (by decide +kernel)) j_r128_44 (by decide +kernel) h
def j_b128_45 : cBody := (6, 11, [(149, 9, 14944)], k_b128_0.2.2.2.1, [])
-- X11_pour l23 steps 98
theorem j_r128_45 : c_run (j_X j_K j_c128_45) j_K j_P j_c128_45 j_b128_45 4000 = true := by decide +kernel
theorem j_g128_45 {l : Launch} {D : va_G} {dA : Nat → ClassId} {AA : Nat → Prop} {d : Nat} (h : j_Hy l D dA AA d) : j_Go l D dA AA d j_c128_45 := j_goodX j_tabsOk (M := k_M128) rfl (k_bodyB_ok (by decide +kernel)) j_r128_45 (by decide +kernel) h
def j_b128_46 : cBody := (6, 11, [(149, 9, 14944)], k_b128_0.2.2.2.1, [])
-- X11_pour g23 steps 102
theorem j_r128_46 : c_run (j_X j_K j_c128_46) j_K j_P j_c128_46 j_b128_46 4000 = true := by decide +kernel
theorem j_g128_46 {l : Launch} {D : va_G} {dA : Nat → ClassId} {AA : Nat → Prop} {d : Nat} (h : j_Hy l D dA AA d) : j_Go l D dA AA d j_c128_46 := j_goodX j_tabsOk (M := k_M128) rfl (k_bodyB_ok (by decide +kernel)) j_r128_46 (by decide +kernel) h
def j_b128_47 : cBody := (6, 11, [(149, 9, 14944)], k_b128_0.2.2.2.1, [])
-- X11_pour r23 steps 102
theorem j_r128_47 : c_run (j_X j_K j_c128_47) j_K j_P j_c128_47 j_b128_47 4000 = true := by decide +kernel
theorem j_g128_47 {l : Launch} {D : va_G} {dA : Nat → ClassId} {AA : Nat → Prop} {d : Nat} (h : j_Hy l D dA AA d) : j_Go l D dA AA d j_c128_47 := j_goodX j_tabsOk (M := k_M128) rfl (k_bodyB_ok (by decide +kernel)) j_r128_47 (by decide +kernel) h
def j_b128_48 : cBody := (6, 11, [(149, 9, 14944)], k_b128_0.2.2.2.1, [])
-- X11_pour i30 steps 102
theorem j_r128_48 : c_run (j_X j_K j_c128_48) j_K j_P j_c128_48 j_b128_48 4000 = true := by decide +kernel
theorem j_g128_48 {l : Launch} {D : va_G} {dA : Nat → ClassId} {AA : Nat → Prop} {d : Nat} (h : j_Hy l D dA AA d) : j_Go l D dA AA d j_c128_48 := j_goodX j_tabsOk (M := k_M128) rfl (k_bodyB_ok (by decide +kernel)) j_r128_48 (by decide +kernel) h
def j_b128_49 : cBody := (6, 11, [(149, 9, 14944)], k_b128_0.2.2.2.1, [])
-- X11_pour l30 steps 98
theorem j_r128_49 : c_run (j_X j_K j_c128_49) j_K j_P j_c128_49 j_b128_49 4000 = true := by decide +kernel
theorem j_g128_49 {l : Launch} {D : va_G} {dA : Nat → ClassId} {AA : Nat → Prop} {d : Nat} (h : j_Hy l D dA AA d) : j_Go l D dA AA d j_c128_49 := j_goodX j_tabsOk (M := k_M128) rfl (k_bodyB_ok (by decide +kernel)) j_r128_49 (by decide +kernel) h
def j_b128_50 : cBody := (6, 11, [(149, 9, 14944)], k_b128_0.2.2.2.1, [])
-- X11_pour g30 steps 102
theorem j_r128_50 : c_run (j_X j_K j_c128_50) j_K j_P j_c128_50 j_b128_50 4000 = true := by decide +kernel
theorem j_g128_50 {l : Launch} {D : va_G} {dA : Nat → ClassId} {AA : Nat → Prop} {d : Nat} (h : j_Hy l D dA AA d) : j_Go l D dA AA d j_c128_50 := j_goodX j_tabsOk (M := k_M128) rfl (k_bodyB_ok (by decide +kernel)) j_r128_50 (by decide +kernel) h
def j_b128_51 : cBody := (6, 11, [(149, 9, 14944)], k_b128_0.2.2.2.1, [])
-- X11_pour r30 steps 102
theorem j_r128_51 : c_run (j_X j_K j_c128_51) j_K j_P j_c128_51 j_b128_51 4000 = true := by decide +kernel
theorem j_g128_51 {l : Launch} {D : va_G} {dA : Nat → ClassId} {AA : Nat → Prop} {d : Nat} (h : j_Hy l D dA AA d) : j_Go l D dA AA d j_c128_51 := j_goodX j_tabsOk (M := k_M128) rfl (k_bodyB_ok (by decide +kernel)) j_r128_51 (by decide +kernel) h
def j_b128_52 : cBody := (6, 11, [(149, 9, 14944)], k_b128_0.2.2.2.1, [])
-- X11_pour i31 steps 102
theorem j_r128_52 : c_run (j_X j_K j_c128_52) j_K j_P j_c128_52 j_b128_52 4000 = true := by decide +kernel
theorem j_g128_52 {l : Launch} {D : va_G} {dA : Nat → ClassId} {AA : Nat → Prop} {d : Nat} (h : j_Hy l D dA AA d) : j_Go l D dA AA d j_c128_52 := j_goodX j_tabsOk (M := k_M128) rfl (k_bodyB_ok (by decide +kernel)) j_r128_52 (by decide +kernel) h
def j_b128_53 : cBody := (6, 11, [(149, 9, 14944)], k_b128_0.2.2.2.1, [])
-- X11_pour l31 steps 98
theorem j_r128_53 : c_run (j_X j_K j_c128_53) j_K j_P j_c128_53 j_b128_53 4000 = true := by decide +kernel
theorem j_g128_53 {l : Launch} {D : va_G} {dA : Nat → ClassId} {AA : Nat → Prop} {d : Nat} (h : j_Hy l D dA AA d) : j_Go l D dA AA d j_c128_53 := j_goodX j_tabsOk (M := k_M128) rfl (k_bodyB_ok (by decide +kernel)) j_r128_53 (by decide +kernel) h
def j_b128_54 : cBody := (6, 11, [(149, 9, 14944)], k_b128_0.2.2.2.1, [])
-- X11_pour g31 steps 102
theorem j_r128_54 : c_run (j_X j_K j_c128_54) j_K j_P j_c128_54 j_b128_54 4000 = true := by decide +kernel
theorem j_g128_54 {l : Launch} {D : va_G} {dA : Nat → ClassId} {AA : Nat → Prop} {d : Nat} (h : j_Hy l D dA AA d) : j_Go l D dA AA d j_c128_54 := j_goodX j_tabsOk (M := k_M128) rfl (k_bodyB_ok (by decide +kernel)) j_r128_54 (by decide +kernel) h
def j_b128_55 : cBody := (6, 11, [(149, 9, 14944)], k_b128_0.2.2.2.1, [])
-- X11_pour r31 steps 102
theorem j_r128_55 : c_run (j_X j_K j_c128_55) j_K j_P j_c128_55 j_b128_55 4000 = true := by decide +kernel
theorem j_g128_55 {l : Launch} {D : va_G} {dA : Nat → ClassId} {AA : Nat → Prop} {d : Nat} (h : j_Hy l D dA AA d) : j_Go l D dA AA d j_c128_55 := j_goodX j_tabsOk (M := k_M128) rfl (k_bodyB_ok (by decide +kernel)) j_r128_55 (by decide +kernel) h
def j_b128_56 : cBody := (6, 11, [(149, 9, 14944)], k_b128_0.2.2.2.1, [])
-- X11_pour i32 steps 102
theorem j_r128_56 : c_run (j_X j_K j_c128_56) j_K j_P j_c128_56 j_b128_56 4000 = true := by decide +kernel
theorem j_g128_56 {l : Launch} {D : va_G} {dA : Nat → ClassId} {AA : Nat → Prop} {d : Nat} (h : j_Hy l D dA AA d) : j_Go l D dA AA d j_c128_56 := j_goodX j_tabsOk (M := k_M128) rfl (k_bodyB_ok (by decide +kernel)) j_r128_56 (by decide +kernel) h
def j_b128_57 : cBody := (6, 11, [(149, 9, 14944)], k_b128_0.2.2.2.1, [])
-- X11_pour l32 steps 98
theorem j_r128_57 : c_run (j_X j_K j_c128_57) j_K j_P j_c128_57 j_b128_57 4000 = true := by decide +kernel
theorem j_g128_57 {l : Launch} {D : va_G} {dA : Nat → ClassId} {AA : Nat → Prop} {d : Nat} (h : j_Hy l D dA AA d) : j_Go l D dA AA d j_c128_57 := j_goodX j_tabsOk (M := k_M128) rfl (k_bodyB_ok (by decide +kernel)) j_r128_57 (by decide +kernel) h
def j_b128_58 : cBody := (6, 11, [(149, 9, 14944)], k_b128_0.2.2.2.1, [])
-- X11_pour g32 steps 102
theorem j_r128_58 : c_run (j_X j_K j_c128_58) j_K j_P j_c128_58 j_b128_58 4000 = true := by decide +kernel
theorem j_g128_58 {l : Launch} {D : va_G} {dA : Nat → ClassId} {AA : Nat → Prop} {d : Nat} (h : j_Hy l D dA AA d) : j_Go l D dA AA d j_c128_58 := j_goodX j_tabsOk (M := k_M128) rfl (k_bodyB_ok (by decide +kernel)) j_r128_58 (by decide +kernel) h
def j_b128_59 : cBody := (6, 11, [(149, 9, 14944)], k_b128_0.2.2.2.1, [])
-- X11_pour r32 steps 102
theorem j_r128_59 : c_run (j_X j_K j_c128_59) j_K j_P j_c128_59 j_b128_59 4000 = true := by decide +kernel
theorem j_g128_59 {l : Launch} {D : va_G} {dA : Nat → ClassId} {AA : Nat → Prop} {d : Nat} (h : j_Hy l D dA AA d) : j_Go l D dA AA d j_c128_59 := j_goodX j_tabsOk (M := k_M128) rfl (k_bodyB_ok (by decide +kernel)) j_r128_59 (by decide +kernel) h
def j_b128_60 : cBody := (6, 11, [(149, 9, 14944)], k_b128_0.2.2.2.1, [])
-- X11_pour i33 steps 102
theorem j_r128_60 : c_run (j_X j_K j_c128_60) j_K j_P j_c128_60 j_b128_60 4000 = true := by decide +kernel
theorem j_g128_60 {l : Launch} {D : va_G} {dA : Nat → ClassId} {AA : Nat → Prop} {d : Nat} (h : j_Hy l D dA AA d) : j_Go l D dA AA d j_c128_60 := j_goodX j_tabsOk (M := k_M128) rfl (k_bodyB_ok (by decide +kernel)) j_r128_60 (by decide +kernel) h
def j_b128_61 : cBody := (6, 11, [(149, 9, 14944)], k_b128_0.2.2.2.1, [])
-- X11_pour l33 steps 98
theorem j_r128_61 : c_run (j_X j_K j_c128_61) j_K j_P j_c128_61 j_b128_61 4000 = true := by decide +kernel
theorem j_g128_61 {l : Launch} {D : va_G} {dA : Nat → ClassId} {AA : Nat → Prop} {d : Nat} (h : j_Hy l D dA AA d) : j_Go l D dA AA d j_c128_61 := j_goodX j_tabsOk (M := k_M128) rfl (k_bodyB_ok (by decide +kernel)) j_r128_61 (by decide +kernel) h
def j_b128_62 : cBody := (6, 11, [(149, 9, 14944)], k_b128_0.2.2.2.1, [])
-- X11_pour g33 steps 102
theorem j_r128_62 : c_run (j_X j_K j_c128_62) j_K j_P j_c128_62 j_b128_62 4000 = true := by decide +kernel
theorem j_g128_62 {l : Launch} {D : va_G} {dA : Nat → ClassId} {AA : Nat → Prop} {d : Nat} (h : j_Hy l D dA AA d) : j_Go l D dA AA d j_c128_62 := j_goodX j_tabsOk (M := k_M128) rfl (k_bodyB_ok (by decide +kernel)) j_r128_62 (by decide +kernel) h
def j_b128_63 : cBody := (6, 11, [(149, 9, 14944)], k_b128_0.2.2.2.1, [])
-- X11_pour r33 steps 102
theorem j_r128_63 : c_run (j_X j_K j_c128_63) j_K j_P j_c128_63 j_b128_63 4000 = true := by decide +kernel
theorem j_g128_63 {l : Launch} {D : va_G} {dA : Nat → ClassId} {AA : Nat → Prop} {d : Nat} (h : j_Hy l D dA AA d) : j_Go l D dA AA d j_c128_63 := j_goodX j_tabsOk (M := k_M128) rfl (k_bodyB_ok (by decide +kernel)) j_r128_63 (by decide +kernel) h
def j_b128_64 : cBody := (6, 11, [], k_b128_0.2.2.2.1, [])
-- X11_pour L steps 10
theorem j_r128_64 : c_run c_X0 j_K j_P j_c128_64 j_b128_64 4000 = true := by decide +kernel
theorem j_g128_64 {l : Launch} {D : va_G} {dA : Nat → ClassId} {AA : Nat → Prop} {d : Nat} (h : j_Hy l D dA AA d) : j_Go l D dA AA d j_c128_64 := c_good_ok j_tabsOk (M := k_M128) rfl (k_bodyB_ok (by decide +kernel)) j_r128_64 h
def j_b128_65 : cBody := (6, 11, [], k_b128_0.2.2.2.1, [])
-- X11_pour H steps 10
theorem j_r128_65 : c_run c_X0 j_K j_P j_c128_65 j_b128_65 4000 = true := by decide +kernel
theorem j_g128_65 {l : Launch} {D : va_G} {dA : Nat → ClassId} {AA : Nat → Prop} {d : Nat} (h : j_Hy l D dA AA d) : j_Go l D dA AA d j_c128_65 := c_good_ok j_tabsOk (M := k_M128) rfl (k_bodyB_ok (by decide +kernel)) j_r128_65 h
def j_b128_66 : cBody := (6, 11, [], k_b128_0.2.2.2.1, [])
-- X11_pour ML steps 16
theorem j_r128_66 : c_run c_X0 j_K j_P j_c128_66 j_b128_66 4000 = true := by decide +kernel
theorem j_g128_66 {l : Launch} {D : va_G} {dA : Nat → ClassId} {AA : Nat → Prop} {d : Nat} (h : j_Hy l D dA AA d) : j_Go l D dA AA d j_c128_66 := c_good_ok j_tabsOk (M := k_M128) rfl (k_bodyB_ok (by decide +kernel)) j_r128_66 h
def j_b128_67 : cBody := (6, 11, [], k_b128_0.2.2.2.1, [])
-- X11_pour MH steps 16
theorem j_r128_67 : c_run c_X0 j_K j_P j_c128_67 j_b128_67 4000 = true := by decide +kernel
theorem j_g128_67 {l : Launch} {D : va_G} {dA : Nat → ClassId} {AA : Nat → Prop} {d : Nat} (h : j_Hy l D dA AA d) : j_Go l D dA AA d j_c128_67 := c_good_ok j_tabsOk (M := k_M128) rfl (k_bodyB_ok (by decide +kernel)) j_r128_67 h
def j_b210_0 : cBody := (5, 12, [(88, 9, 8802), (92, 9, 9240)], k_b210_0.2.2.2.1, [(74, (11, [(2, 0, 3), (3, 0, 3), (4, 0, 60), (5, 0, 59), (7, (-9223372036854775808), 9223372036854775807), (8, 0, 59)], [(1, 3), (6, 3), (9, 3), (10, 3)], [(1, 13), (6, 61), (9, 59), (10, 60)], [(0, [(5, 1), (8, (-1))])], [(0, (2, (0, [(1, 1)]))), (1, (0, (0, [(2, 1)]))), (2, (0, (0, [(3, 1)]))), (3, (0, (0, [(4, 1)]))), (4, (0, (0, [(8, 1)])))], [], [(0, (40, []), (1, (0, [(5, 1)]))), (1, (6, []), (2, (0, [(6, 1)]))), (6, (0, [(2, 60), (5, 1)]), (1, (0, [(7, 1)]))), (1, (1, []), (0, (0, []))), (1, (0, []), (0, (0, []))), (1, (4, []), (2, (0, [(9, 1)]))), (9, (0, [(2, 1)]), (0, (0, [(3, 1)]))), (1, (5, []), (2, (0, [(10, 1)]))), (10, (0, [(2, 1)]), (0, (0, [(4, 1)])))], 0, 0), (119, [(8, (-1))])), (74, (11, [(2, 0, 3), (3, 0, 3), (4, 1, 60), (5, 0, 59), (7, (-9223372036854775808), 9223372036854775807), (8, 1, 60)], [(1, 3), (6, 3), (9, 3), (10, 3), (8, 2)], [(1, 13), (6, 61), (9, 59), (10, 60)], [((-1), [(5, (-1)), (8, 1)])], [(0, (2, (0, [(1, 1)]))), (1, (0, (0, [(2, 1)]))), (2, (0, (0, [(3, 1)]))), (3, (0, (0, [(4, 1)]))), (4, (0, (0, [(8, 1)])))], [], [(0, (40, []), (1, (0, [(5, 1)]))), (1, (6, []), (2, (0, [(6, 1)]))), (1, (1, []), (0, (0, []))), (1, (0, []), (0, (0, []))), (1, (4, []), (2, (0, [(9, 1)]))), (9, (0, [(2, 1)]), (0, (0, [(3, 1)]))), (1, (5, []), (2, (0, [(10, 1)]))), (10, (0, [(2, 1)]), (0, (0, [(4, 1)]))), (6, (0, [(2, 60), (5, 1)]), (1, (0, [])))], 0, 0), (60, [(8, (-1))]))])
-- X12_tray e steps 90
theorem j_r210_0 : c_run (j_X j_K j_c210_0) j_K j_P j_c210_0 j_b210_0 4000 = true := by decide +kernel
theorem j_g210_0 {l : Launch} {D : va_G} {dA : Nat → ClassId} {AA : Nat → Prop} {d : Nat} (h : j_Hy l D dA AA d) : j_Go l D dA AA d j_c210_0 := j_goodX j_tabsOk (M := k_M210) rfl (k_bodyB_ok (by decide +kernel)) j_r210_0 (by decide +kernel) h
def j_b210_1 : cBody := (5, 12, [(88, 9, 8802), (92, 9, 9240)], k_b210_0.2.2.2.1, [(74, (12, [(2, 0, 2), (3, 0, 3), (4, 0, 60), (5, 0, 59), (6, 1, 3), (8, (-9223372036854775808), 9223372036854775807), (9, 0, 59)], [(1, 3), (7, 3), (10, 3), (11, 3)], [(1, 13), (7, 61), (10, 59), (11, 60)], [((-1), [(2, (-1)), (6, 1)]), (0, [(5, 1), (9, (-1))])], [(0, (2, (0, [(1, 1)]))), (1, (0, (0, [(2, 1)]))), (2, (0, (0, [(3, 1)]))), (3, (0, (0, [(4, 1)]))), (4, (0, (0, [(9, 1)])))], [], [(0, (40, []), (1, (0, [(5, 1)]))), (0, (41, []), (1, (0, [(6, 1)]))), (1, (6, []), (2, (0, [(7, 1)]))), (7, (0, [(5, 1), (6, 60)]), (1, (0, [(8, 1)]))), (1, (1, []), (0, (0, []))), (1, (0, []), (0, (0, []))), (1, (4, []), (2, (0, [(10, 1)]))), (10, (0, [(2, 1)]), (0, (0, [(3, 1)]))), (1, (5, []), (2, (0, [(11, 1)]))), (11, (0, [(2, 1)]), (0, (0, [(4, 1)])))], 0, 0), (119, [(9, (-1))])), (74, (12, [(2, 0, 2), (3, 0, 3), (4, 1, 60), (5, 0, 59), (6, 1, 3), (8, (-9223372036854775808), 9223372036854775807), (9, 1, 60)], [(1, 3), (7, 3), (10, 3), (11, 3), (9, 2)], [(1, 13), (7, 61), (10, 59), (11, 60)], [((-1), [(2, (-1)), (6, 1)]), ((-1), [(5, (-1)), (9, 1)])], [(0, (2, (0, [(1, 1)]))), (1, (0, (0, [(2, 1)]))), (2, (0, (0, [(3, 1)]))), (3, (0, (0, [(4, 1)]))), (4, (0, (0, [(9, 1)])))], [], [(0, (40, []), (1, (0, [(5, 1)]))), (0, (41, []), (1, (0, [(6, 1)]))), (1, (6, []), (2, (0, [(7, 1)]))), (7, (0, [(5, 1), (6, 60)]), (1, (0, [(8, 1)]))), (1, (1, []), (0, (0, []))), (1, (0, []), (0, (0, []))), (1, (4, []), (2, (0, [(10, 1)]))), (10, (0, [(2, 1)]), (0, (0, [(3, 1)]))), (1, (5, []), (2, (0, [(11, 1)]))), (11, (0, [(2, 1)]), (0, (0, [(4, 1)]))), (7, (0, [(2, 60), (5, 1)]), (1, (0, [])))], 0, 0), (60, [(9, (-1))]))])
-- X12_tray l steps 90
theorem j_r210_1 : c_run (j_X j_K j_c210_1) j_K j_P j_c210_1 j_b210_1 4000 = true := by decide +kernel
theorem j_g210_1 {l : Launch} {D : va_G} {dA : Nat → ClassId} {AA : Nat → Prop} {d : Nat} (h : j_Hy l D dA AA d) : j_Go l D dA AA d j_c210_1 := j_goodX j_tabsOk (M := k_M210) rfl (k_bodyB_ok (by decide +kernel)) j_r210_1 (by decide +kernel) h
def j_b210_2 : cBody := (5, 12, [(88, 9, 8802), (92, 9, 9240)], k_b210_0.2.2.2.1, [(74, (12, [(2, 1, 3), (3, 0, 3), (4, 0, 60), (5, 0, 59), (6, 0, 2), (8, (-9223372036854775808), 9223372036854775807), (9, 0, 59)], [(1, 3), (7, 3), (10, 3), (11, 3)], [(1, 13), (7, 61), (10, 59), (11, 60)], [((-1), [(2, 1), (6, (-1))]), (0, [(5, 1), (9, (-1))])], [(0, (2, (0, [(1, 1)]))), (1, (0, (0, [(2, 1)]))), (2, (0, (0, [(3, 1)]))), (3, (0, (0, [(4, 1)]))), (4, (0, (0, [(9, 1)])))], [], [(0, (40, []), (1, (0, [(5, 1)]))), (0, (41, []), (1, (0, [(6, 1)]))), (1, (6, []), (2, (0, [(7, 1)]))), (7, (0, [(5, 1), (6, 60)]), (1, (0, [(8, 1)]))), (1, (1, []), (0, (0, []))), (1, (0, []), (0, (0, []))), (1, (4, []), (2, (0, [(10, 1)]))), (10, (0, [(2, 1)]), (0, (0, [(3, 1)]))), (1, (5, []), (2, (0, [(11, 1)]))), (11, (0, [(2, 1)]), (0, (0, [(4, 1)])))], 0, 0), (119, [(9, (-1))])), (74, (12, [(2, 1, 3), (3, 0, 3), (4, 1, 60), (5, 0, 59), (6, 0, 2), (8, (-9223372036854775808), 9223372036854775807), (9, 1, 60)], [(1, 3), (7, 3), (10, 3), (11, 3), (9, 2)], [(1, 13), (7, 61), (10, 59), (11, 60)], [((-1), [(2, 1), (6, (-1))]), ((-1), [(5, (-1)), (9, 1)])], [(0, (2, (0, [(1, 1)]))), (1, (0, (0, [(2, 1)]))), (2, (0, (0, [(3, 1)]))), (3, (0, (0, [(4, 1)]))), (4, (0, (0, [(9, 1)])))], [], [(0, (40, []), (1, (0, [(5, 1)]))), (0, (41, []), (1, (0, [(6, 1)]))), (1, (6, []), (2, (0, [(7, 1)]))), (7, (0, [(5, 1), (6, 60)]), (1, (0, [(8, 1)]))), (1, (1, []), (0, (0, []))), (1, (0, []), (0, (0, []))), (1, (4, []), (2, (0, [(10, 1)]))), (10, (0, [(2, 1)]), (0, (0, [(3, 1)]))), (1, (5, []), (2, (0, [(11, 1)]))), (11, (0, [(2, 1)]), (0, (0, [(4, 1)]))), (7, (0, [(2, 60), (5, 1)]), (1, (0, [])))], 0, 0), (60, [(9, (-1))]))])
-- X12_tray g steps 90
theorem j_r210_2 : c_run (j_X j_K j_c210_2) j_K j_P j_c210_2 j_b210_2 4000 = true := by decide +kernel
theorem j_g210_2 {l : Launch} {D : va_G} {dA : Nat → ClassId} {AA : Nat → Prop} {d : Nat} (h : j_Hy l D dA AA d) : j_Go l D dA AA d j_c210_2 := j_goodX j_tabsOk (M := k_M210) rfl (k_bodyB_ok (by decide +kernel)) j_r210_2 (by decide +kernel) h
