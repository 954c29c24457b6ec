/-! every instruction -/
section MZ
variable {p : Program} {l : Launch} {e : Env} {R : Room} {s : State} {m : MethodId} {args : Array Value} {below : List Frame} {meth : Method} {c : Code} {D : va_G} {cl : List vw_C} {dA : Nat → ClassId} {AA : Nat → Prop} {K : cTab} {O : cCtr} {w0 : cWld} {cc : ByteArray} {nL : Nat} {Q : State → Prop} {n0 : Nat} {r0 : Nat → Int}
  {P : cPrg} {own : Nat} {an : cAnn} {A : cSt} {pc len : Nat} {L : List (Nat × cSt)} {Z : cStat} {bk : String}
theorem c_nneg {x : Int32} {z : Int} (h : x.toInt = z) (h0 : 0 ≤ z) : ¬ x < 0 := by
  intro q
  have := Int32.lt_iff_toInt_lt.mp q
  have h0 : (0 : Int32).toInt = 0 := by decide
  omega
theorem c_mc_copy (hJ : c_Jfr K) (hx : p.tables.exec = Jvm.exec) (hb : c.code = cc) (hml : c.maxLocals = nL) (hown : s.vm.findClass (Z.1 own) = some m.cls) (hts : ∀ w ∈ Z.2.2.1, w.before args s = true) (hK : va_K D cl (c_tys dA bk) s) (hlib : c_libOk Z) {i : Nat} (hlink : Jvm.Cond.methodLink (Z.1 own) i arraycopyName ∈ Z.2.2.1) (hdep : ∀ r, c_agr n0 r0 r → c_ev r (ct_dep O) ≤ (R.frames : Int)) (hR : 64 * R.frames ≤ R.locals)
    {n dp sp : cLin} {o1 o0 : cAV} {S : List cAV} {x0 x1 : Nat × Nat} (hst : c_stk A = (0, n) :: (0, dp) :: o1 :: (0, sp) :: o0 :: S) (ho0 : c_ref A o0 = some x0) (ho1 : c_ref A o1 = some x1)
    (hc : (Nat.ble 1 (K.2.1 x0.2).2.1 && Nat.beq x0.2 x1.2 && Nat.ble 1 (K.2.1 x0.2).1 && Nat.ble (K.2.1 x0.2).1 4 && c_in2 A 0 2147483647 sp && c_in2 A 0 2147483647 dp && c_in2 A 0 2147483647 n
            && c_ent A.2.1 A.2.2.2.2.1 3 (c_addc (c_mul (-1) (c_add sp n)) ((K.2.1 x0.2).2.1 : Int)) && c_ent A.2.1 A.2.2.2.2.1 3 (c_addc (c_mul (-1) (c_add dp n)) ((K.2.1 x0.2).2.1 : Int))
            && c_cpyT (K.2.1 x0.2).1 (K.2.2.2.1 x0.2) && K.2.2.1.all (fun i => !(Nat.beq i.1 x0.2)) && K.2.2.2.2.1.all (fun i => !(Nat.beq i.1 x0.2)) && c_effIn (ct_eff O) x0.2 0 (((K.2.1 x0.2).2.1 : Int) - 1)
            && c_ent A.2.1 A.2.2.2.2.1 3 (c_addc (ct_dep O) (-1)) && Nat.ble (c_catS S) 8) = true) (hd : decode cc pc = .ok (.invokestatic i, 3)) (hL : c_OK ((p, l, e, R, s, m, args, below, meth, c), (D, cl, dA, AA), (K, O, w0), (cc, nL, Q)) n0 r0 (pc + 3) (c_promS (c_killE (c_setS A S) [(x0.2, 0, (K.2.1 x0.2).2.1 - 1)]) [])) : c_OK ((p, l, e, R, s, m, args, below, meth, c), (D, cl, dA, AA), (K, O, w0), (cc, nL, Q)) n0 r0 pc A := by
  rw [Bool.and_eq_true, Bool.and_eq_true, Bool.and_eq_true, Bool.and_eq_true, Bool.and_eq_true, Bool.and_eq_true, Bool.and_eq_true, Bool.and_eq_true, Bool.and_eq_true, Bool.and_eq_true, Bool.and_eq_true, Bool.and_eq_true, Bool.and_eq_true, Bool.and_eq_true] at hc
  obtain ⟨⟨⟨⟨⟨⟨⟨⟨⟨⟨⟨⟨⟨⟨c0, c1⟩, c2⟩, c3⟩, c4⟩, c5⟩, c6⟩, c7⟩, c8⟩, c9⟩, c10⟩, c11⟩, c12⟩, c13⟩, c14⟩ := hc
  intro lv st w cu su hcu hsu hT hE hs H locs ls hP hD hS hl
  obtain ⟨v1, v2, v3, st2, rfl, kk⟩ := c_top3 hs hst
  obtain ⟨r, hag, hr⟩ := hs.at
  obtain ⟨v4, st3, rfl, -, kk3⟩ := c_F2_cons (kk r hr).2.2.2
  obtain ⟨v5, ss, rfl, -, -⟩ := c_F2_cons kk3
  have k1 := (kk r hr).1
  have k2 := (kk r hr).2.1
  have k4 := (kk r hr).2.2.2.1
  obtain ⟨zn, rfl, e1⟩ := c_DVi k1 rfl
  obtain ⟨zd, rfl, e2⟩ := c_DVi k2 rfl
  obtain ⟨zs, rfl, e3⟩ := c_DVi k4 rfl
  have e1 : zn.toInt = c_ev r n := e1
  have e2 : zd.toInt = c_ev r dp := e2
  have e3 : zs.toInt = c_ev r sp := e3
  obtain ⟨y1, ce1, q1, rfl, hq1, t1, -, -⟩ := c_obj hs hT ho1 (fun r hr => (kk r hr).2.2.1)
  obtain ⟨y0, ce0, q0, rfl, hq0, t0, -, -⟩ := c_obj hs hT ho0 (fun r hr => (kk r hr).2.2.2.2.1)
  have c1 := Nat.eq_of_beq_eq_true c1
  rw [← c1] at t1
  have b4 := c_in2_ok hr c4
  have b5 := c_in2_ok hr c5
  have b6 := c_in2_ok hr c6
  have b7 := c_ent_ok hr.1 hr.2.2.2.1 _ _ c7
  have b8 := c_ent_ok hr.1 hr.2.2.2.1 _ _ c8
  have b13 := c_ent_ok hr.1 hr.2.2.2.1 _ _ c13
  rw [c_ev_addc] at b7 b8 b13
  rw [c_ev_mul, c_ev_add] at b7 b8
  have hdd := hdep r hag
  have g1 := c_clamp (x := zn) (by omega)
  have g2 := c_clamp (x := zd) (by omega)
  have g3 := c_clamp (x := zs) (by omega)
  have hcat : (ss.map fun v => v.category).sum ≤ 8 := by
    rw [c_catS_ok (kk r hr).2.2.2.2.2]
    exact Nat.le_of_ble_eq_true c14
  have fin : ∀ (w' : cWld) (H1 : Heap) (locs1 : List Loc), c_TW K dA w' → c_ext [(x0.2, 0, (K.2.1 x0.2).2.1 - 1)] [] w w' → va_P D cl w'.2.1 H1 → va_D AA w'.2.1 → va_S AA s.heap H1 locs1 → W p l e R s m args below meth c H1 locs1 cu su Q (F0 m (pc + 3) ls ss) := by
    intro w' H1 locs1 hT1 hx1 hP1 hD1 hS1
    have s1 : c_sat n0 r0 (c_setS A S) lv ss w := hs.setS fun r hr => (kk r hr).2.2.2.2.2
    have s2 := s1.callee hx1 hD
    refine hL lv ss w' cu su ?_ ?_ hT1 (c_ext_tr hE hx1 (fun t j hh => ?_) (fun t ht => by cases ht)) s2 H1 locs1 ls hP1 hD1 hS1 hl
    · rw [← hcu]
      exact (c_killE_eq [(x0.2, 0, (K.2.1 x0.2).2.1 - 1)] (c_setS A S)).2.2.2.2.2.2.2.1
    · rw [← hsu]
      exact (c_killE_eq [(x0.2, 0, (K.2.1 x0.2).2.1 - 1)] (c_setS A S)).2.2.2.2.2.2.2.2
    · obtain ⟨y, y1, y2, y3, y4⟩ := hh
      cases List.mem_singleton.mp y1
      rw [← y2]
      have y4 : j ≤ (K.2.1 x0.2).2.1 - 1 := y4
      have h0 := Nat.le_of_ble_eq_true c0
      exact c_effIn_ok c12 (by omega) (by omega)
  have hk2 := Nat.le_of_ble_eq_true c2
  have hk3 := Nat.le_of_ble_eq_true c3
  rcases (show (K.2.1 x0.2).1 = 1 ∨ (K.2.1 x0.2).1 = 2 ∨ (K.2.1 x0.2).1 = 3 ∨ (K.2.1 x0.2).1 = 4 by omega) with hk | hk | hk | hk
  · exact c_cpy_int hJ hx hb hml hown hts hK hlib hlink (by omega) hR hT hP hD hS hl hq0 hq1 t0 t1 hk c9 (c_all_ne (f := fun i : cImp => i.1) c10) (c_all_ne (f := fun x : Nat × Nat × Nat => x.1) c11) (c_nneg e3 (by omega)) (c_nneg e2 (by omega)) (c_nneg e1 (by omega)) (by omega) (by omega) hcat hd fin
  · exact c_cpy_long hJ hx hb hml hown hts hK hlib hlink (by omega) hR hT hP hD hS hl hq0 hq1 t0 t1 hk c9 (c_all_ne (f := fun i : cImp => i.1) c10) (c_all_ne (f := fun x : Nat × Nat × Nat => x.1) c11) (c_nneg e3 (by omega)) (c_nneg e2 (by omega)) (c_nneg e1 (by omega)) (by omega) (by omega) hcat hd fin
  · exact c_cpy_byte hJ hx hb hml hown hts hK hlib hlink (by omega) hR hT hP hD hS hl hq0 hq1 t0 t1 hk c9 (c_all_ne (f := fun i : cImp => i.1) c10) (c_all_ne (f := fun x : Nat × Nat × Nat => x.1) c11) (c_nneg e3 (by omega)) (c_nneg e2 (by omega)) (c_nneg e1 (by omega)) (by omega) (by omega) hcat hd fin
  · exact c_cpy_short hJ hx hb hml hown hts hK hlib hlink (by omega) hR hT hP hD hS hl hq0 hq1 t0 t1 hk c9 (c_all_ne (f := fun i : cImp => i.1) c10) (c_all_ne (f := fun x : Nat × Nat × Nat => x.1) c11) (c_nneg e3 (by omega)) (c_nneg e2 (by omega)) (c_nneg e1 (by omega)) (by omega) (by omega) hcat hd fin

theorem c_m_invokevirtual {i : Nat} (hJ : c_Jfr K) (hlib : c_libOk Z) (hx : p.tables.exec = Jvm.exec) (hb : c.code = cc) (hml : c.maxLocals = nL) (hown : s.vm.findClass (Z.1 own) = some m.cls) (hts : ∀ w ∈ Z.2.2.1, w.before args s = true) (hK : va_K D cl (c_tys dA bk) s) (hN : ∀ x ∈ Z.2.2.2.1, va_Nw x s) (hnw : ∀ x ∈ Z.2.2.2.1, ∃ (a : String) (i : Nat) (y : MethodName) (h : String), x = .methodLinkNest a i y h) (hA : c_AX AA s) (hgd : GoodIn Z.2.2.1 Z.2.2.1) (hmO : c_mOk K P cl Z) (hlk : c_lnkOk P cl Z)
    (hdep : ∀ r, c_agr n0 r0 r → c_ev r (ct_dep O) ≤ (R.frames : Int)) (hR : ct_mc O ≤ R.cells ∧ ct_ms O ≤ R.slots ∧ 64 * R.frames ≤ R.locals) (hG : ∀ d, d < R.frames → ∀ a, ∀ ct ∈ P.2.1 a, c_Good l D cl dA AA bk K Z d ct) (h : c_step K P O nL own an A pc len (.invokevirtual i) = some L) (hd : decode cc pc = .ok (.invokevirtual i, len)) (hL : ∀ q ∈ L, c_OK ((p, l, e, R, s, m, args, below, meth, c), (D, cl, dA, AA), (K, O, w0), (cc, nL, Q)) n0 r0 q.1 q.2) : c_OK ((p, l, e, R, s, m, args, below, meth, c), (D, cl, dA, AA), (K, O, w0), (cc, nL, Q)) n0 r0 pc A := by
  unfold c_step at h
  dsimp only at h
  obtain ⟨hn, g⟩ := c_len_inv h
  clear h
  subst hn
  unfold c_inv at g
  split at g
  · rename_i k a b v hlnk
    split at g
    · rename_i hc
      rw [Bool.and_eq_true, Bool.or_eq_true] at hc
      have hb2 := Nat.eq_of_beq_eq_true hc.2
      subst hb2
      rcases hc.1 with hk | hk
      · have hk := Nat.eq_of_beq_eq_true hk
        subst hk
        exact c_mc_invokevirtual1 hx hb hml hown hts hK hN hnw hA hgd hmO hlk hdep hR hG hlnk g hd hL
      · have hk := Nat.eq_of_beq_eq_true hk
        subst hk
        exact c_mc_invokevirtual2 hx hb hml hown hts hK hN hnw hA hgd hmO hlk hdep hR hG hlnk g hd hL
    · split at g
      · rename_i hc
        rw [Bool.and_eq_true] at hc
        exact absurd hc.2 (by decide)
      · split at g
        · rename_i hc
          rw [Bool.and_eq_true] at hc
          exact absurd hc.2 (by decide)
        · cases g
  · cases g

theorem c_m_invokestatic {i : Nat} (hJ : c_Jfr K) (hlib : c_libOk Z) (hx : p.tables.exec = Jvm.exec) (hb : c.code = cc) (hml : c.maxLocals = nL) (hown : s.vm.findClass (Z.1 own) = some m.cls) (hts : ∀ w ∈ Z.2.2.1, w.before args s = true) (hK : va_K D cl (c_tys dA bk) s) (hN : ∀ x ∈ Z.2.2.2.1, va_Nw x s) (hnw : ∀ x ∈ Z.2.2.2.1, ∃ (a : String) (i : Nat) (y : MethodName) (h : String), x = .methodLinkNest a i y h) (hA : c_AX AA s) (hgd : GoodIn Z.2.2.1 Z.2.2.1) (hmO : c_mOk K P cl Z) (hlk : c_lnkOk P cl Z)
    (hdep : ∀ r, c_agr n0 r0 r → c_ev r (ct_dep O) ≤ (R.frames : Int)) (hR : ct_mc O ≤ R.cells ∧ ct_ms O ≤ R.slots ∧ 64 * R.frames ≤ R.locals) (hG : ∀ d, d < R.frames → ∀ a, ∀ ct ∈ P.2.1 a, c_Good l D cl dA AA bk K Z d ct) (h : c_step K P O nL own an A pc len (.invokestatic i) = some L) (hd : decode cc pc = .ok (.invokestatic i, len)) (hL : ∀ q ∈ L, c_OK ((p, l, e, R, s, m, args, below, meth, c), (D, cl, dA, AA), (K, O, w0), (cc, nL, Q)) n0 r0 q.1 q.2) : c_OK ((p, l, e, R, s, m, args, below, meth, c), (D, cl, dA, AA), (K, O, w0), (cc, nL, Q)) n0 r0 pc A := by
  unfold c_step at h
  dsimp only at h
  obtain ⟨hn, g⟩ := c_len_inv h
  clear h
  subst hn
  unfold c_inv at g
  split at g
  · rename_i k a b v hlnk
    split at g
    · rename_i hc
      rw [Bool.and_eq_true, Bool.or_eq_true] at hc
      have hb2 := Nat.eq_of_beq_eq_true hc.2
      subst hb2
      rcases hc.1 with hk | hk
      · have hk := Nat.eq_of_beq_eq_true hk
        subst hk
        exact c_mc_invokestatic1 hx hb hml hown hts hK hN hnw hA hgd hmO hlk hdep hR hG hlnk g hd hL
      · have hk := Nat.eq_of_beq_eq_true hk
        subst hk
        exact c_mc_invokestatic2 hx hb hml hown hts hK hN hnw hA hgd hmO hlk hdep hR hG hlnk g hd hL
    · split at g
      · rename_i hc
        rw [Bool.and_eq_true] at hc
        exact absurd hc.2 (by decide)
      · split at g
        · rename_i hc
          rw [Bool.and_eq_true] at hc
          have hk := Nat.eq_of_beq_eq_true hc.1
          subst hk
          split at g
          · rename_i n dp o1 sp o0 S hst
            split at g
            · rename_i x0 x1 ho0 ho1
              split at g
              · rename_i hc2
                cases g
                exact c_mc_copy hJ hx hb hml hown hts hK hlib (hlk _ _ _ _ _ _ hlnk) hdep hR.2.2 hst ho0 ho1 hc2 hd (hL _ List.mem_cons_self)
              · cases g
            · cases g
          · cases g
        · cases g
  · cases g

theorem c_m_invokespecial {i : Nat} (hJ : c_Jfr K) (hlib : c_libOk Z) (hx : p.tables.exec = Jvm.exec) (hb : c.code = cc) (hml : c.maxLocals = nL) (hown : s.vm.findClass (Z.1 own) = some m.cls) (hts : ∀ w ∈ Z.2.2.1, w.before args s = true) (hK : va_K D cl (c_tys dA bk) s) (hN : ∀ x ∈ Z.2.2.2.1, va_Nw x s) (hnw : ∀ x ∈ Z.2.2.2.1, ∃ (a : String) (i : Nat) (y : MethodName) (h : String), x = .methodLinkNest a i y h) (hA : c_AX AA s) (hgd : GoodIn Z.2.2.1 Z.2.2.1) (hmO : c_mOk K P cl Z) (hlk : c_lnkOk P cl Z)
    (hdep : ∀ r, c_agr n0 r0 r → c_ev r (ct_dep O) ≤ (R.frames : Int)) (hR : ct_mc O ≤ R.cells ∧ ct_ms O ≤ R.slots ∧ 64 * R.frames ≤ R.locals) (hG : ∀ d, d < R.frames → ∀ a, ∀ ct ∈ P.2.1 a, c_Good l D cl dA AA bk K Z d ct) (h : c_step K P O nL own an A pc len (.invokespecial i) = some L) (hd : decode cc pc = .ok (.invokespecial i, len)) (hL : ∀ q ∈ L, c_OK ((p, l, e, R, s, m, args, below, meth, c), (D, cl, dA, AA), (K, O, w0), (cc, nL, Q)) n0 r0 q.1 q.2) : c_OK ((p, l, e, R, s, m, args, below, meth, c), (D, cl, dA, AA), (K, O, w0), (cc, nL, Q)) n0 r0 pc A := by
  unfold c_step at h
  dsimp only at h
  obtain ⟨hn, g⟩ := c_len_inv h
  clear h
  subst hn
  unfold c_inv at g
  split at g
  · rename_i k a b v hlnk
    split at g
    · rename_i hc
      rw [Bool.and_eq_true, Bool.or_eq_true] at hc
      have hb2 := Nat.eq_of_beq_eq_true hc.2
      subst hb2
      rcases hc.1 with hk | hk
      · have hk := Nat.eq_of_beq_eq_true hk
        subst hk
        exact c_mc_invokespecial1 hx hb hml hown hts hK hN hnw hA hgd hmO hlk hdep hR hG hlnk g hd hL
      · have hk := Nat.eq_of_beq_eq_true hk
        subst hk
        exact c_mc_invokespecial2 hx hb hml hown hts hK hN hnw hA hgd hmO hlk hdep hR hG hlnk g hd hL
    · split at g
      · rename_i hc
        rw [Bool.and_eq_true] at hc
        have hk := Nat.eq_of_beq_eq_true hc.1
        subst hk
        split at g
        · rename_i o S hst
          split at g
          · rename_i x ho
            split at g
            · rename_i hc2
              rw [Bool.and_eq_true] at hc2
              cases g
              exact c_mc_objInit hx hb hml hown hts hlib (hlk _ _ _ _ _ _ hlnk) hdep hR.2.2 hst ho hc2.1 (Nat.le_of_ble_eq_true hc2.2) hd (hL _ List.mem_cons_self)
            · cases g
          · cases g
        · cases g
      · split at g
        · rename_i hc
          rw [Bool.and_eq_true] at hc
          exact absurd hc.2 (by decide)
        · cases g
  · cases g

theorem c_step_ok {ins : Jvm.ClassFile.Instr} (hn1 : 0 < n0) {rr : Nat → Int} (hn : c_entryN O ≤ n0) (hrr : c_agr (c_entryN O) rr r0) (hrt : c_retT1 (ct_ret O) meth.sig.returnType) (hlocks : meth.locks = false) (hQ : Q = MQ below (c_Qc D cl dA AA K O rr w0) args s (ct_mc O) (ct_ms O) AA) (hini : (∃ ci, c_annOf 0 3 an = some ci) → meth.name = "<init>") (hcn : ∀ (ci : Nat) (C : String) (T : u_T) (N : Nat), c_annOf 0 3 an = some ci → cl[ci]? = some (C, T, N) → C = Z.1 own) (hJ : c_Jfr K) (hJ2 : c_Jnw K) (hac : c_acOk cl Z bk) (hbk : ∃ (T : u_T) (N : Nat), cl[0]? = some (bk, T, N)) (hlib : c_libOk Z) (hcl : c_clsOk P cl Z.2.2.1) (hR2 : ct_mc O ≤ R.cells ∧ ct_ms O ≤ R.slots)
    (hx : p.tables.exec = Jvm.exec) (hb : c.code = cc) (hml : c.maxLocals = nL) (hown : s.vm.findClass (Z.1 own) = some m.cls) (hts : ∀ w ∈ Z.2.2.1, w.before args s = true) (hK : va_K D cl (c_tys dA bk) s) (hN : ∀ x ∈ Z.2.2.2.1, va_Nw x s) (hnw : ∀ x ∈ Z.2.2.2.1, ∃ (a : String) (i : Nat) (y : MethodName) (h : String), x = .methodLinkNest a i y h) (hA : c_AX AA s) (hgd : GoodIn Z.2.2.1 Z.2.2.1) (hmO : c_mOk K P cl Z) (hlk : c_lnkOk P cl Z)
    (hdep : ∀ r, c_agr n0 r0 r → c_ev r (ct_dep O) ≤ (R.frames : Int)) (hR : ct_mc O ≤ R.cells ∧ ct_ms O ≤ R.slots ∧ 64 * R.frames ≤ R.locals) (hG : ∀ d, d < R.frames → ∀ a, ∀ ct ∈ P.2.1 a, c_Good l D cl dA AA bk K Z d ct) (h : c_step K P O nL own an A pc len ins = some L) (hd : decode cc pc = .ok (ins, len)) (hL : ∀ q ∈ L, c_OK ((p, l, e, R, s, m, args, below, meth, c), (D, cl, dA, AA), (K, O, w0), (cc, nL, Q)) n0 r0 q.1 q.2) : c_OK ((p, l, e, R, s, m, args, below, meth, c), (D, cl, dA, AA), (K, O, w0), (cc, nL, Q)) n0 r0 pc A := by
  have hA1 := hA.1
  have hA2 := hA.2
  cases ins with
  | iadd => apply c_m_iadd <;> assumption
  | isub => apply c_m_isub <;> assumption
  | ladd => apply c_m_ladd <;> assumption
  | lsub => apply c_m_lsub <;> assumption
  | imul => apply c_m_imul <;> assumption
  | lmul => apply c_m_lmul <;> assumption
  | iand => apply c_m_iand <;> assumption
  | ior => apply c_m_ior <;> assumption
  | ishl => apply c_m_ishl <;> assumption
  | ixor => apply c_m_ixor <;> assumption
  | ishr => apply c_m_ishr <;> assumption
  | lxor => apply c_m_lxor <;> assumption
  | idiv => apply c_m_idiv <;> assumption
  | irem => apply c_m_irem <;> assumption
  | ldiv => apply c_m_ldiv <;> assumption
  | lrem => apply c_m_lrem <;> assumption
  | ineg => apply c_m_ineg <;> assumption
  | lneg => apply c_m_lneg <;> assumption
  | i2l => apply c_m_i2l <;> assumption
  | l2i => apply c_m_l2i <;> assumption
  | i2b => apply c_m_i2b <;> assumption
  | i2s => apply c_m_i2s <;> assumption
  | lcmp => apply c_m_lcmp <;> assumption
  | iconst _ => apply c_m_iconst <;> assumption
  | bipush _ => apply c_m_bipush <;> assumption
  | sipush _ => apply c_m_sipush <;> assumption
  | lconst _ => apply c_m_lconst <;> assumption
  | ldc _ => apply c_m_ldc <;> assumption
  | ldc_w _ => apply c_m_ldc_w <;> assumption
  | ldc2_w _ => apply c_m_ldc2_w <;> assumption
  | iload_n _ => apply c_m_iload_n <;> assumption
  | iload _ => apply c_m_iload <;> assumption
  | lload_n _ => apply c_m_lload_n <;> assumption
  | lload _ => apply c_m_lload <;> assumption
  | aload_n _ => apply c_m_aload_n <;> assumption
  | aload _ => apply c_m_aload <;> assumption
  | istore_n _ => apply c_m_istore_n <;> assumption
  | istore _ => apply c_m_istore <;> assumption
  | lstore_n _ => apply c_m_lstore_n <;> assumption
  | lstore _ => apply c_m_lstore <;> assumption
  | astore_n _ => apply c_m_astore_n <;> assumption
  | astore _ => apply c_m_astore <;> assumption
  | iinc _ _ => apply c_m_iinc <;> assumption
  | dup => apply c_m_dup <;> assumption
  | pop => apply c_m_pop <;> assumption
  | pop2 => apply c_m_pop2 <;> assumption
  | dup2 => apply c_m_dup2 <;> assumption
  | ifCond _ _ => apply c_m_ifCond <;> assumption
  | if_icmp _ _ => apply c_m_if_icmp <;> assumption
  | ifnonnull _ => apply c_m_ifnonnull <;> assumption
  | goto _ => apply c_m_goto <;> assumption
  | tableswitch _ _ _ _ => apply c_m_tableswitch <;> assumption
  | getfield _ => apply c_m_getfield <;> assumption
  | putfield _ => apply c_m_putfield <;> assumption
  | iaload => apply c_m_iaload <;> assumption
  | laload => apply c_m_laload <;> assumption
  | saload => apply c_m_saload <;> assumption
  | baload => apply c_m_baload <;> assumption
  | aaload => apply c_m_aaload <;> assumption
  | iastore => apply c_m_iastore <;> assumption
  | lastore => apply c_m_lastore <;> assumption
  | sastore => apply c_m_sastore <;> assumption
  | bastore => apply c_m_bastore <;> assumption
  | arraylength => apply c_m_arraylength <;> assumption
  | anewarray _ => apply c_m_anewarray <;> assumption
  | new _ => apply c_m_new <;> assumption
  | aastore => apply c_m_aastore <;> assumption
  | ireturn => apply c_m_ireturn <;> assumption
  | lreturn => apply c_m_lreturn <;> assumption
  | return_ => apply c_m_return <;> assumption
  | invokevirtual _ => apply c_m_invokevirtual <;> assumption
  | invokestatic _ => apply c_m_invokestatic <;> assumption
  | invokespecial _ => apply c_m_invokespecial <;> assumption
  | newarray ty =>
    cases ty with
    | int => apply c_m_newarray_int <;> assumption
    | long => apply c_m_newarray_long <;> assumption
    | byte => apply c_m_newarray_byte <;> assumption
    | short => apply c_m_newarray_short <;> assumption
    | boolean => apply c_m_newarray_boolean <;> assumption
    | _ =>
      unfold c_step at h
      dsimp only at h
      unfold c_len at h
      split at h <;> cases h
  | _ =>
    unfold c_step at h
    cases h

end MZ
