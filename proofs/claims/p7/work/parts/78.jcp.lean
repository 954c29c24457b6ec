/-! second layer: a row is copied into another one (or itself); what comes to the witness place is known -/
theorem j_cpy_TW {K : cTab} {dA : Nat → ClassId} {AA : Nat → Prop} {w : cWld} (hJ : c_Jfr K) (hT : c_TW K dA w) (hD : va_D AA w.2.1) {q1 x0 x1 t u : Nat} {e0 e1 e2 : va_E} {vt : cVT} (h0 : (x0, e0) ∈ w.2.1) (h1 : w.2.1[q1]? = some (x1, e1)) (t0 : w.1 x0 = u) (t1 : w.1 x1 = t) (hu0 : K.2.2.2.1 u = some vt) (hu : K.2.2.2.1 t = some vt) (hi : ∀ i ∈ K.2.2.1, i.1 ≠ t) (hp : ∀ i ∈ K.2.2.2.2.1, i.1 ≠ t) (hf : ∀ h, c_form dA h e1 → c_form dA h e2) (hr : ∀ (j : Nat) (v : Value), c_rd e2 j = some v → (∃ i, c_rd e0 i = some v) ∨ c_rd e1 j = some v) : c_TW K dA (w.1, w.2.1.set q1 (x1, e2), w.2.2) := by
  have hin : ∀ a u, c_in w a u → c_in (w.1, w.2.1.set q1 (x1, e2), w.2.2) a u := by
    rintro b u ⟨e, g1, g2⟩
    by_cases hb : b = x1
    · subst hb; exact ⟨e2, c_set_new h1, g2⟩
    · exact ⟨e, c_set_old h1 g1 hb, g2⟩
  have hty : ∀ j, c_ty K t j = vt := fun j => by unfold c_ty; rw [hu]
  have hty0 : ∀ j, c_ty K u j = vt := fun j => by unfold c_ty; rw [hu0]
  intro q hq
  rcases c_set_in hD h1 hq with rfl | ⟨g1, g2⟩
  · obtain ⟨a1, a2, a3, a4⟩ := hT _ (c_mem_of_at h1)
    obtain ⟨b1, b2, b3, b4⟩ := hT _ h0
    dsimp only at a1 a2 a3 a4 b2 ⊢
    rw [t1] at a1 a2 a3 a4 ⊢
    rw [t0] at b2
    refine ⟨hf _ a1, fun j v hv => c_in_mono_okV hin ?_, fun i hi1 hi2 => absurd hi2 (hi i hi1), hJ t _ _ _ _ (fun i hh => ?_) a4⟩
    · rw [hty]
      rcases hr j v hv with ⟨i, h5⟩ | h5
      · have := b2 i v h5; rw [hty0] at this; exact this
      · have := a2 j v h5; rw [hty] at this; exact this
    · obtain ⟨y, y1, y2, -⟩ := hh
      exact absurd y2 (hp y y1)
  · obtain ⟨a1, a2, a3, a4⟩ := hT q g1
    exact ⟨a1, fun j v hv => c_in_mono_okV hin (a2 j v hv), fun i hi1 hi2 y hy hy0 v hv => c_in_mono_okV hin (a3 i hi1 hi2 y hy hy0 v hv), a4⟩
section JC
variable {p : Program} {l : Launch} {e : Env} {R : Room} {s : State} {m : MethodId} {args : Array Value} {below : List Frame} {meth : Method} {c : Code} {D : va_G} {cl : List vw_C} {dA : Nat → ClassId} {AA : Nat → Prop} {K : cTab} {O : cCtr} {w0 : cWld} {cc : ByteArray} {nL : Nat} {Q : State → Prop} {n0 : Nat} {r0 : Nat → Int}
  {own : Nat} {A : cSt} {pc : Nat} {L : List (Nat × cSt)} {Z : cStat} {bk : String}
def j_c44 (K : cTab) (O : cCtr) (A : cSt) (n dp sp : cLin) (x0 x1 : Nat × Nat) (S : List cAV) : Bool :=
  Nat.ble 1 (K.2.1 x1.2).2.1 && Nat.beq (K.2.1 x0.2).1 2 && Nat.beq (K.2.1 x1.2).1 2 && Nat.beq (K.2.1 x0.2).2.1 (K.2.1 x1.2).2.1 && c_in2 A 0 2147483647 sp && c_in2 A 0 2147483647 dp && c_in2 A 0 2147483647 n
    && c_ent A.2.1 A.2.2.2.2.1 3 (c_addc (c_mul (-1) (c_add sp n)) ((K.2.1 x0.2).2.1 : Int)) && c_ent A.2.1 A.2.2.2.2.1 3 (c_addc (c_mul (-1) (c_add dp n)) ((K.2.1 x1.2).2.1 : Int))
    && decide (K.2.2.2.1 x0.2 = K.2.2.2.1 x1.2) && (K.2.2.2.1 x1.2).isSome && K.2.2.1.all (fun i => !(Nat.beq i.1 x1.2)) && K.2.2.2.2.1.all (fun i => !(Nat.beq i.1 x1.2)) && c_effIn (ct_eff O) x1.2 0 (((K.2.1 x1.2).2.1 : Int) - 1)
    && c_ent A.2.1 A.2.2.2.2.1 3 (c_addc (ct_dep O) (-1)) && Nat.ble (c_catS S) 8
def j_n44 (A : cSt) (s0 s1 : Nat) (kk n dp sp : cLin) : List (Nat × cLin × cAV) :=
  if c_ent A.2.1 A.2.2.2.2.1 3 (c_sub kk dp) && c_ent A.2.1 A.2.2.2.2.1 3 (c_addc (c_sub (c_add dp n) kk) (-1)) then (match c_mget s0 (c_sub (c_add kk sp) dp) (c_me A) with
    | some (1, x) => [(s1, kk, (1, x))]
    | _ => [])
  else if c_ent A.2.1 A.2.2.2.2.1 3 (c_addc (c_sub dp kk) (-1)) || c_ent A.2.1 A.2.2.2.2.1 3 (c_sub kk (c_add dp n)) then (match c_mget s1 kk (c_me A) with
    | some (1, x) => [(s1, kk, (1, x))]
    | _ => [])
  else []
def j_s44 (K : cTab) (A : cSt) (x1 : Nat × Nat) (S : List cAV) : cSt := c_promS (c_killE (c_setS A S) [(x1.2, 0, (K.2.1 x1.2).2.1 - 1)]) []
def j_x44 (K : cTab) (O : cCtr) (pc : Nat) (A : cSt) : Option (List (Nat × cSt)) := match c_stk A, c_mget 0 (c_con 40) (c_me A) with
  | (0, n) :: (0, dp) :: o1 :: (0, sp) :: o0 :: S, some kk => (match c_ref A o0, c_ref A o1 with
    | some x0, some x1 => if j_c44 K O A n dp sp x0 x1 S then some [(pc + 3, c_setM (j_s44 K A x1 S) (j_n44 A x0.1 x1.1 kk.2 n dp sp ++ c_me (j_s44 K A x1 S)))] else none
    | _, _ => none)
  | _, _ => none
theorem j_x44_ok (hJ : c_Jfr K) (hx : p.tables.exec = Jvm.exec) (hb : c.code = cc) (hml : c.maxLocals = nL) (hown : s.vm.findClass (Z.1 own) = some m.cls) (hts : ∀ w ∈ Z.2.2.1, w.before args s = true) (hK : va_K D cl (c_tys dA bk) s) (hlib : c_libOk Z) {i : Nat} (hlink : Jvm.Cond.methodLink (Z.1 own) i arraycopyName ∈ Z.2.2.1) (hdep : ∀ r, c_agr n0 r0 r → c_ev r (ct_dep O) ≤ (R.frames : Int)) (hR : 64 * R.frames ≤ R.locals) (h : j_x44 K O pc A = some L) (hd : decode cc pc = .ok (.invokestatic i, 3)) (hL : ∀ q ∈ L, c_OK ((p, l, e, R, s, m, args, below, meth, c), (D, cl, dA, AA), (K, O, w0), (cc, nL, Q)) n0 r0 q.1 q.2) : c_OK ((p, l, e, R, s, m, args, below, meth, c), (D, cl, dA, AA), (K, O, w0), (cc, nL, Q)) n0 r0 pc A := by
  unfold j_x44 at h
  split at h
  · rename_i n dp o1 sp o0 S kg hst hg
    split at h
    · rename_i x0 x1 ho0 ho1
      split at h
      · rename_i hc
        cases h
        unfold j_c44 at hc
        simp only [Bool.and_eq_true] at hc
        obtain ⟨⟨⟨⟨⟨⟨⟨⟨⟨⟨⟨⟨⟨⟨⟨c0, c1⟩, c2⟩, c3⟩, c4⟩, c5⟩, c6⟩, c7⟩, c8⟩, c9⟩, c10⟩, c11⟩, c12⟩, c13⟩, c14⟩, c15⟩ := hc
        intro lv st w cu su hcu hsu hT hE hs0 H locs ls hP hD hS hl
        obtain ⟨r1, hs, hle, hag1, hR1⟩ := hs0.pin
        obtain ⟨v1, v2, v3, st2, rfl, kk⟩ := c_top3 hs hst
        obtain ⟨v4, st3, rfl, -, kk3⟩ := c_F2_cons (kk r1 hR1).2.2.2
        obtain ⟨v5, ss, rfl, -, -⟩ := c_F2_cons kk3
        have k1 := (kk r1 hR1).1
        have k2 := (kk r1 hR1).2.1
        have k4 := (kk r1 hR1).2.2.2.1
        obtain ⟨zn, rfl, e1⟩ := c_DVi k1 rfl
        obtain ⟨zd, rfl, e2⟩ := c_DVi k2 rfl
        obtain ⟨zs, rfl, e3⟩ := c_DVi k4 rfl
        have e1 : zn.toInt = c_ev r1 n := e1
        have e2 : zd.toInt = c_ev r1 dp := e2
        have e3 : zs.toInt = c_ev r1 sp := e3
        have f1 : ∀ r, c_satR A r lv (.int zn :: .int zd :: v3 :: .int zs :: v5 :: ss) w → zn.toInt = c_ev r n ∧ zd.toInt = c_ev r dp ∧ zs.toInt = c_ev r sp := fun r hr => by
          obtain ⟨a1, h1, h2⟩ := c_DVi (kk r hr).1 rfl
          obtain ⟨a2, h3, h4⟩ := c_DVi (kk r hr).2.1 rfl
          obtain ⟨a3, h5, h6⟩ := c_DVi (kk r hr).2.2.2.1 rfl
          cases h1; cases h3; cases h5
          exact ⟨h2, h4, h6⟩
        obtain ⟨y1, ce1, q1, rfl, hq1, t1, u1, hy1⟩ := c_obj hs hT ho1 (fun r hr => (kk r hr).2.2.1)
        obtain ⟨y0, ce0, q0, rfl, hq0, t0, u0, hy0⟩ := c_obj hs hT ho0 (fun r hr => (kk r hr).2.2.2.2.1)
        have b4 := c_in2_ok hR1 c4
        have b5 := c_in2_ok hR1 c5
        have b6 := c_in2_ok hR1 c6
        have b7 := c_ent_ok hR1.1 hR1.2.2.2.1 _ _ c7
        have b8 := c_ent_ok hR1.1 hR1.2.2.2.1 _ _ c8
        have b14 := c_ent_ok hR1.1 hR1.2.2.2.1 _ _ c14
        rw [c_ev_addc] at b7 b8 b14
        rw [c_ev_mul, c_ev_add] at b7 b8
        have hdd := hdep r1 hag1
        have g1 := c_clamp (x := zn) (by omega)
        have g2 := c_clamp (x := zd) (by omega)
        have g3 := c_clamp (x := zs) (by omega)
        have hcat : (ss.map fun v => v.category).sum ≤ 8 := by
          rw [c_catS_ok (kk r1 hR1).2.2.2.2.2]
          exact Nat.le_of_ble_eq_true c15
        have hN0 := Nat.le_of_ble_eq_true c0
        have hk0 := Nat.eq_of_beq_eq_true c1
        have hk1 := Nat.eq_of_beq_eq_true c2
        have hNN := Nat.eq_of_beq_eq_true c3
        have hU := of_decide_eq_true c9
        obtain ⟨vt, hvt⟩ := Option.isSome_iff_exists.mp c10
        have hu0 : K.2.2.2.1 x0.2 = some vt := hU.trans hvt
        unfold c_form at u0 u1
        rw [hk0] at u0
        rw [hk1] at u1
        obtain ⟨f, rfl⟩ := u0
        obtain ⟨g, rfl⟩ := u1
        have hnf : nativeFrameWords "java/lang/System" "arraycopy" 5 = 7 := by decide
        have hroom : (ss.map fun v => v.category).sum + (nativeFrameWords "java/lang/System" "arraycopy" 5 + 11) ≤ R.locals := by rw [hnf]; omega
        have hrd : ∀ j, c_rd (.inl (dA 2, (K.2.1 x1.2).2.1, .inr (.inl (va_cpy f g zs.toNatClampNeg zd.toNatClampNeg zn.toNatClampNeg)))) j = if j < (K.2.1 x1.2).2.1 then some (if zd.toNatClampNeg ≤ j ∧ j < zd.toNatClampNeg + zn.toNatClampNeg then .long (f (zs.toNatClampNeg + (j - zd.toNatClampNeg))) else .long (g j)) else none := fun j => by
          show (if j < (K.2.1 x1.2).2.1 then some _ else none) = _
          by_cases hj : j < (K.2.1 x1.2).2.1
          · rw [if_pos hj, if_pos hj]
            by_cases hc : zd.toNatClampNeg ≤ j ∧ j < zd.toNatClampNeg + zn.toNatClampNeg
            · rw [if_pos hc]
              simp [c_rdA, va_cpy, hc]
            · rw [if_neg hc]
              simp [c_rdA, va_cpy, hc]
          · rw [if_neg hj, if_neg hj]
        refine va_copyl hx hb (hml.trans hl.1.symm) hown (hts _ hlink) (hts _ hlib.2.2.1) (hts _ hlib.2.2.2.1) (hts _ hlib.2.2.2.2) hK hP hD hS q0 q1 1 1 (ty := .long) hq0 hq1 rfl rfl rfl (c_nneg e3 (by omega)) (c_nneg e2 (by omega)) (c_nneg e1 (by omega)) (by omega) (by omega) (fun i hi => rfl) (by omega) hroom hd (fun H1 locs1 hP1 hD1 hS1 => ?_)
        have hT1 : c_TW K dA (w.1, w.2.1.set q1 (y1, .inl (dA 2, (K.2.1 x1.2).2.1, .inr (.inl (va_cpy f g zs.toNatClampNeg zd.toNatClampNeg zn.toNatClampNeg)))), w.2.2) := by
          refine j_cpy_TW hJ hT hD (c_mem_of_at hq0) hq1 t0 t1 hu0 hvt (c_all_ne (f := fun i : cImp => i.1) c11) (c_all_ne (f := fun x : Nat × Nat × Nat => x.1) c12) (fun h hh => c_form_inl (q := (dA 2, (K.2.1 x1.2).2.1, .inr (.inl g))) rfl rfl (Or.inr (Or.inl ⟨_, _, rfl, rfl⟩)) hh) (fun j v hv => ?_)
          rw [hrd] at hv
          by_cases hj : j < (K.2.1 x1.2).2.1
          · rw [if_pos hj] at hv
            by_cases hc : zd.toNatClampNeg ≤ j ∧ j < zd.toNatClampNeg + zn.toNatClampNeg
            · left
              refine ⟨zs.toNatClampNeg + (j - zd.toNatClampNeg), ?_⟩
              show (if _ < (K.2.1 x0.2).2.1 then some _ else none) = some v
              rw [if_pos (by omega), ← hv, if_pos hc]
              rfl
            · right
              show (if j < (K.2.1 x1.2).2.1 then some _ else none) = some v
              rw [if_pos hj, ← hv, if_neg hc]
              rfl
          · rw [if_neg hj] at hv
            cases hv
        have hx1 : c_ext [(x1.2, 0, (K.2.1 x1.2).2.1 - 1)] [] w (w.1, w.2.1.set q1 (y1, .inl (dA 2, (K.2.1 x1.2).2.1, .inr (.inl (va_cpy f g zs.toNatClampNeg zd.toNatClampNeg zn.toNatClampNeg)))), w.2.2) := by
          refine c_cpy_ext hD hq1 t1 (fun j hj => ?_)
          show (if j < (K.2.1 x1.2).2.1 then some _ else none) = if j < (K.2.1 x1.2).2.1 then some _ else none
          rw [if_neg (by omega), if_neg (by omega)]
        have s1 : c_sat A.1 r1 (c_setS A S) lv ss w := hs.setS fun r hr => (kk r hr).2.2.2.2.2
        have s2 := s1.callee hx1 hD
        refine hL _ List.mem_cons_self lv ss _ cu su ?_ ?_ hT1 (c_ext_tr hE hx1 (fun t j hh => ?_) (fun t ht => by cases ht)) ?_ H1 locs1 ls hP1 hD1 hS1 hl
        · rw [← hcu]
          exact (c_killE_eq [(x1.2, 0, (K.2.1 x1.2).2.1 - 1)] (c_setS A S)).2.2.2.2.2.2.2.1
        · rw [← hsu]
          exact (c_killE_eq [(x1.2, 0, (K.2.1 x1.2).2.1 - 1)] (c_setS A S)).2.2.2.2.2.2.2.2
        · obtain ⟨y, z1, z2, z3, z4⟩ := hh
          cases List.mem_singleton.mp z1
          rw [← z2]
          have z4 : j ≤ (K.2.1 x1.2).2.1 - 1 := z4
          exact c_effIn_ok c13 (by omega) (by omega)
        · refine c_sat.weak (n1 := A.1) (r1 := r1) (s2.to rfl fun r hr1 hr => ⟨hr.1, hr.2.1, hr.2.2.1, hr.2.2.2.1, hr.2.2.2.2.1, hr.2.2.2.2.2.1, fun q hq => ?_⟩) hle hag1
          rcases List.mem_append.mp hq with hq | hq
          · have hA := j_satR_of hs hr1
            obtain ⟨w1, w2, w3⟩ := f1 r hA
            have hgk := j_detG (j := 40) hg _ _ w r hA
            have hg40 := c_gv_40 (w.2.2 40)
            have d0 := (c_ref_ok ho0).1
            have d1 := (c_ref_ok ho1).1
            have ev0 : r x0.1 = (y0 : Int) := hy0 r hA
            have ev1 : r x1.1 = (y1 : Int) := hy1 r hA
            have place : ∀ (j : Nat) (v : Value), c_ev r kg.2 = (j : Int) → j < (K.2.1 x1.2).2.1 → (if zd.toNatClampNeg ≤ j ∧ j < zd.toNatClampNeg + zn.toNatClampNeg then Value.long (f (zs.toNatClampNeg + (j - zd.toNatClampNeg))) else .long (g j)) = v → ∀ a : cAV, c_DV r a v → c_mem r (w.1, w.2.1.set q1 (y1, .inl (dA 2, (K.2.1 x1.2).2.1, .inr (.inl (va_cpy f g zs.toNatClampNeg zd.toNatClampNeg zn.toNatClampNeg)))), w.2.2) (x1.1, kg.2, a) := fun j v hj hjN hv a ha => by
              unfold c_mem
              split
              · rename_i hz; exact absurd hz d1
              · exact ⟨y1, _, j, v, ev1, c_set_new hq1, hj, by rw [hrd, if_pos hjN, hv], ha⟩
            unfold j_n44 at hq
            split at hq
            · rename_i hcc
              rw [Bool.and_eq_true] at hcc
              have i1 := c_ent_ok hA.1 hA.2.2.2.1 _ _ hcc.1
              have i2 := c_ent_ok hA.1 hA.2.2.2.1 _ _ hcc.2
              rw [c_ev_sub] at i1
              rw [c_ev_addc, c_ev_sub, c_ev_add] at i2
              split at hq
              · rename_i x hm
                cases List.mem_singleton.mp hq
                obtain ⟨q', hq', m1, m2, m3⟩ := c_mget_ok hm
                have hmq := hA.2.2.2.2.2.2 q' hq'
                unfold c_mem at hmq
                split at hmq
                · rename_i hz; exact absurd (m1.symm.trans hz) d0
                · obtain ⟨x2, e2', j2, v2, p1, p2, p3, p4, p5⟩ := hmq
                  rw [m1, ev0] at p1
                  have : x2 = y0 := by omega
                  subst this
                  have := c_uniq hD p2 (c_mem_of_at hq0)
                  subst this
                  rw [m2 r, c_ev_sub, c_ev_add] at p3
                  rw [m3] at p5
                  have p4 : (if j2 < (K.2.1 x0.2).2.1 then some (Value.long (f j2)) else none) = some v2 := p4
                  by_cases hj2 : j2 < (K.2.1 x0.2).2.1
                  · rw [if_pos hj2] at p4
                    cases p4
                    refine place (c_ev r kg.2).toNat _ (by omega) (by omega) ?_ _ p5
                    rw [if_pos (by omega)]
                    congr 2
                    omega
                  · rw [if_neg hj2] at p4
                    cases p4
              · cases hq
            · split at hq
              · rename_i hcc
                rw [Bool.or_eq_true] at hcc
                have i1 : c_ev r kg.2 < c_ev r dp ∨ c_ev r dp + c_ev r n ≤ c_ev r kg.2 := by
                  rcases hcc with hcc | hcc
                  · have := c_ent_ok hA.1 hA.2.2.2.1 _ _ hcc
                    rw [c_ev_addc, c_ev_sub] at this
                    left; omega
                  · have := c_ent_ok hA.1 hA.2.2.2.1 _ _ hcc
                    rw [c_ev_sub, c_ev_add] at this
                    right; omega
                split at hq
                · rename_i x hm
                  cases List.mem_singleton.mp hq
                  obtain ⟨q', hq', m1, m2, m3⟩ := c_mget_ok hm
                  have hmq := hA.2.2.2.2.2.2 q' hq'
                  unfold c_mem at hmq
                  split at hmq
                  · rename_i hz; exact absurd (m1.symm.trans hz) d1
                  · obtain ⟨x2, e2', j2, v2, p1, p2, p3, p4, p5⟩ := hmq
                    rw [m1, ev1] at p1
                    have : x2 = y1 := by omega
                    subst this
                    have := c_uniq hD p2 (c_mem_of_at hq1)
                    subst this
                    rw [m2 r] at p3
                    rw [m3] at p5
                    have p4 : (if j2 < (K.2.1 x1.2).2.1 then some (Value.long (g j2)) else none) = some v2 := p4
                    by_cases hj2 : j2 < (K.2.1 x1.2).2.1
                    · rw [if_pos hj2] at p4
                      cases p4
                      refine place j2 _ p3 hj2 ?_ _ p5
                      rw [if_neg (by omega)]
                    · rw [if_neg hj2] at p4
                      cases p4
                · cases hq
              · cases hq
          · exact hr.2.2.2.2.2.2 q hq
      · cases h
    · cases h
  · cases h
end JC
