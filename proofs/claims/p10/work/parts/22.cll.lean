/-! calls -/
/-- what the tables say of every method, and how its contracts fit it -/
def c_mOk (K : cTab) (P : cPrg) (cl : List vw_C) (Z : cStat) : Prop := ∀ (a : Nat) (M : cMth), Z.2.1 a = some M → Jvm.Cond.code M.1 M.2.1 M.2.2.1 M.2.2.2.1 ∈ Z.2.2.1 ∧ Jvm.Cond.initialized M.1.cls ∈ Z.2.2.1 ∧ (M.1.cls ≠ "java/lang/invoke/MethodHandle" ∧ M.1.cls ≠ "java/lang/invoke/VarHandle") ∧ M.2.2.1 ≤ 44 ∧
  (M.2.2.2.2 = 0 → Jvm.Cond.instanceMethod M.1 ∈ Z.2.2.1 ∧ Jvm.Cond.selects M.1.cls M.1 M.1 ∈ Z.2.2.1) ∧ (M.2.2.2.2 = 1 → Jvm.Cond.static M.1 ∈ Z.2.2.1) ∧ (M.2.2.2.2 = 2 → Jvm.Cond.instanceMethod M.1 ∈ Z.2.2.1 ∧ M.1.name = "<init>" ∧ M.2.2.2.1 = none) ∧
  ∀ ct ∈ P.2.1 a, ct_m ct = a ∧ ct_dep ct ∈ ct_pre ct ∧ (parseMethodDescriptor M.1.desc).map (fun d => d.parameters.length) = some ((ct_args ct).length - (if M.2.2.2.2 = 1 then 0 else 1)) ∧
    (M.2.2.2.2 ≠ 1 → ∃ (t : Nat) (b : Int × Int) (l : List (Nat × Nat × Int × Int)) (ci N : Nat) (T : u_T), ct_args ct = (2, t, b) :: l ∧ K.2.1 t = (0, N, ci) ∧ cl[ci]? = some (M.1.cls, T, N))
section MC
variable {p : Program} {l : Launch} {e : Env} {R : Room} {s : State} {m : MethodId} {args : Array Value} {below : List Frame} {meth : Method} {c : Code} {D : va_G} {cl : List vw_C} {dA : Nat → ClassId} {AA : Nat → Prop} {K : cTab} {O : cCtr} {w0 : cWld} {cc : ByteArray} {nL : Nat} {Q : State → Prop} {n0 : Nat} {r0 : Nat → Int}
  {P : cPrg} {own : Nat} {an : cAnn} {A : cSt} {pc len : Nat} {L : List (Nat × cSt)} {Z : cStat} {bk : String}
theorem c_blind (hnw : ∀ x ∈ Z.2.2.2.1, ∃ (a : String) (i : Nat) (y : MethodName) (h : String), x = .methodLinkNest a i y h) {vals : List Value} {w : cWld} : FrameBlind (va_Pc vals (c_Bp D cl dA AA bk Z w)) := fun _ U _ _ q => ⟨q.1, q.2.1, q.2.2.1, fun x hx => by
    obtain ⟨a, i, y, h, rfl⟩ := hnw x hx
    exact va_tabs (A := #[]) (u := U) rfl rfl (q.2.2.2.1 _ hx), q.2.2.2.2.1, c_Xi_same (u := U) rfl rfl (Vm.Alike.refl _) q.2.2.2.2.2⟩
theorem c_Bp_at {H : Heap} {locs : List Loc} {w : cWld} {vals : List Value} (hnw : ∀ x ∈ Z.2.2.2.1, ∃ (a : String) (i : Nat) (y : MethodName) (h : String), x = .methodLinkNest a i y h) (hK : va_K D cl (c_tys dA bk) s) (hN : ∀ x ∈ Z.2.2.2.1, va_Nw x s) (hA : c_AX AA s) (hP : va_P D cl w.2.1 H) (hS : va_S AA s.heap H locs) : ∀ U : State, U.heap = H → s.WarmedH U.vm → va_Pc vals (c_Bp D cl dA AA bk Z w) vals.toArray U := by
  intro U hU hW
  refine ⟨rfl, by rw [hU]; exact hP, hK.moved hW.alike, fun x hx => ?_, fun q hq => hA.1 q (Nat.le_trans hS.1 (by rw [← hU]; exact hq)), c_Xi_at hU hW hS hA.2⟩
  obtain ⟨a, i, y, h, rfl⟩ := hnw x hx
  exact va_Nw.warmM hW (hN _ hx)
theorem c_goodIn (hg : GoodIn Z.2.2.1 Z.2.2.1) {M : cMth} (hM : Jvm.Cond.code M.1 M.2.1 M.2.2.1 M.2.2.2.1 ∈ Z.2.2.1) : GoodIn Z.2.2.1 (c_ws Z M) := by
  intro w hw
  rcases List.mem_cons.mp hw with rfl | hw
  · exact hg _ hM
  · exact hg w hw
theorem c_F_mr {m : MethodId} {pc : Nat} {ls : Array Slot} {st : List Value} {n : Nat} (h : n ≤ 8) : 2 * (F0 m pc ls st).monitorRoom + n ≤ 8 := by
  show 2 * 0 + n ≤ 8
  omega
theorem c_args_ref {w : cWld} {r : Nat → Int} {i t : Nat} {b : Int × Int} {l : List (Nat × Nat × Int × Int)} {vals : List Value} (h : c_argsR w r i ((2, t, b) :: l) vals) : ∃ (x : Nat) (As : List Value), vals = .ref x :: As ∧ c_in w x t := by
  cases vals with
  | nil => exact h.elim
  | cons v As =>
    obtain ⟨x, h1, -, h3⟩ := h.1
    exact ⟨x, As, by rw [h1], h3⟩
theorem c_idx {ws : va_W} {q : Nat × va_E} (h : q ∈ ws) : ∃ q0 : Nat, ws[q0]? = some q := List.getElem?_of_mem h

theorem c_mc_invokevirtual1 {i a : Nat} {v : Int} (hx : p.tables.exec = Jvm.exec) (hb : c.code = cc) (hml : c.maxLocals = nL) (hown : s.vm.findClass (Z.1 own) = some m.cls) (hts : ∀ w ∈ Z.2.2.1, w.before args s = true) (hK : va_K D cl (c_tys dA bk) s) (hN : ∀ x ∈ Z.2.2.2.1, va_Nw x s) (hnw : ∀ x ∈ Z.2.2.2.1, ∃ (a : String) (i : Nat) (y : MethodName) (h : String), x = .methodLinkNest a i y h) (hA : c_AX AA s) (hgd : GoodIn Z.2.2.1 Z.2.2.1) (hmO : c_mOk K P cl Z) (hlk : c_lnkOk P cl Z)
    (hdep : ∀ r, c_agr n0 r0 r → c_ev r (ct_dep O) ≤ (R.frames : Int)) (hR : ct_mc O ≤ R.cells ∧ ct_ms O ≤ R.slots ∧ 64 * R.frames ≤ R.locals) (hG : ∀ d, d < R.frames → ∀ a, ∀ ct ∈ P.2.1 a, c_Good l D cl dA AA bk K Z d ct) (hlnk : P.1 own i = some (1, a, 0, v)) (g : c_call K O A (pc + 3) ((c_stk A).take (P.2.2.1 a)).reverse ((c_stk A).drop (P.2.2.1 a)) (P.2.1 a) = some L) (hd : decode cc pc = .ok (.invokevirtual i, 3)) (hL : ∀ q ∈ L, c_OK ((p, l, e, R, s, m, args, below, meth, c), (D, cl, dA, AA), (K, O, w0), (cc, nL, Q)) n0 r0 q.1 q.2) : c_OK ((p, l, e, R, s, m, args, below, meth, c), (D, cl, dA, AA), (K, O, w0), (cc, nL, Q)) n0 r0 pc A := by
  obtain ⟨ct, hct, hc1⟩ := c_call_in g
  intro lv st w cu su hcu hsu hT hE hs H locs ls hP hD hS hl
  subst hcu; subst hsu
  obtain ⟨vals, ss, pv, rfl, hlen, hcat, hpre, ⟨r1, hag, hdp⟩, hcu, hsu, hcont⟩ := c_call1_ok hT hD hs (by rw [List.reverse_reverse]; exact (List.take_append_drop _ _).symm) hc1
  obtain ⟨M, hM, hlink, hkind⟩ := (hlk _ _ _ _ _ _ hlnk : ∃ M : cMth, Z.2.1 a = some M ∧ Jvm.Cond.methodLink (Z.1 own) i M.1 ∈ Z.2.2.1 ∧ M.2.2.2.2 = 0)
  obtain ⟨m1, m2, m3, m4, m5, m6, m7, m8⟩ := hmO a M hM
  obtain ⟨t1, t2, t3, t4⟩ := m8 ct hct
  have hd0 : 0 ≤ c_ev pv (ct_dep ct) := hpre.2.2.1 _ t2
  have hd1 := hdep r1 hag
  obtain ⟨d, hdd⟩ : ∃ d, R.frames = d + 1 := ⟨R.frames - 1, by omega⟩
  have hGd := hG d (by omega) a ct hct M (by rw [t1]; exact hM) w pv vals hpre (by omega) hT hD
  refine c_callU (D := D) (cl := cl) (dA := dA) (K := K) (ct := ct) (r1 := pv) (w := w) (va := vals.toArray) (rest := ss) ?_ hS fun rv res w' H1 locs1 hrv hpost hP1 hD1 hT1 hS1 => ?_
  · obtain ⟨t, bb, al, ci, N, T, u1, u2, u3⟩ := t4 (by omega)
    have harg := hpre.1
    rw [u1] at harg
    obtain ⟨x, As, rfl, ce, hx1, hx2⟩ := c_args_ref harg
    obtain ⟨q0, hq0⟩ := c_idx hx1
    have hform := (hT _ hx1).1
    dsimp only at hform
    rw [hx2, u2] at hform
    obtain ⟨fs, rfl, -⟩ := hform
    have hlenA : As.length = (ct_args ct).length - 1 := by
      rw [← hlen, List.length_cons]
      omega
    rw [if_neg (by omega)] at t3
    exact va_runV (bytes := M.2.1) (maxL := M.2.2.1) (ret := M.2.2.2.1) (C := M.1.cls) ⟨hx, hb, hml, hown, hts⟩ hGd ⟨callB_of (rm := c_rm d ct) (ws' := Z.2.2.1) _ hts (c_goodIn hgd m1) rfl rfl rfl (hts _ m2) (hts _ hlink) ⟨m3.1, m3.2, t3⟩ ⟨by rw [hdd]; exact Nat.le_refl _, by have := hR.2.2; show 8 + (M.2.2.1 + 11) + 64 * d ≤ _; omega⟩, hts _ (m5 hkind).1, hts _ (m5 hkind).2⟩ ⟨c_blind hnw, va_recv hK hP u3 hq0, (c_Bp_at hnw hK hN hA hP hS)⟩ rfl hlenA hl.1 (by show (Value.ref x :: As).reverse ++ ss = _; rw [List.reverse_cons, List.append_assoc]; rfl) (c_F_mr hcat) hd ⟨Nat.le_trans hcu hR.1, Nat.le_trans hsu hR.2.1⟩
  · obtain ⟨⟨q, hq, hq1, k1, k2, k3⟩, k4⟩ := hcont w' rv res hrv hT1 hD1 hpost
    have hfin := hL q hq lv _ w' _ _ k2 k3 hT1 (k4 w0 hE) k1 H1 locs1 ls hP1 hD1 hS1 hl
    rw [hq1] at hfin
    exact hfin

theorem c_mc_invokevirtual2 {i a : Nat} {v : Int} (hx : p.tables.exec = Jvm.exec) (hb : c.code = cc) (hml : c.maxLocals = nL) (hown : s.vm.findClass (Z.1 own) = some m.cls) (hts : ∀ w ∈ Z.2.2.1, w.before args s = true) (hK : va_K D cl (c_tys dA bk) s) (hN : ∀ x ∈ Z.2.2.2.1, va_Nw x s) (hnw : ∀ x ∈ Z.2.2.2.1, ∃ (a : String) (i : Nat) (y : MethodName) (h : String), x = .methodLinkNest a i y h) (hA : c_AX AA s) (hgd : GoodIn Z.2.2.1 Z.2.2.1) (hmO : c_mOk K P cl Z) (hlk : c_lnkOk P cl Z)
    (hdep : ∀ r, c_agr n0 r0 r → c_ev r (ct_dep O) ≤ (R.frames : Int)) (hR : ct_mc O ≤ R.cells ∧ ct_ms O ≤ R.slots ∧ 64 * R.frames ≤ R.locals) (hG : ∀ d, d < R.frames → ∀ a, ∀ ct ∈ P.2.1 a, c_Good l D cl dA AA bk K Z d ct) (hlnk : P.1 own i = some (2, a, 0, v)) (g : c_call K O A (pc + 3) ((c_stk A).take (P.2.2.1 a)).reverse ((c_stk A).drop (P.2.2.1 a)) (P.2.1 a) = some L) (hd : decode cc pc = .ok (.invokevirtual i, 3)) (hL : ∀ q ∈ L, c_OK ((p, l, e, R, s, m, args, below, meth, c), (D, cl, dA, AA), (K, O, w0), (cc, nL, Q)) n0 r0 q.1 q.2) : c_OK ((p, l, e, R, s, m, args, below, meth, c), (D, cl, dA, AA), (K, O, w0), (cc, nL, Q)) n0 r0 pc A := by
  obtain ⟨ct, hct, hc1⟩ := c_call_in g
  intro lv st w cu su hcu hsu hT hE hs H locs ls hP hD hS hl
  subst hcu; subst hsu
  obtain ⟨vals, ss, pv, rfl, hlen, hcat, hpre, ⟨r1, hag, hdp⟩, hcu, hsu, hcont⟩ := c_call1_ok hT hD hs (by rw [List.reverse_reverse]; exact (List.take_append_drop _ _).symm) hc1
  obtain ⟨M, hM, hlink, hkind⟩ := (hlk _ _ _ _ _ _ hlnk : ∃ M : cMth, Z.2.1 a = some M ∧ Jvm.Cond.methodLinkNest (Z.1 own) i M.1 Z.2.2.2.2 ∈ Z.2.2.2.1 ∧ M.2.2.2.2 = 0)
  obtain ⟨m1, m2, m3, m4, m5, m6, m7, m8⟩ := hmO a M hM
  obtain ⟨t1, t2, t3, t4⟩ := m8 ct hct
  have hd0 : 0 ≤ c_ev pv (ct_dep ct) := hpre.2.2.1 _ t2
  have hd1 := hdep r1 hag
  obtain ⟨d, hdd⟩ : ∃ d, R.frames = d + 1 := ⟨R.frames - 1, by omega⟩
  have hGd := hG d (by omega) a ct hct M (by rw [t1]; exact hM) w pv vals hpre (by omega) hT hD
  refine c_callU (D := D) (cl := cl) (dA := dA) (K := K) (ct := ct) (r1 := pv) (w := w) (va := vals.toArray) (rest := ss) ?_ hS fun rv res w' H1 locs1 hrv hpost hP1 hD1 hT1 hS1 => ?_
  · obtain ⟨t, bb, al, ci, N, T, u1, u2, u3⟩ := t4 (by omega)
    have harg := hpre.1
    rw [u1] at harg
    obtain ⟨x, As, rfl, ce, hx1, hx2⟩ := c_args_ref harg
    obtain ⟨q0, hq0⟩ := c_idx hx1
    have hform := (hT _ hx1).1
    dsimp only at hform
    rw [hx2, u2] at hform
    obtain ⟨fs, rfl, -⟩ := hform
    have hlenA : As.length = (ct_args ct).length - 1 := by
      rw [← hlen, List.length_cons]
      omega
    rw [if_neg (by omega)] at t3
    exact va_runVN (bytes := M.2.1) (maxL := M.2.2.1) (ret := M.2.2.2.1) (C := M.1.cls) ⟨hx, hb, hml, hown, hts⟩ hGd ⟨va_cnB (rm := c_rm d ct) (ws' := Z.2.2.1) _ hts (c_goodIn hgd m1) rfl rfl rfl (hN _ hlink) (hts _ m2) ⟨m3.1, m3.2, t3⟩ ⟨by rw [hdd]; exact Nat.le_refl _, by have := hR.2.2; show 8 + (M.2.2.1 + 11) + 64 * d ≤ _; omega⟩, hts _ (m5 hkind).1, hts _ (m5 hkind).2⟩ ⟨c_blind hnw, va_recv hK hP u3 hq0, (c_Bp_at hnw hK hN hA hP hS)⟩ rfl hlenA hl.1 (by show (Value.ref x :: As).reverse ++ ss = _; rw [List.reverse_cons, List.append_assoc]; rfl) (c_F_mr hcat) hd ⟨Nat.le_trans hcu hR.1, Nat.le_trans hsu hR.2.1⟩
  · obtain ⟨⟨q, hq, hq1, k1, k2, k3⟩, k4⟩ := hcont w' rv res hrv hT1 hD1 hpost
    have hfin := hL q hq lv _ w' _ _ k2 k3 hT1 (k4 w0 hE) k1 H1 locs1 ls hP1 hD1 hS1 hl
    rw [hq1] at hfin
    exact hfin

theorem c_mc_invokestatic1 {i a : Nat} {v : Int} (hx : p.tables.exec = Jvm.exec) (hb : c.code = cc) (hml : c.maxLocals = nL) (hown : s.vm.findClass (Z.1 own) = some m.cls) (hts : ∀ w ∈ Z.2.2.1, w.before args s = true) (hK : va_K D cl (c_tys dA bk) s) (hN : ∀ x ∈ Z.2.2.2.1, va_Nw x s) (hnw : ∀ x ∈ Z.2.2.2.1, ∃ (a : String) (i : Nat) (y : MethodName) (h : String), x = .methodLinkNest a i y h) (hA : c_AX AA s) (hgd : GoodIn Z.2.2.1 Z.2.2.1) (hmO : c_mOk K P cl Z) (hlk : c_lnkOk P cl Z)
    (hdep : ∀ r, c_agr n0 r0 r → c_ev r (ct_dep O) ≤ (R.frames : Int)) (hR : ct_mc O ≤ R.cells ∧ ct_ms O ≤ R.slots ∧ 64 * R.frames ≤ R.locals) (hG : ∀ d, d < R.frames → ∀ a, ∀ ct ∈ P.2.1 a, c_Good l D cl dA AA bk K Z d ct) (hlnk : P.1 own i = some (1, a, 1, v)) (g : c_call K O A (pc + 3) ((c_stk A).take (P.2.2.1 a)).reverse ((c_stk A).drop (P.2.2.1 a)) (P.2.1 a) = some L) (hd : decode cc pc = .ok (.invokestatic i, 3)) (hL : ∀ q ∈ L, c_OK ((p, l, e, R, s, m, args, below, meth, c), (D, cl, dA, AA), (K, O, w0), (cc, nL, Q)) n0 r0 q.1 q.2) : c_OK ((p, l, e, R, s, m, args, below, meth, c), (D, cl, dA, AA), (K, O, w0), (cc, nL, Q)) n0 r0 pc A := by
  obtain ⟨ct, hct, hc1⟩ := c_call_in g
  intro lv st w cu su hcu hsu hT hE hs H locs ls hP hD hS hl
  subst hcu; subst hsu
  obtain ⟨vals, ss, pv, rfl, hlen, hcat, hpre, ⟨r1, hag, hdp⟩, hcu, hsu, hcont⟩ := c_call1_ok hT hD hs (by rw [List.reverse_reverse]; exact (List.take_append_drop _ _).symm) hc1
  obtain ⟨M, hM, hlink, hkind⟩ := (hlk _ _ _ _ _ _ hlnk : ∃ M : cMth, Z.2.1 a = some M ∧ Jvm.Cond.methodLink (Z.1 own) i M.1 ∈ Z.2.2.1 ∧ M.2.2.2.2 = 1)
  obtain ⟨m1, m2, m3, m4, m5, m6, m7, m8⟩ := hmO a M hM
  obtain ⟨t1, t2, t3, t4⟩ := m8 ct hct
  have hd0 : 0 ≤ c_ev pv (ct_dep ct) := hpre.2.2.1 _ t2
  have hd1 := hdep r1 hag
  obtain ⟨d, hdd⟩ : ∃ d, R.frames = d + 1 := ⟨R.frames - 1, by omega⟩
  have hGd := hG d (by omega) a ct hct M (by rw [t1]; exact hM) w pv vals hpre (by omega) hT hD
  refine c_callU (D := D) (cl := cl) (dA := dA) (K := K) (ct := ct) (r1 := pv) (w := w) (va := vals.toArray) (rest := ss) ?_ hS fun rv res w' H1 locs1 hrv hpost hP1 hD1 hT1 hS1 => ?_
  · rw [if_pos hkind] at t3
    exact va_runS (bytes := M.2.1) (maxL := M.2.2.1) (ret := M.2.2.2.1) ⟨hx, hb, hml, hown, hts⟩ hGd ⟨callB_of (rm := c_rm d ct) (ws' := Z.2.2.1) _ hts (c_goodIn hgd m1) rfl rfl rfl (hts _ m2) (hts _ hlink) ⟨m3.1, m3.2, t3⟩ ⟨by rw [hdd]; exact Nat.le_refl _, by have := hR.2.2; show 8 + (M.2.2.1 + 11) + 64 * d ≤ _; omega⟩, hts _ (m6 hkind)⟩ ⟨c_blind hnw, (c_Bp_at hnw hK hN hA hP hS)⟩ rfl (by rw [hlen]; exact (Nat.sub_zero _).symm) hl.1 rfl (c_F_mr hcat) hd ⟨Nat.le_trans hcu hR.1, Nat.le_trans hsu hR.2.1⟩
  · obtain ⟨⟨q, hq, hq1, k1, k2, k3⟩, k4⟩ := hcont w' rv res hrv hT1 hD1 hpost
    have hfin := hL q hq lv _ w' _ _ k2 k3 hT1 (k4 w0 hE) k1 H1 locs1 ls hP1 hD1 hS1 hl
    rw [hq1] at hfin
    exact hfin

theorem c_mc_invokestatic2 {i a : Nat} {v : Int} (hx : p.tables.exec = Jvm.exec) (hb : c.code = cc) (hml : c.maxLocals = nL) (hown : s.vm.findClass (Z.1 own) = some m.cls) (hts : ∀ w ∈ Z.2.2.1, w.before args s = true) (hK : va_K D cl (c_tys dA bk) s) (hN : ∀ x ∈ Z.2.2.2.1, va_Nw x s) (hnw : ∀ x ∈ Z.2.2.2.1, ∃ (a : String) (i : Nat) (y : MethodName) (h : String), x = .methodLinkNest a i y h) (hA : c_AX AA s) (hgd : GoodIn Z.2.2.1 Z.2.2.1) (hmO : c_mOk K P cl Z) (hlk : c_lnkOk P cl Z)
    (hdep : ∀ r, c_agr n0 r0 r → c_ev r (ct_dep O) ≤ (R.frames : Int)) (hR : ct_mc O ≤ R.cells ∧ ct_ms O ≤ R.slots ∧ 64 * R.frames ≤ R.locals) (hG : ∀ d, d < R.frames → ∀ a, ∀ ct ∈ P.2.1 a, c_Good l D cl dA AA bk K Z d ct) (hlnk : P.1 own i = some (2, a, 1, v)) (g : c_call K O A (pc + 3) ((c_stk A).take (P.2.2.1 a)).reverse ((c_stk A).drop (P.2.2.1 a)) (P.2.1 a) = some L) (hd : decode cc pc = .ok (.invokestatic i, 3)) (hL : ∀ q ∈ L, c_OK ((p, l, e, R, s, m, args, below, meth, c), (D, cl, dA, AA), (K, O, w0), (cc, nL, Q)) n0 r0 q.1 q.2) : c_OK ((p, l, e, R, s, m, args, below, meth, c), (D, cl, dA, AA), (K, O, w0), (cc, nL, Q)) n0 r0 pc A := by
  obtain ⟨ct, hct, hc1⟩ := c_call_in g
  intro lv st w cu su hcu hsu hT hE hs H locs ls hP hD hS hl
  subst hcu; subst hsu
  obtain ⟨vals, ss, pv, rfl, hlen, hcat, hpre, ⟨r1, hag, hdp⟩, hcu, hsu, hcont⟩ := c_call1_ok hT hD hs (by rw [List.reverse_reverse]; exact (List.take_append_drop _ _).symm) hc1
  obtain ⟨M, hM, hlink, hkind⟩ := (hlk _ _ _ _ _ _ hlnk : ∃ M : cMth, Z.2.1 a = some M ∧ Jvm.Cond.methodLinkNest (Z.1 own) i M.1 Z.2.2.2.2 ∈ Z.2.2.2.1 ∧ M.2.2.2.2 = 1)
  obtain ⟨m1, m2, m3, m4, m5, m6, m7, m8⟩ := hmO a M hM
  obtain ⟨t1, t2, t3, t4⟩ := m8 ct hct
  have hd0 : 0 ≤ c_ev pv (ct_dep ct) := hpre.2.2.1 _ t2
  have hd1 := hdep r1 hag
  obtain ⟨d, hdd⟩ : ∃ d, R.frames = d + 1 := ⟨R.frames - 1, by omega⟩
  have hGd := hG d (by omega) a ct hct M (by rw [t1]; exact hM) w pv vals hpre (by omega) hT hD
  refine c_callU (D := D) (cl := cl) (dA := dA) (K := K) (ct := ct) (r1 := pv) (w := w) (va := vals.toArray) (rest := ss) ?_ hS fun rv res w' H1 locs1 hrv hpost hP1 hD1 hT1 hS1 => ?_
  · rw [if_pos hkind] at t3
    exact va_runSN (bytes := M.2.1) (maxL := M.2.2.1) (ret := M.2.2.2.1) ⟨hx, hb, hml, hown, hts⟩ hGd ⟨va_cnB (rm := c_rm d ct) (ws' := Z.2.2.1) _ hts (c_goodIn hgd m1) rfl rfl rfl (hN _ hlink) (hts _ m2) ⟨m3.1, m3.2, t3⟩ ⟨by rw [hdd]; exact Nat.le_refl _, by have := hR.2.2; show 8 + (M.2.2.1 + 11) + 64 * d ≤ _; omega⟩, hts _ (m6 hkind), trivial⟩ ⟨c_blind hnw, (c_Bp_at hnw hK hN hA hP hS)⟩ rfl (by rw [hlen]; exact (Nat.sub_zero _).symm) hl.1 rfl (c_F_mr hcat) hd ⟨Nat.le_trans hcu hR.1, Nat.le_trans hsu hR.2.1⟩
  · obtain ⟨⟨q, hq, hq1, k1, k2, k3⟩, k4⟩ := hcont w' rv res hrv hT1 hD1 hpost
    have hfin := hL q hq lv _ w' _ _ k2 k3 hT1 (k4 w0 hE) k1 H1 locs1 ls hP1 hD1 hS1 hl
    rw [hq1] at hfin
    exact hfin

theorem c_mc_invokespecial1 {i a : Nat} {v : Int} (hx : p.tables.exec = Jvm.exec) (hb : c.code = cc) (hml : c.maxLocals = nL) (hown : s.vm.findClass (Z.1 own) = some m.cls) (hts : ∀ w ∈ Z.2.2.1, w.before args s = true) (hK : va_K D cl (c_tys dA bk) s) (hN : ∀ x ∈ Z.2.2.2.1, va_Nw x s) (hnw : ∀ x ∈ Z.2.2.2.1, ∃ (a : String) (i : Nat) (y : MethodName) (h : String), x = .methodLinkNest a i y h) (hA : c_AX AA s) (hgd : GoodIn Z.2.2.1 Z.2.2.1) (hmO : c_mOk K P cl Z) (hlk : c_lnkOk P cl Z)
    (hdep : ∀ r, c_agr n0 r0 r → c_ev r (ct_dep O) ≤ (R.frames : Int)) (hR : ct_mc O ≤ R.cells ∧ ct_ms O ≤ R.slots ∧ 64 * R.frames ≤ R.locals) (hG : ∀ d, d < R.frames → ∀ a, ∀ ct ∈ P.2.1 a, c_Good l D cl dA AA bk K Z d ct) (hlnk : P.1 own i = some (1, a, 2, v)) (g : c_call K O A (pc + 3) ((c_stk A).take (P.2.2.1 a)).reverse ((c_stk A).drop (P.2.2.1 a)) (P.2.1 a) = some L) (hd : decode cc pc = .ok (.invokespecial i, 3)) (hL : ∀ q ∈ L, c_OK ((p, l, e, R, s, m, args, below, meth, c), (D, cl, dA, AA), (K, O, w0), (cc, nL, Q)) n0 r0 q.1 q.2) : c_OK ((p, l, e, R, s, m, args, below, meth, c), (D, cl, dA, AA), (K, O, w0), (cc, nL, Q)) n0 r0 pc A := by
  obtain ⟨ct, hct, hc1⟩ := c_call_in g
  intro lv st w cu su hcu hsu hT hE hs H locs ls hP hD hS hl
  subst hcu; subst hsu
  obtain ⟨vals, ss, pv, rfl, hlen, hcat, hpre, ⟨r1, hag, hdp⟩, hcu, hsu, hcont⟩ := c_call1_ok hT hD hs (by rw [List.reverse_reverse]; exact (List.take_append_drop _ _).symm) hc1
  obtain ⟨M, hM, hlink, hkind⟩ := (hlk _ _ _ _ _ _ hlnk : ∃ M : cMth, Z.2.1 a = some M ∧ Jvm.Cond.methodLink (Z.1 own) i M.1 ∈ Z.2.2.1 ∧ M.2.2.2.2 = 2)
  obtain ⟨m1, m2, m3, m4, m5, m6, m7, m8⟩ := hmO a M hM
  obtain ⟨t1, t2, t3, t4⟩ := m8 ct hct
  have hd0 : 0 ≤ c_ev pv (ct_dep ct) := hpre.2.2.1 _ t2
  have hd1 := hdep r1 hag
  obtain ⟨d, hdd⟩ : ∃ d, R.frames = d + 1 := ⟨R.frames - 1, by omega⟩
  have hGd := hG d (by omega) a ct hct M (by rw [t1]; exact hM) w pv vals hpre (by omega) hT hD
  refine c_callU (D := D) (cl := cl) (dA := dA) (K := K) (ct := ct) (r1 := pv) (w := w) (va := vals.toArray) (rest := ss) ?_ hS fun rv res w' H1 locs1 hrv hpost hP1 hD1 hT1 hS1 => ?_
  · obtain ⟨t, bb, al, ci, N, T, u1, u2, u3⟩ := t4 (by omega)
    have harg := hpre.1
    rw [u1] at harg
    obtain ⟨x, As, rfl, ce, hx1, hx2⟩ := c_args_ref harg
    obtain ⟨q0, hq0⟩ := c_idx hx1
    have hform := (hT _ hx1).1
    dsimp only at hform
    rw [hx2, u2] at hform
    obtain ⟨fs, rfl, -⟩ := hform
    have hlenA : As.length = (ct_args ct).length - 1 := by
      rw [← hlen, List.length_cons]
      omega
    rw [if_neg (by omega)] at t3
    exact va_runI (bytes := M.2.1) (maxL := M.2.2.1) ⟨hx, hb, hml, hown, hts⟩ hGd ⟨callB_of (rm := c_rm d ct) (ws' := Z.2.2.1) _ hts (c_goodIn hgd m1) (by unfold c_ws; rw [(m7 hkind).2.2]) rfl rfl (hts _ m2) (hts _ hlink) ⟨m3.1, m3.2, t3⟩ ⟨by rw [hdd]; exact Nat.le_refl _, by have := hR.2.2; show 8 + (M.2.2.1 + 11) + 64 * d ≤ _; omega⟩, (m7 hkind).2.1, hts _ (m7 hkind).1⟩ ⟨c_blind hnw, (c_Bp_at hnw hK hN hA hP hS)⟩ rfl hlenA hl.1 (by show (Value.ref x :: As).reverse ++ ss = _; rw [List.reverse_cons, List.append_assoc]; rfl) (c_F_mr hcat) hd ⟨Nat.le_trans hcu hR.1, Nat.le_trans hsu hR.2.1⟩
  · obtain ⟨⟨q, hq, hq1, k1, k2, k3⟩, k4⟩ := hcont w' rv res hrv hT1 hD1 hpost
    have hfin := hL q hq lv _ w' _ _ k2 k3 hT1 (k4 w0 hE) k1 H1 locs1 ls hP1 hD1 hS1 hl
    rw [hq1] at hfin
    exact hfin

theorem c_mc_invokespecial2 {i a : Nat} {v : Int} (hx : p.tables.exec = Jvm.exec) (hb : c.code = cc) (hml : c.maxLocals = nL) (hown : s.vm.findClass (Z.1 own) = some m.cls) (hts : ∀ w ∈ Z.2.2.1, w.before args s = true) (hK : va_K D cl (c_tys dA bk) s) (hN : ∀ x ∈ Z.2.2.2.1, va_Nw x s) (hnw : ∀ x ∈ Z.2.2.2.1, ∃ (a : String) (i : Nat) (y : MethodName) (h : String), x = .methodLinkNest a i y h) (hA : c_AX AA s) (hgd : GoodIn Z.2.2.1 Z.2.2.1) (hmO : c_mOk K P cl Z) (hlk : c_lnkOk P cl Z)
    (hdep : ∀ r, c_agr n0 r0 r → c_ev r (ct_dep O) ≤ (R.frames : Int)) (hR : ct_mc O ≤ R.cells ∧ ct_ms O ≤ R.slots ∧ 64 * R.frames ≤ R.locals) (hG : ∀ d, d < R.frames → ∀ a, ∀ ct ∈ P.2.1 a, c_Good l D cl dA AA bk K Z d ct) (hlnk : P.1 own i = some (2, a, 2, v)) (g : c_call K O A (pc + 3) ((c_stk A).take (P.2.2.1 a)).reverse ((c_stk A).drop (P.2.2.1 a)) (P.2.1 a) = some L) (hd : decode cc pc = .ok (.invokespecial i, 3)) (hL : ∀ q ∈ L, c_OK ((p, l, e, R, s, m, args, below, meth, c), (D, cl, dA, AA), (K, O, w0), (cc, nL, Q)) n0 r0 q.1 q.2) : c_OK ((p, l, e, R, s, m, args, below, meth, c), (D, cl, dA, AA), (K, O, w0), (cc, nL, Q)) n0 r0 pc A := by
  obtain ⟨ct, hct, hc1⟩ := c_call_in g
  intro lv st w cu su hcu hsu hT hE hs H locs ls hP hD hS hl
  subst hcu; subst hsu
  obtain ⟨vals, ss, pv, rfl, hlen, hcat, hpre, ⟨r1, hag, hdp⟩, hcu, hsu, hcont⟩ := c_call1_ok hT hD hs (by rw [List.reverse_reverse]; exact (List.take_append_drop _ _).symm) hc1
  obtain ⟨M, hM, hlink, hkind⟩ := (hlk _ _ _ _ _ _ hlnk : ∃ M : cMth, Z.2.1 a = some M ∧ Jvm.Cond.methodLinkNest (Z.1 own) i M.1 Z.2.2.2.2 ∈ Z.2.2.2.1 ∧ M.2.2.2.2 = 2)
  obtain ⟨m1, m2, m3, m4, m5, m6, m7, m8⟩ := hmO a M hM
  obtain ⟨t1, t2, t3, t4⟩ := m8 ct hct
  have hd0 : 0 ≤ c_ev pv (ct_dep ct) := hpre.2.2.1 _ t2
  have hd1 := hdep r1 hag
  obtain ⟨d, hdd⟩ : ∃ d, R.frames = d + 1 := ⟨R.frames - 1, by omega⟩
  have hGd := hG d (by omega) a ct hct M (by rw [t1]; exact hM) w pv vals hpre (by omega) hT hD
  refine c_callU (D := D) (cl := cl) (dA := dA) (K := K) (ct := ct) (r1 := pv) (w := w) (va := vals.toArray) (rest := ss) ?_ hS fun rv res w' H1 locs1 hrv hpost hP1 hD1 hT1 hS1 => ?_
  · obtain ⟨t, bb, al, ci, N, T, u1, u2, u3⟩ := t4 (by omega)
    have harg := hpre.1
    rw [u1] at harg
    obtain ⟨x, As, rfl, ce, hx1, hx2⟩ := c_args_ref harg
    obtain ⟨q0, hq0⟩ := c_idx hx1
    have hform := (hT _ hx1).1
    dsimp only at hform
    rw [hx2, u2] at hform
    obtain ⟨fs, rfl, -⟩ := hform
    have hlenA : As.length = (ct_args ct).length - 1 := by
      rw [← hlen, List.length_cons]
      omega
    rw [if_neg (by omega)] at t3
    exact va_runIN (bytes := M.2.1) (maxL := M.2.2.1) ⟨hx, hb, hml, hown, hts⟩ hGd ⟨va_cnB (rm := c_rm d ct) (ws' := Z.2.2.1) _ hts (c_goodIn hgd m1) (by unfold c_ws; rw [(m7 hkind).2.2]) rfl rfl (hN _ hlink) (hts _ m2) ⟨m3.1, m3.2, t3⟩ ⟨by rw [hdd]; exact Nat.le_refl _, by have := hR.2.2; show 8 + (M.2.2.1 + 11) + 64 * d ≤ _; omega⟩, (m7 hkind).2.1, hts _ (m7 hkind).1⟩ ⟨c_blind hnw, (c_Bp_at hnw hK hN hA hP hS)⟩ rfl hlenA hl.1 (by show (Value.ref x :: As).reverse ++ ss = _; rw [List.reverse_cons, List.append_assoc]; rfl) (c_F_mr hcat) hd ⟨Nat.le_trans hcu hR.1, Nat.le_trans hsu hR.2.1⟩
  · obtain ⟨⟨q, hq, hq1, k1, k2, k3⟩, k4⟩ := hcont w' rv res hrv hT1 hD1 hpost
    have hfin := hL q hq lv _ w' _ _ k2 k3 hT1 (k4 w0 hE) k1 H1 locs1 ls hP1 hD1 hS1 hl
    rw [hq1] at hfin
    exact hfin

end MC
