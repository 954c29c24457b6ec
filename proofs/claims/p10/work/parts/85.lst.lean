/-! the law's start -/
theorem k_inL (c i : Nat) {w : Cond} (h : (k_tb c)[i]? = some w) : w ∈ lw_tbl := k_tb_in (List.mem_of_getElem? h)
theorem k_inst : ∀ (ci : Nat) (C : String) (T : u_T) (N : Nat), k_cl[ci]? = some (C, T, N) → Jvm.Cond.instantiable C N ∈ k_ws := by
  intro ci C T N hc
  match ci, hc with
  | 0, hc => rw [k_cc0] at hc; cases hc; exact (k_in 1 154 rfl rfl)
  | 1, hc => rw [k_cc1] at hc; cases hc; exact (k_in 1 30 rfl rfl)
  | 2, hc => rw [k_cc2] at hc; cases hc; exact (k_in 1 160 rfl rfl)
  | 3, hc => rw [k_cc3] at hc; cases hc; exact (k_in 2 20 rfl rfl)
  | 4, hc => rw [k_cc4] at hc; cases hc; exact (k_in 1 49 rfl rfl)
  | 5, hc => rw [k_cc5] at hc; cases hc; exact (k_in 2 54 rfl rfl)
  | 6, hc => rw [k_cc6] at hc; cases hc; exact (k_in 2 147 rfl rfl)
  | 7, hc => rw [k_cc7] at hc; cases hc; exact (k_in 3 48 rfl rfl)
  | 8, hc => rw [k_cc8] at hc; cases hc; exact (k_in 1 226 rfl rfl)
  | 9, hc => rw [k_cc9] at hc; cases hc; exact (k_in 2 180 rfl rfl)
  | 10, hc => rw [k_cc10] at hc; cases hc; exact (k_in 3 1 rfl rfl)
  | 11, hc => rw [k_cc11] at hc; cases hc; exact (k_in 1 22 rfl rfl)
  | 12, hc => rw [k_cc12] at hc; cases hc; exact (k_in 7 63 rfl rfl)
  | n + 13, hc => exact absurd hc (by unfold k_cl; simp)
theorem k_known {s : State} {args : Array Value} (hts : ∀ w ∈ k_ws, w.before args s = true) : ∃ D : va_G, ∀ (ci : Nat) (q : vw_C), k_cl[ci]? = some q → u_Kn s q.1 q.2.1 q.2.2 (D.1 ci) (D.2 ci) := by
  have hex : ∀ ci : Nat, ∃ f : ClassId × (Nat → Nat), ∀ q : vw_C, k_cl[ci]? = some q → u_Kn s q.1 q.2.1 q.2.2 f.1 f.2 := by
    intro ci
    cases hq : k_cl[ci]? with
    | none => exact ⟨(0, fun _ => 0), fun q h => by cases h⟩
    | some q =>
      obtain ⟨C, T, N⟩ := q
      obtain ⟨cC, iS, h⟩ := u_known (n := N) hts (k_clsOk ci C T N hq).1 (hts _ (k_inst ci C T N hq))
      exact ⟨(cC, iS), fun q' h' => by cases h'; exact h⟩
  obtain ⟨f, hf⟩ := Classical.axiomOfChoice hex
  exact ⟨(fun c => (f c).1, fun c => (f c).2), hf⟩
theorem k_prim {s : State} {args : Array Value} {ty : FieldType} (h : (Cond.arrayClass ty).before args s = true) : ∃ cA, ArrOfT s cA ty ∧ s.vm.findClass ("[" ++ ty.toString) = some cA := by
  obtain ⟨cA, k, comp, h1, h2, h3⟩ := Cond.arrayClass_spec h
  exact ⟨cA, fun n z => ⟨fun x => by simp [arrV], k, h2, comp, h3⟩, h1⟩
theorem k_arrs {s : State} {args : Array Value} (hts : ∀ w ∈ lw_tbl, w.before args s = true) : ∃ dA : Nat → ClassId, ∀ (k : Nat) (q : ClassId × FieldType), (c_tys dA "MayBoats$Book")[k]? = some q → ArrOfT s q.1 q.2 ∧ va_RA s q.1 q.2 := by
  obtain ⟨c1, a1, b1⟩ := k_prim (ty := .int) (hts _ (k_inL 1 150 rfl))
  obtain ⟨c2, a2, b2⟩ := k_prim (ty := .long) (hts _ (k_inL 1 149 rfl))
  obtain ⟨c3, a3, b3⟩ := k_prim (ty := .byte) (hts _ (k_inL 1 151 rfl))
  obtain ⟨c4, a4, b4⟩ := k_prim (ty := .short) (hts _ (k_inL 1 152 rfl))
  obtain ⟨c5, a5, b5⟩ := k_prim (ty := .boolean) (hts _ (k_inL 3 92 rfl))
  obtain ⟨comp6, c6, k6, g1, g2, g3, g4, g5⟩ := Cond.arrayOver_spec (hts _ (k_inL 2 145 rfl))
  obtain ⟨comp7, c7, k7, e1, e2, e3, e4⟩ := k_ovr (hts _ (k_inL 1 47 rfl))
  refine ⟨fun k => match k with
    | 1 => c1
    | 2 => c2
    | 3 => c3
    | 4 => c4
    | 5 => c5
    | 6 => c6
    | _ => c7, fun k q hq => ?_⟩
  match k, hq with
  | 0, hq => cases hq; exact ⟨a1, b1⟩
  | 1, hq => cases hq; exact ⟨a2, b2⟩
  | 2, hq => cases hq; exact ⟨a3, b3⟩
  | 3, hq => cases hq; exact ⟨a4, b4⟩
  | 4, hq => cases hq; exact ⟨a5, b5⟩
  | 5, hq => cases hq; exact ⟨fun n z => ⟨fun x => by simp [arrV], k6, g3, comp6, g4⟩, k6, comp6, g3, g4, g1, g5⟩
  | 6, hq => cases hq; exact ⟨fun n z => ⟨fun x => by simp [arrV], k7, e2, comp7, e3⟩, e4⟩
  | n + 7, hq => exact absurd hq (by unfold c_tys; simp)
def k_wtm : Nat → Term
  | 0 => .string "MayBoats$Reader" 42
  | 1 => .string "MayBoats$Reader" 48
  | _ => .string "MayBoats$Reader" 50
def k_wfl : List Cond := flatC (Jvm.Cond.and given_1 narrow_1)
theorem k_wf1 : ∀ i, i < 3 → (Cond.exactly (k_wtm i) "java/lang/String") ∈ k_wfl := by decide +kernel
theorem k_wf2 : ∀ i, i < 3 → (Cond.eq (.field (k_wtm i) "java/lang/String" "coder" "B") (.int 0)) ∈ k_wfl := by decide +kernel
theorem k_wf3 : ∀ i, i < 3 → (Cond.arrayOf (.field (k_wtm i) "java/lang/String" "value" "[B") .byte) ∈ k_wfl := by decide +kernel
theorem k_wf4 : ∀ i, i < 3 → (Cond.eq (.length (.field (k_wtm i) "java/lang/String" "value" "[B")) (.int (Int32.ofNat (k_sl.getD i 0)))) ∈ k_wfl := by decide +kernel
theorem k_wf5 : ∀ i, i < 3 → ∀ j, j < k_sl.getD i 0 → (Cond.eq (.elem (.field (k_wtm i) "java/lang/String" "value" "[B") (.int (Int32.ofNat j))) (.int ((k_sb.getD i []).getD j 0))) ∈ k_wfl := by decide +kernel
theorem k_wf6 : ∀ i, i < 3 → ∀ j, j < 3 → i ≠ j → (Cond.not (Cond.eq (k_wtm i) (k_wtm j))) ∈ k_wfl ∨ (Cond.not (Cond.eq (k_wtm j) (k_wtm i))) ∈ k_wfl := by decide +kernel
theorem k_wf7 : (Cond.eq (.static "java/lang/String" "COMPACT_STRINGS" "Z") (.int 1)) ∈ k_wfl := by decide +kernel
theorem k_wf8 : (Cond.isRef (.static "jdk/internal/util/Preconditions" "SIOOBE_FORMATTER" "Ljava/util/function/BiFunction;")) ∈ k_wfl := by decide +kernel
theorem k_Xi0 {s : State} {args : Array Value} (hts : ∀ w ∈ lw_tbl, w.before args s = true) (hgv : (Jvm.Cond.and given_1 narrow_1).before args s = true) : c_Xi (k_AA s) s := by
  have hs : ∀ x ∈ k_wfl, x.before args s = true := flat_of_before _ hgv
  have hA : ∀ a : Nat, a < s.heap.size → ¬ k_AA s a := fun a h => Nat.not_le.mpr h
  obtain ⟨adK, adV, h1, h2⟩ := vk_Sof (args := args) (s := s) (N := 3) (tm := k_wtm) (len := k_sl) (byt := k_sb) (A := k_AA s) (fun i hi => by have := k_sl31 hi; omega) (fun i hi => hs _ (k_wf1 i hi)) (fun i hi => hs _ (k_wf2 i hi)) (fun i hi => hs _ (k_wf3 i hi)) (fun i hi => hs _ (k_wf4 i hi)) (fun i hi j hj => hs _ (k_wf5 i hi j hj)) (fun i j hi hj hij => (k_wf6 i hi j hj hij).imp (fun h => hs _ h) (fun h => hs _ h)) hA
  exact ⟨adK, adV, 0, h1, ⟨vk_R.of (hts _ (k_inL 1 54 rfl)) (h2 0 (by decide)), vk_R.of (hts _ (k_inL 1 108 rfl)) (h2 1 (by decide)), vk_R.of (hts _ (k_inL 1 109 rfl)) (h2 2 (by decide))⟩, va_Zof (hts _ (k_inL 1 68 rfl)) (hts _ (k_inL 1 4 rfl)) (va_eqi (hs _ k_wf7)) hA, va_Zqof (hts _ (k_inL 1 84 rfl)) (hts _ (k_inL 1 6 rfl)) (hs _ k_wf8) hA, va_AO.of (hts _ (k_inL 2 145 rfl)), hts _ (k_inL 1 47 rfl)⟩
/-! the law's first two calls: by the checker -/
def k_lnkL : List (Nat × cLk) := [(7, (3, 11, 20, 0)), (9, (1, 111, 2, 0)), (10, (3, 12, 58, 0)), (12, (1, 200, 2, 0))]
def k_PL : cPrg := (fun own idx => if Nat.beq own 19 then k_look idx k_lnkL else k_P.1 own idx, k_P.2)
theorem k_lnkOkL : c_lnkOk k_PL k_cl k_Z := by
  intro own idx k a b v h
  have h : (if Nat.beq own 19 then k_look idx k_lnkL else k_P.1 own idx) = some (k, a, b, v) := h
  split at h
  · rename_i ho
    have ho := Nat.eq_of_beq_eq_true ho
    subst ho
    have h1 := k_look_ok h
    have hall : k_allL 19 k_lnkL := ⟨k_l3 k_cc11 (k_in 1 21 rfl rfl) (k_in 1 22 rfl rfl) k_cw11.1, k_l1 k_M111 rfl (k_in 1 23 rfl rfl) rfl, k_l3 k_cc12 (k_in 7 62 rfl rfl) (k_in 7 63 rfl rfl) k_cw12.1, k_l1 k_M200 rfl (k_in 7 64 rfl rfl) rfl, trivial⟩
    exact k_allL_ok hall _ h1
  · exact k_lnkOk _ _ _ _ _ _ h
def k_cL : cCtr := (999, [(2, 0, 0, 0)], [], [], [], (1001, []), (List.range 120).map (fun t => (t, 0, 1000000000000)), (List.range 13).map (fun t => t + 101), 0, 200, 20000, 0, [])
def k_T16 : cSt := (34, [(4, 0, 0), (5, 0, 0), (8, 671470, 671470), (9, 370116, 370116), (10, 80948, 80948), (11, 12343, 12343), (12, 824370, 824370), (13, 659100852, 659100852), (14, 8500, 8500), (15, 149559, 149559), (16, 72983685, 72983685), (17, 3764, 3764), (18, 21091227283, 21091227283), (19, 72564293, 72564293), (20, 1265842, 1265842), (21, 24157363, 24157363), (22, 19053203, 19053203), (23, 21081, 21081), (24, 164968, 164968), (25, 5572, 5572), (26, 12748404, 12748404), (27, 498, 498), (28, 1476, 1476), (29, 14836, 14836), (30, 202124, 202124), (31, 605797, 605797), (32, 267652, 267652), (33, 486, 486)], [(2, 3), (3, 3), (6, 3), (7, 3)], [(2, 12), (3, 13), (6, 5), (7, 36)], [], [(0, (2, (0, [(1, 1)]))), (1, (2, (0, [(2, 1)]))), (2, (2, (0, [(3, 1)])))], [], [(0, (1, []), (1, (1, []))), (2, (7, []), (0, (0, [(4, 1)]))), (3, (8, []), (0, (0, [(5, 1)]))), (2, (8, []), (2, (0, [(6, 1)]))), (6, (4, []), (2, (0, [(7, 1)]))), (7, (0, []), (1, (0, [(8, 1)]))), (7, (1, []), (1, (0, [(9, 1)]))), (7, (2, []), (1, (0, [(10, 1)]))), (7, (3, []), (1, (0, [(11, 1)]))), (7, (4, []), (1, (0, [(12, 1)]))), (7, (5, []), (1, (0, [(13, 1)]))), (7, (6, []), (1, (0, [(14, 1)]))), (7, (7, []), (1, (0, [(15, 1)]))), (7, (8, []), (1, (0, [(16, 1)]))), (7, (9, []), (1, (0, [(17, 1)]))), (7, (10, []), (1, (0, [(18, 1)]))), (7, (11, []), (1, (0, [(19, 1)]))), (7, (12, []), (1, (0, [(20, 1)]))), (7, (13, []), (1, (0, [(21, 1)]))), (7, (14, []), (1, (0, [(22, 1)]))), (7, (15, []), (1, (0, [(23, 1)]))), (7, (16, []), (1, (0, [(24, 1)]))), (7, (17, []), (1, (0, [(25, 1)]))), (7, (18, []), (1, (0, [(26, 1)]))), (7, (19, []), (1, (0, [(27, 1)]))), (7, (20, []), (1, (0, [(28, 1)]))), (7, (21, []), (1, (0, [(29, 1)]))), (7, (22, []), (1, (0, [(30, 1)]))), (7, (23, []), (1, (0, [(31, 1)]))), (7, (24, []), (1, (0, [(32, 1)]))), (7, (25, []), (1, (0, [(33, 1)])))], 111, 18026)
def k_rwL : cCode := [(15, [(0, .new 7, 3), (3, .dup, 1), (4, .invokespecial 9, 3), (7, .astore_n 1, 1), (8, .new 10, 3), (11, .dup, 1), (12, .invokespecial 12, 3), (15, .astore_n 2, 1)])]
def k_bL : cBody := (4, 19, [], k_rwL, [(16, k_T16, (0, []))])
def k_A0L : cSt := (2, [], [], [], [], [(0, (2, c_sym 1))], [], [(0, (1, []), (1, (1, [])))], 0, 0)
theorem k_rL : c_go c_X0 k_K k_PL k_cL k_bL none 60 false [(0, k_A0L)] = true := by decide +kernel
theorem k_wfL : c_wfT k_T16 = true := by decide +kernel
section MCL
variable {p : Program} {l : Launch} {e : Env} {s : State} {m : MethodId} {args : Array Value} {below : List Frame} {meth : Method} {c : Code} {D : va_G} {cl : List vw_C} {dA : Nat → ClassId} {AA : Nat → Prop} {K : cTab} {O : cCtr} {w0 : cWld} {cc : ByteArray} {nL : Nat} {Q : State → Prop} {n0 : Nat} {r0 : Nat → Int}
  {P : cPrg} {own : Nat} {an : cAnn} {A : cSt} {pc len : Nat} {L : List (Nat × cSt)} {Z : cStat} {bk : String}
theorem k_mc_init {i a : Nat} {v : Int} (hx : p.tables.exec = Jvm.exec) (hb : c.code = cc) (hml : c.maxLocals = nL) (hown : s.vm.findClass (Z.1 own) = some m.cls) (hts : ∀ w ∈ Z.2.2.1, w.before args s = true) (hK : va_K D cl (c_tys dA bk) s) (hN : ∀ x ∈ Z.2.2.2.1, va_Nw x s) (hnw : ∀ x ∈ Z.2.2.2.1, ∃ (a : String) (i : Nat) (y : MethodName) (h : String), x = .methodLinkNest a i y h) (hA : c_AX AA s) (hgd : GoodIn Z.2.2.1 Z.2.2.1) (hmO : c_mOk K P cl Z) (hlk : c_lnkOk P cl Z)
    (hdO : ∀ r, c_ev r (ct_dep O) ≤ 1001) (hR : ct_mc O ≤ 600000 ∧ ct_ms O ≤ 7302250) (hG : ∀ a, ∀ ct ∈ P.2.1 a, c_Good l D cl dA AA bk K Z 1000 ct) (hlnk : P.1 own i = some (1, a, 2, v)) (g : c_call K O A (pc + 3) ((c_stk A).take (P.2.2.1 a)).reverse ((c_stk A).drop (P.2.2.1 a)) (P.2.1 a) = some L) (hd : decode cc pc = .ok (.invokespecial i, 3)) (hL : ∀ q ∈ L, c_OK ((p, l, e, room_1, s, m, args, below, meth, c), (D, cl, dA, AA), (K, O, w0), (cc, nL, Q)) n0 r0 q.1 q.2) : c_OK ((p, l, e, room_1, s, m, args, below, meth, c), (D, cl, dA, AA), (K, O, w0), (cc, nL, Q)) n0 r0 pc A := by
  obtain ⟨ct, hct, hc1⟩ := c_call_in g
  intro lv st w cu su hcu hsu hT hE hs H locs ls hP hD hS hl
  subst hcu; subst hsu
  obtain ⟨vals, ss, pv, rfl, hlen, hcat, hpre, ⟨r1, hag, hdp⟩, hcu, hsu, hcont⟩ := c_call1_ok hT hD hs (by rw [List.reverse_reverse]; exact (List.take_append_drop _ _).symm) hc1
  obtain ⟨M, hM, hlink, hkind⟩ := (hlk _ _ _ _ _ _ hlnk : ∃ M : cMth, Z.2.1 a = some M ∧ Jvm.Cond.methodLink (Z.1 own) i M.1 ∈ Z.2.2.1 ∧ M.2.2.2.2 = 2)
  obtain ⟨m1, m2, m3, m4, m5, m6, m7, m8⟩ := hmO a M hM
  obtain ⟨t1, t2, t3, t4⟩ := m8 ct hct
  have hd0 : 0 ≤ c_ev pv (ct_dep ct) := hpre.2.2.1 _ t2
  have hd1 := hdO r1
  have hGd := hG a ct hct M (by rw [t1]; exact hM) w pv vals hpre (by omega) hT hD
  refine c_callU (D := D) (cl := cl) (dA := dA) (K := K) (ct := ct) (r1 := pv) (w := w) (va := vals.toArray) (rest := ss) ?_ hS fun rv res w' H1 locs1 hrv hpost hP1 hD1 hT1 hS1 => ?_
  · obtain ⟨t, bb, al, ci, N, T, u1, u2, u3⟩ := t4 (by omega)
    have harg := hpre.1
    rw [u1] at harg
    obtain ⟨x, As, rfl, ce, hx1, hx2⟩ := c_args_ref harg
    obtain ⟨q0, hq0⟩ := c_idx hx1
    have hform := (hT _ hx1).1
    dsimp only at hform
    rw [hx2, u2] at hform
    obtain ⟨fs, rfl, -⟩ := hform
    have hlenA : As.length = (ct_args ct).length - 1 := by
      rw [← hlen, List.length_cons]
      omega
    rw [if_neg (by omega)] at t3
    exact va_runI (bytes := M.2.1) (maxL := M.2.2.1) ⟨hx, hb, hml, hown, hts⟩ hGd ⟨callB_of (rm := c_rm 1000 ct) (ws' := Z.2.2.1) _ hts (c_goodIn hgd m1) (by unfold c_ws; rw [(m7 hkind).2.2]) rfl rfl (hts _ m2) (hts _ hlink) ⟨m3.1, m3.2, t3⟩ ⟨by show 1000 + 1 ≤ 2048; omega, by show 8 + (M.2.2.1 + 11) + 64 * 1000 ≤ 84000; omega⟩, (m7 hkind).2.1, hts _ (m7 hkind).1⟩ ⟨c_blind hnw, (c_Bp_at hnw hK hN hA hP hS)⟩ rfl hlenA hl.1 (by show (Value.ref x :: As).reverse ++ ss = _; rw [List.reverse_cons, List.append_assoc]; rfl) (c_F_mr hcat) hd ⟨Nat.le_trans hcu hR.1, Nat.le_trans hsu hR.2⟩
  · obtain ⟨⟨q, hq, hq1, k1, k2, k3⟩, k4⟩ := hcont w' rv res hrv hT1 hD1 hpost
    have hfin := hL q hq lv _ w' _ _ k2 k3 hT1 (k4 w0 hE) k1 H1 locs1 ls hP1 hD1 hS1 hl
    rw [hq1] at hfin
    exact hfin

end MCL
section LLP
variable {p : Program} {l : Launch} {e : Env} {s : State} {m : MethodId} {below : List Frame} {meth : Method} {c : Code} {b L : Nat} {xs : Nat → Int32} {D : va_G} {dA : Nat → ClassId} {a1 a2 : Nat}
theorem k_sub7 {L : Nat} (hL : L ≤ 3584) : (Int32.ofNat L - 7).toInt = (L : Int) - 7 := by
  have h1 : (Int32.ofNat L).toInt = (L : Int) := nI_toInt (n := L) (by omega)
  have h2 : (7 : Int32).toInt = 7 := by decide
  rw [Int32.toInt_sub, h1, h2]
  exact Int.bmod_eq_of_le_mul_two (by omega) (by omega)
theorem k_loop (C : k_Cx p s m c b L xs D dA) (hr : meth.sig.returnType = ret) (hlocks : meth.locks = false) : ∀ (n k : Nat) (w : cWld) (H : Heap) (locs : List Loc) (ls : Array Slot), 513 ≤ n + k → k ≤ 512 → (k_In s D dA a1 a2 w H locs ∧ k_R a1 a2 w) → lv_has ls 4 (k_lv b a1 a2 (7 * k)) → W p l e room_1 s m #[Value.ref b] below meth c H locs (111 + 26 * k) (18026 + 1584 * k) (lw_Z below #[Value.ref b] s) (F0 m 18 ls [])
  | 0, k, w, H, locs, ls, hn, hk, I, hl => absurd hn (by omega)
  | n + 1, k, w, H, locs, ls, hn, hk, I, hl => by
    obtain ⟨hx, hb, hml, hown, hts, hK, hN, hAX, hX, hbl, hL⟩ := id C
    have hS := I.1.2.2.2.1
    refine lv_iload_n hx hb k_L18 rfl (lv_at hl 3 rfl) ?_
    refine lv_aload_n hx hb k_L19 rfl (lv_at hl 0 rfl) ?_
    refine va_slen hx hb hX hbl (A := k_AA s) (Nat.not_le.mpr hbl) hS k_L20 ?_
    refine lv_bipush (v := 7) hx hb k_L21 (by decide) ?_
    refine lv_isub hx hb k_L23 ?_
    have h7 := k_sub7 hL
    have h8 := nI_toInt (n := 7 * k) (by omega)
    refine lv_icmp_gt hx hb k_L24 (tgt := 1995) (by decide) (fun _ => ?_) (fun hlt => ?_)
    · refine va_forget (fun q hq => hS.2.2 q hq) ?_
      refine W.widen (k := 600000) (n := 7302250) (by omega) (by omega) ?_
      refine lv_iconst (v := 1) hx hb k_L1995 (by decide) ?_
      exact lw_ret hx hb hr hlocks k_L1996
    · have hi : 7 * k + 7 ≤ L := by
        rw [Int32.lt_iff_toInt_lt] at hlt
        omega
      refine lv_aload_n hx hb k_L27 rfl (lv_at hl 0 rfl) ?_
      refine lv_iload_n hx hb k_L28 rfl (lv_at hl 3 rfl) ?_
      refine va_sld hx hb hX hbl (A := k_AA s) (Nat.not_le.mpr hbl) hS (vp_in_nI (n := 7 * k) (by omega) (by omega)) k_L29 ?_
      refine lv_bipush (v := 63) hx hb k_L30 (by decide) ?_
      refine lv_iand hx hb k_L32 ?_
      obtain ⟨z, hz, hz2⟩ := pk_andE (xs (nI (7 * k)).toNatClampNeg) (m := 63) 6 (by decide)
      rw [hz2]
      have hcb : 111 + 26 * k + 26 ≤ 600000 := by omega
      have hsb : 18026 + 1584 * k + 1584 ≤ 7302250 := by omega
      have kk : ∀ (w : cWld) (H : Heap) (locs : List Loc), k_In s D dA a1 a2 w H locs ∧ k_R a1 a2 w → W p l e room_1 s m #[Value.ref b] below meth c H locs (111 + 26 * k + 26) (18026 + 1584 * k + 1584) (lw_Z below #[Value.ref b] s) (F0 m 1989 ls []) := by
        intro w H locs I
        refine lv_iinc (k := 3) (v := nI (7 * (k + 1))) (lv' := [(3, .int (nI (7 * (k + 1)))), (0, .ref b), (1, .ref a1), (2, .ref a2)]) hx hb k_L1989 hl rfl ?_ (by decide) rfl fun ls' hl' => ?_
        · show nI (7 * k) + Int32.ofInt 7 = nI (7 * (k + 1))
          rw [show Int32.ofInt 7 = nI 7 from by decide, nI_add]
          congr 1
        · refine lv_goto hx hb k_L1992 (tgt := 18) (by decide) ?_
          have e1 : 111 + 26 * k + 26 ≤ 111 + 26 * (k + 1) := by rw [Nat.mul_succ]; exact Nat.le_of_eq (Nat.add_assoc _ _ _)
          have e2 : 18026 + 1584 * k + 1584 ≤ 18026 + 1584 * (k + 1) := by rw [Nat.mul_succ]; exact Nat.le_of_eq (Nat.add_assoc _ _ _)
          refine W.widen (k := 111 + 26 * (k + 1)) (n := 18026 + 1584 * (k + 1)) e1 e2 ?_
          exact k_loop C hr hlocks n (k + 1) w H locs ls' (by omega) (by omega) I (lv_sub hl' [1, 2, 3, 0] rfl)
      match z, hz with
      | 0, _ => exact lv_tableIn hx hb k_L33 (tgt := 260) (off := 227) (by decide) (by decide) rfl (by decide) (k_case0 C I hl hi hcb hsb kk)
      | 1, _ => exact lv_tableIn hx hb k_L33 (tgt := 273) (off := 240) (by decide) (by decide) rfl (by decide) (k_case1 C I hl hi hcb hsb kk)
      | 2, _ => exact lv_tableIn hx hb k_L33 (tgt := 286) (off := 253) (by decide) (by decide) rfl (by decide) (k_case2 C I hl hi hcb hsb kk)
      | 3, _ => exact lv_tableIn hx hb k_L33 (tgt := 299) (off := 266) (by decide) (by decide) rfl (by decide) (k_case3 C I hl hi hcb hsb kk)
      | 4, _ => exact lv_tableIn hx hb k_L33 (tgt := 342) (off := 309) (by decide) (by decide) rfl (by decide) (k_case4 C I hl hi hcb hsb kk)
      | 5, _ => exact lv_tableIn hx hb k_L33 (tgt := 415) (off := 382) (by decide) (by decide) rfl (by decide) (k_case5 C I hl hi hcb hsb kk)
      | 6, _ => exact lv_tableIn hx hb k_L33 (tgt := 448) (off := 415) (by decide) (by decide) rfl (by decide) (k_case6 C I hl hi hcb hsb kk)
      | 7, _ => exact lv_tableIn hx hb k_L33 (tgt := 511) (off := 478) (by decide) (by decide) rfl (by decide) (k_case7 C I hl hi hcb hsb kk)
      | 8, _ => exact lv_tableIn hx hb k_L33 (tgt := 574) (off := 541) (by decide) (by decide) rfl (by decide) (k_case8 C I hl hi hcb hsb kk)
      | 9, _ => exact lv_tableIn hx hb k_L33 (tgt := 597) (off := 564) (by decide) (by decide) rfl (by decide) (k_case9 C I hl hi hcb hsb kk)
      | 10, _ => exact lv_tableIn hx hb k_L33 (tgt := 620) (off := 587) (by decide) (by decide) rfl (by decide) (k_case10 C I hl hi hcb hsb kk)
      | 11, _ => exact lv_tableIn hx hb k_L33 (tgt := 643) (off := 610) (by decide) (by decide) rfl (by decide) (k_case11 C I hl hi hcb hsb kk)
      | 12, _ => exact lv_tableIn hx hb k_L33 (tgt := 676) (off := 643) (by decide) (by decide) rfl (by decide) (k_case12 C I hl hi hcb hsb kk)
      | 13, _ => exact lv_tableIn hx hb k_L33 (tgt := 751) (off := 718) (by decide) (by decide) rfl (by decide) (k_case13 C I hl hi hcb hsb kk)
      | 14, _ => exact lv_tableIn hx hb k_L33 (tgt := 774) (off := 741) (by decide) (by decide) rfl (by decide) (k_case14 C I hl hi hcb hsb kk)
      | 15, _ => exact lv_tableIn hx hb k_L33 (tgt := 807) (off := 774) (by decide) (by decide) rfl (by decide) (k_case15 C I hl hi hcb hsb kk)
      | 16, _ => exact lv_tableIn hx hb k_L33 (tgt := 866) (off := 833) (by decide) (by decide) rfl (by decide) (k_case16 C I hl hi hcb hsb kk)
      | 17, _ => exact lv_tableIn hx hb k_L33 (tgt := 889) (off := 856) (by decide) (by decide) rfl (by decide) (k_case17 C I hl hi hcb hsb kk)
      | 18, _ => exact lv_tableIn hx hb k_L33 (tgt := 922) (off := 889) (by decide) (by decide) rfl (by decide) (k_case18 C I hl hi hcb hsb kk)
      | 19, _ => exact lv_tableIn hx hb k_L33 (tgt := 975) (off := 942) (by decide) (by decide) rfl (by decide) (k_case19 C I hl hi hcb hsb kk)
      | 20, _ => exact lv_tableIn hx hb k_L33 (tgt := 1014) (off := 981) (by decide) (by decide) rfl (by decide) (k_case20 C I hl hi hcb hsb kk)
      | 21, _ => exact lv_tableIn hx hb k_L33 (tgt := 1037) (off := 1004) (by decide) (by decide) rfl (by decide) (k_case21 C I hl hi hcb hsb kk)
      | 22, _ => exact lv_tableIn hx hb k_L33 (tgt := 1080) (off := 1047) (by decide) (by decide) rfl (by decide) (k_case22 C I hl hi hcb hsb kk)
      | 23, _ => exact lv_tableIn hx hb k_L33 (tgt := 1123) (off := 1090) (by decide) (by decide) rfl (by decide) (k_case23 C I hl hi hcb hsb kk)
      | 24, _ => exact lv_tableIn hx hb k_L33 (tgt := 1146) (off := 1113) (by decide) (by decide) rfl (by decide) (k_case24 C I hl hi hcb hsb kk)
      | 25, _ => exact lv_tableIn hx hb k_L33 (tgt := 1169) (off := 1136) (by decide) (by decide) rfl (by decide) (k_case25 C I hl hi hcb hsb kk)
      | 26, _ => exact lv_tableIn hx hb k_L33 (tgt := 1192) (off := 1159) (by decide) (by decide) rfl (by decide) (k_case26 C I hl hi hcb hsb kk)
      | 27, _ => exact lv_tableIn hx hb k_L33 (tgt := 1225) (off := 1192) (by decide) (by decide) rfl (by decide) (k_case27 C I hl hi hcb hsb kk)
      | 28, _ => exact lv_tableIn hx hb k_L33 (tgt := 1248) (off := 1215) (by decide) (by decide) rfl (by decide) (k_case28 C I hl hi hcb hsb kk)
      | 29, _ => exact lv_tableIn hx hb k_L33 (tgt := 1271) (off := 1238) (by decide) (by decide) rfl (by decide) (k_case29 C I hl hi hcb hsb kk)
      | 30, _ => exact lv_tableIn hx hb k_L33 (tgt := 1314) (off := 1281) (by decide) (by decide) rfl (by decide) (k_case30 C I hl hi hcb hsb kk)
      | 31, _ => exact lv_tableIn hx hb k_L33 (tgt := 1347) (off := 1314) (by decide) (by decide) rfl (by decide) (k_case31 C I hl hi hcb hsb kk)
      | 32, _ => exact lv_tableIn hx hb k_L33 (tgt := 1370) (off := 1337) (by decide) (by decide) rfl (by decide) (k_case32 C I hl hi hcb hsb kk)
      | 33, _ => exact lv_tableIn hx hb k_L33 (tgt := 1449) (off := 1416) (by decide) (by decide) rfl (by decide) (k_case33 C I hl hi hcb hsb kk)
      | 34, _ => exact lv_tableIn hx hb k_L33 (tgt := 1462) (off := 1429) (by decide) (by decide) rfl (by decide) (k_case34 C I hl hi hcb hsb kk)
      | 35, _ => exact lv_tableIn hx hb k_L33 (tgt := 1495) (off := 1462) (by decide) (by decide) rfl (by decide) (k_case35 C I hl hi hcb hsb kk)
      | 36, _ => exact lv_tableIn hx hb k_L33 (tgt := 1528) (off := 1495) (by decide) (by decide) rfl (by decide) (k_case36 C I hl hi hcb hsb kk)
      | 37, _ => exact lv_tableIn hx hb k_L33 (tgt := 1551) (off := 1518) (by decide) (by decide) rfl (by decide) (k_case37 C I hl hi hcb hsb kk)
      | 38, _ => exact lv_tableIn hx hb k_L33 (tgt := 1574) (off := 1541) (by decide) (by decide) rfl (by decide) (k_case38 C I hl hi hcb hsb kk)
      | 39, _ => exact lv_tableIn hx hb k_L33 (tgt := 1597) (off := 1564) (by decide) (by decide) rfl (by decide) (k_case39 C I hl hi hcb hsb kk)
      | 40, _ => exact lv_tableIn hx hb k_L33 (tgt := 1620) (off := 1587) (by decide) (by decide) rfl (by decide) (k_case40 C I hl hi hcb hsb kk)
      | 41, _ => exact lv_tableIn hx hb k_L33 (tgt := 1643) (off := 1610) (by decide) (by decide) rfl (by decide) (k_case41 C I hl hi hcb hsb kk)
      | 42, _ => exact lv_tableIn hx hb k_L33 (tgt := 1676) (off := 1643) (by decide) (by decide) rfl (by decide) (k_case42 C I hl hi hcb hsb kk)
      | 43, _ => exact lv_tableIn hx hb k_L33 (tgt := 1739) (off := 1706) (by decide) (by decide) rfl (by decide) (k_case43 C I hl hi hcb hsb kk)
      | 44, _ => exact lv_tableIn hx hb k_L33 (tgt := 1802) (off := 1769) (by decide) (by decide) rfl (by decide) (k_case44 C I hl hi hcb hsb kk)
      | 45, _ => exact lv_tableIn hx hb k_L33 (tgt := 1825) (off := 1792) (by decide) (by decide) rfl (by decide) (k_case45 C I hl hi hcb hsb kk)
      | 46, _ => exact lv_tableIn hx hb k_L33 (tgt := 1848) (off := 1815) (by decide) (by decide) rfl (by decide) (k_case46 C I hl hi hcb hsb kk)
      | 47, _ => exact lv_tableIn hx hb k_L33 (tgt := 1871) (off := 1838) (by decide) (by decide) rfl (by decide) (k_case47 C I hl hi hcb hsb kk)
      | 48, _ => exact lv_tableIn hx hb k_L33 (tgt := 1894) (off := 1861) (by decide) (by decide) rfl (by decide) (k_case48 C I hl hi hcb hsb kk)
      | 49, _ => exact lv_tableIn hx hb k_L33 (tgt := 1917) (off := 1884) (by decide) (by decide) rfl (by decide) (k_case49 C I hl hi hcb hsb kk)
      | 50, _ => exact lv_tableIn hx hb k_L33 (tgt := 1940) (off := 1907) (by decide) (by decide) rfl (by decide) (k_case50 C I hl hi hcb hsb kk)
      | 51, _ => exact lv_tableIn hx hb k_L33 (tgt := 1963) (off := 1930) (by decide) (by decide) rfl (by decide) (k_case51 C I hl hi hcb hsb kk)
      | 52, _ => exact lv_tableIn hx hb k_L33 (tgt := 1976) (off := 1943) (by decide) (by decide) rfl (by decide) (k_case52 C I hl hi hcb hsb kk)
      | z + 53, hz =>
        refine lv_tableOut hx hb k_L33 (tgt := 1989) (Or.inr ?_) (by decide) ?_
        · have h9 := nI_toInt (n := z + 53) (by omega)
          rw [h9]
          omega
        · exact W.widen (Nat.le_add_right _ _) (Nat.le_add_right _ _) (kk _ _ _ I)
/-- the law from the place where both objects stand -/
theorem k_from16 (C : k_Cx p s m c b L xs D dA) (hr : meth.sig.returnType = ret) (hlocks : meth.locks = false) {rr r1 : Nat → Int} (hrb : rr 1 = (b : Int)) {w0 : cWld} (hag : c_agr 2 rr r1) : c_OK ((p, l, e, room_1, s, m, #[Value.ref b], below, meth, c), (D, k_cl, dA, k_AA s), (k_K, k_cL, w0), (code, 4, lw_Z below #[Value.ref b] s)) 34 r1 16 k_T16 := by
  intro lv st w cu su hcu hsu hT hE hs H locs ls hP hD hS hl
  obtain ⟨hx, hb, -⟩ := id C
  obtain ⟨r, hagr, hr0⟩ := hs.at
  obtain ⟨e1, e2, e3, e4, e5, e6, e7⟩ := hr0
  have hst : st = [] := c_F2_nil e6
  subst hst
  obtain ⟨q0, l1, rfl, f0, e5⟩ := c_F2_cons (show c_F2 (c_lr r) ((0, ((2, (0, [(1, 1)])) : cAV)) :: [(1, (2, (0, [(2, 1)]))), (2, (2, (0, [(3, 1)])))]) lv from e5)
  obtain ⟨q1, l2, rfl, f1, e5⟩ := c_F2_cons e5
  obtain ⟨q2, l3, rfl, f2, e5⟩ := c_F2_cons e5
  have hl3 : l3 = [] := c_F2_nil e5
  subst hl3
  obtain ⟨i0, v0⟩ := q0
  obtain ⟨i1, v1⟩ := q1
  obtain ⟨i2, v2⟩ := q2
  have h0 : (0 : Nat) = i0 := f0.1
  have h1 : (1 : Nat) = i1 := f1.1
  have h2 : (2 : Nat) = i2 := f2.1
  subst h0; subst h1; subst h2
  have p2 : 0 ≤ r 2 := e2 (2, 3) List.mem_cons_self
  have p3 : 0 ≤ r 3 := e2 (3, 3) (List.mem_cons_of_mem _ List.mem_cons_self)
  obtain ⟨a1, ha1, hin1⟩ := e3 (2, 12) List.mem_cons_self p2
  obtain ⟨a2, ha2, hin2⟩ := e3 (3, 13) (List.mem_cons_of_mem _ List.mem_cons_self) p3
  have hb1 : r 1 = (b : Int) := by rw [hagr 1 (by decide), hag 1 (by decide), hrb]
  have v0e : v0 = .ref b := by
    rcases c_DVr f0.2 rfl with ⟨-, h⟩ | ⟨x, h, h'⟩
    · have h : c_ev r (c_sym 1) = -1 := h
      rw [c_ev_sym] at h; omega
    · have h' : c_ev r (c_sym 1) = (x : Int) := h'
      rw [c_ev_sym] at h'
      have h : v0 = .ref x := h
      rw [h, show x = b by omega]
  have v1e : v1 = .ref a1 := by
    rcases c_DVr f1.2 rfl with ⟨-, h⟩ | ⟨x, h, h'⟩
    · have h : c_ev r (c_sym 2) = -1 := h
      rw [c_ev_sym] at h; omega
    · have h' : c_ev r (c_sym 2) = (x : Int) := h'
      rw [c_ev_sym] at h'
      have ha1 : r 2 = (a1 : Int) := ha1
      have h : v1 = .ref x := h
      rw [h, show x = a1 by omega]
  have v2e : v2 = .ref a2 := by
    rcases c_DVr f2.2 rfl with ⟨-, h⟩ | ⟨x, h, h'⟩
    · have h : c_ev r (c_sym 3) = -1 := h
      rw [c_ev_sym] at h; omega
    · have h' : c_ev r (c_sym 3) = (x : Int) := h'
      rw [c_ev_sym] at h'
      have ha2 : r 3 = (a2 : Int) := ha2
      have h : v2 = .ref x := h
      rw [h, show x = a2 by omega]
  subst v0e; subst v1e; subst v2e
  have hg1 : w.2.2 1 = 1 := by
    obtain ⟨j, j1, j2⟩ := e7 (0, (1, []), (1, (1, []))) List.mem_cons_self
    have j1 : (1 : Int) + 0 = (j : Int) := j1
    have ej : j = 1 := by omega
    subst ej
    have j2 : c_gv 1 (w.2.2 1) = 1 + 0 := j2
    unfold c_gv at j2
    rw [if_neg (by decide)] at j2
    omega
  obtain ⟨w', g1, g2, g3, g4, g5⟩ := k_switch hT hD hg1 hin2
  have hcu : 111 = cu := hcu
  have hsu : 18026 = su := hsu
  subst hcu; subst hsu
  have I : k_In s D dA a1 a2 w' H locs := ⟨by rw [g1]; exact hP, by rw [g1]; exact hD, g2, hS, g3 _ _ (by decide) hin1, g4, g5⟩
  have p6 : 0 ≤ r 6 := e2 (6, 3) (List.mem_cons_of_mem _ (List.mem_cons_of_mem _ (List.mem_cons_self)))
  have p7 : 0 ≤ r 7 := e2 (7, 3) (List.mem_cons_of_mem _ (List.mem_cons_of_mem _ (List.mem_cons_of_mem _ (List.mem_cons_self))))
  obtain ⟨rd, hrd, hin6⟩ := e3 (6, 5) (List.mem_cons_of_mem _ (List.mem_cons_of_mem _ (List.mem_cons_self))) p6
  obtain ⟨ke, hke, hin7⟩ := e3 (7, 36) (List.mem_cons_of_mem _ (List.mem_cons_of_mem _ (List.mem_cons_of_mem _ (List.mem_cons_self)))) p7
  have hrd : r 6 = (rd : Int) := hrd
  have hke : r 7 = (ke : Int) := hke
  have j1 := g3 _ _ (by decide) hin1
  have j6 := g3 _ _ (by decide) hin6
  have j7 := g3 _ _ (by decide) hin7
  have f1 : k_fn w' a1 12 7 (0) := by
    obtain ⟨a, ce, j, v, y1, y2, y3, y4, y5⟩ := e7 (2, (7, []), (0, (0, [(4, 1)]))) (List.mem_cons_of_mem _ (List.mem_cons_self))
    have y1 : r 2 = (a : Int) := y1
    have hha : r 2 = (a1 : Int) := ha1
    have y3 : (7 : Int) + 0 = (j : Int) := y3
    have ej : j = 7 := by omega
    have ea : a = a1 := by omega
    subst ej; subst ea
    obtain ⟨ce', u1, u2⟩ := j1
    obtain ⟨x, rfl, y6⟩ := y5
    have y6 : x.toInt = 0 + (1 * r 4 + 0) := y6
    have y7 : (0 : Int) ≤ r 4 ∧ r 4 ≤ 0 := e1 (4, 0, 0) (List.mem_cons_self)
    exact ⟨ce, .int x, by rw [g1]; exact y2, u2, y4, by show x.toInt = 0; omega⟩
  have f2 : k_fn w' a2 13 8 (0) := by
    obtain ⟨a, ce, j, v, y1, y2, y3, y4, y5⟩ := e7 (3, (8, []), (0, (0, [(5, 1)]))) (List.mem_cons_of_mem _ (List.mem_cons_of_mem _ (List.mem_cons_self)))
    have y1 : r 3 = (a : Int) := y1
    have hha : r 3 = (a2 : Int) := ha2
    have y3 : (8 : Int) + 0 = (j : Int) := y3
    have ej : j = 8 := by omega
    have ea : a = a2 := by omega
    subst ej; subst ea
    obtain ⟨ce', u1, u2⟩ := g4
    obtain ⟨x, rfl, y6⟩ := y5
    have y6 : x.toInt = 0 + (1 * r 5 + 0) := y6
    have y7 : (0 : Int) ≤ r 5 ∧ r 5 ≤ 0 := e1 (5, 0, 0) (List.mem_cons_of_mem _ (List.mem_cons_self))
    exact ⟨ce, .int x, by rw [g1]; exact y2, u2, y4, by show x.toInt = 0; omega⟩
  have frd : k_fn w' a1 12 8 ((rd : Int)) := by
    obtain ⟨a, ce, j, v, y1, y2, y3, y4, y5⟩ := e7 (2, (8, []), (2, (0, [(6, 1)]))) (List.mem_cons_of_mem _ (List.mem_cons_of_mem _ (List.mem_cons_of_mem _ (List.mem_cons_self))))
    have y1 : r 2 = (a : Int) := y1
    have hha : r 2 = (a1 : Int) := ha1
    have y3 : (8 : Int) + 0 = (j : Int) := y3
    have ej : j = 8 := by omega
    have ea : a = a1 := by omega
    subst ej; subst ea
    obtain ⟨ce', u1, u2⟩ := j1
    rcases y5 with ⟨rfl, y6⟩ | ⟨x, rfl, y6⟩
    · exfalso
      have y6 : 0 + (1 * r 6 + 0) = (-1 : Int) := y6
      omega
    · have y6 : 0 + (1 * r 6 + 0) = (x : Int) := y6
      exact ⟨ce, .ref x, by rw [g1]; exact y2, u2, y4, by show (x : Int) = _; omega⟩
  have fke : k_fn w' rd 5 4 ((ke : Int)) := by
    obtain ⟨a, ce, j, v, y1, y2, y3, y4, y5⟩ := e7 (6, (4, []), (2, (0, [(7, 1)]))) (List.mem_cons_of_mem _ (List.mem_cons_of_mem _ (List.mem_cons_of_mem _ (List.mem_cons_of_mem _ (List.mem_cons_self)))))
    have y1 : r 6 = (a : Int) := y1
    have hha : r 6 = (rd : Int) := hrd
    have y3 : (4 : Int) + 0 = (j : Int) := y3
    have ej : j = 4 := by omega
    have ea : a = rd := by omega
    subst ej; subst ea
    obtain ⟨ce', u1, u2⟩ := j6
    rcases y5 with ⟨rfl, y6⟩ | ⟨x, rfl, y6⟩
    · exfalso
      have y6 : 0 + (1 * r 7 + 0) = (-1 : Int) := y6
      omega
    · have y6 : 0 + (1 * r 7 + 0) = (x : Int) := y6
      exact ⟨ce, .ref x, by rw [g1]; exact y2, u2, y4, by show (x : Int) = _; omega⟩
  have fk0 : k_fn w' ke 36 0 (671470) := by
    obtain ⟨a, ce, j, v, y1, y2, y3, y4, y5⟩ := e7 (7, (0, []), (1, (0, [(8, 1)]))) (List.mem_cons_of_mem _ (List.mem_cons_of_mem _ (List.mem_cons_of_mem _ (List.mem_cons_of_mem _ (List.mem_cons_of_mem _ (List.mem_cons_self))))))
    have y1 : r 7 = (a : Int) := y1
    have hha : r 7 = (ke : Int) := hke
    have y3 : (0 : Int) + 0 = (j : Int) := y3
    have ej : j = 0 := by omega
    have ea : a = ke := by omega
    subst ej; subst ea
    obtain ⟨ce', u1, u2⟩ := j7
    obtain ⟨x, rfl, y6⟩ := y5
    have y6 : x.toInt = 0 + (1 * r 8 + 0) := y6
    have y7 : (671470 : Int) ≤ r 8 ∧ r 8 ≤ 671470 := e1 (8, 671470, 671470) (List.mem_cons_of_mem _ (List.mem_cons_of_mem _ (List.mem_cons_self)))
    exact ⟨ce, .long x, by rw [g1]; exact y2, u2, y4, by show x.toInt = 671470; omega⟩
  have fk1 : k_fn w' ke 36 1 (370116) := by
    obtain ⟨a, ce, j, v, y1, y2, y3, y4, y5⟩ := e7 (7, (1, []), (1, (0, [(9, 1)]))) (List.mem_cons_of_mem _ (List.mem_cons_of_mem _ (List.mem_cons_of_mem _ (List.mem_cons_of_mem _ (List.mem_cons_of_mem _ (List.mem_cons_of_mem _ (List.mem_cons_self)))))))
    have y1 : r 7 = (a : Int) := y1
    have hha : r 7 = (ke : Int) := hke
    have y3 : (1 : Int) + 0 = (j : Int) := y3
    have ej : j = 1 := by omega
    have ea : a = ke := by omega
    subst ej; subst ea
    obtain ⟨ce', u1, u2⟩ := j7
    obtain ⟨x, rfl, y6⟩ := y5
    have y6 : x.toInt = 0 + (1 * r 9 + 0) := y6
    have y7 : (370116 : Int) ≤ r 9 ∧ r 9 ≤ 370116 := e1 (9, 370116, 370116) (List.mem_cons_of_mem _ (List.mem_cons_of_mem _ (List.mem_cons_of_mem _ (List.mem_cons_self))))
    exact ⟨ce, .long x, by rw [g1]; exact y2, u2, y4, by show x.toInt = 370116; omega⟩
  have fk2 : k_fn w' ke 36 2 (80948) := by
    obtain ⟨a, ce, j, v, y1, y2, y3, y4, y5⟩ := e7 (7, (2, []), (1, (0, [(10, 1)]))) (List.mem_cons_of_mem _ (List.mem_cons_of_mem _ (List.mem_cons_of_mem _ (List.mem_cons_of_mem _ (List.mem_cons_of_mem _ (List.mem_cons_of_mem _ (List.mem_cons_of_mem _ (List.mem_cons_self))))))))
    have y1 : r 7 = (a : Int) := y1
    have hha : r 7 = (ke : Int) := hke
    have y3 : (2 : Int) + 0 = (j : Int) := y3
    have ej : j = 2 := by omega
    have ea : a = ke := by omega
    subst ej; subst ea
    obtain ⟨ce', u1, u2⟩ := j7
    obtain ⟨x, rfl, y6⟩ := y5
    have y6 : x.toInt = 0 + (1 * r 10 + 0) := y6
    have y7 : (80948 : Int) ≤ r 10 ∧ r 10 ≤ 80948 := e1 (10, 80948, 80948) (List.mem_cons_of_mem _ (List.mem_cons_of_mem _ (List.mem_cons_of_mem _ (List.mem_cons_of_mem _ (List.mem_cons_self)))))
    exact ⟨ce, .long x, by rw [g1]; exact y2, u2, y4, by show x.toInt = 80948; omega⟩
  have fk3 : k_fn w' ke 36 3 (12343) := by
    obtain ⟨a, ce, j, v, y1, y2, y3, y4, y5⟩ := e7 (7, (3, []), (1, (0, [(11, 1)]))) (List.mem_cons_of_mem _ (List.mem_cons_of_mem _ (List.mem_cons_of_mem _ (List.mem_cons_of_mem _ (List.mem_cons_of_mem _ (List.mem_cons_of_mem _ (List.mem_cons_of_mem _ (List.mem_cons_of_mem _ (List.mem_cons_self)))))))))
    have y1 : r 7 = (a : Int) := y1
    have hha : r 7 = (ke : Int) := hke
    have y3 : (3 : Int) + 0 = (j : Int) := y3
    have ej : j = 3 := by omega
    have ea : a = ke := by omega
    subst ej; subst ea
    obtain ⟨ce', u1, u2⟩ := j7
    obtain ⟨x, rfl, y6⟩ := y5
    have y6 : x.toInt = 0 + (1 * r 11 + 0) := y6
    have y7 : (12343 : Int) ≤ r 11 ∧ r 11 ≤ 12343 := e1 (11, 12343, 12343) (List.mem_cons_of_mem _ (List.mem_cons_of_mem _ (List.mem_cons_of_mem _ (List.mem_cons_of_mem _ (List.mem_cons_of_mem _ (List.mem_cons_self))))))
    exact ⟨ce, .long x, by rw [g1]; exact y2, u2, y4, by show x.toInt = 12343; omega⟩
  have fk4 : k_fn w' ke 36 4 (824370) := by
    obtain ⟨a, ce, j, v, y1, y2, y3, y4, y5⟩ := e7 (7, (4, []), (1, (0, [(12, 1)]))) (List.mem_cons_of_mem _ (List.mem_cons_of_mem _ (List.mem_cons_of_mem _ (List.mem_cons_of_mem _ (List.mem_cons_of_mem _ (List.mem_cons_of_mem _ (List.mem_cons_of_mem _ (List.mem_cons_of_mem _ (List.mem_cons_of_mem _ (List.mem_cons_self))))))))))
    have y1 : r 7 = (a : Int) := y1
    have hha : r 7 = (ke : Int) := hke
    have y3 : (4 : Int) + 0 = (j : Int) := y3
    have ej : j = 4 := by omega
    have ea : a = ke := by omega
    subst ej; subst ea
    obtain ⟨ce', u1, u2⟩ := j7
    obtain ⟨x, rfl, y6⟩ := y5
    have y6 : x.toInt = 0 + (1 * r 12 + 0) := y6
    have y7 : (824370 : Int) ≤ r 12 ∧ r 12 ≤ 824370 := e1 (12, 824370, 824370) (List.mem_cons_of_mem _ (List.mem_cons_of_mem _ (List.mem_cons_of_mem _ (List.mem_cons_of_mem _ (List.mem_cons_of_mem _ (List.mem_cons_of_mem _ (List.mem_cons_self)))))))
    exact ⟨ce, .long x, by rw [g1]; exact y2, u2, y4, by show x.toInt = 824370; omega⟩
  have fk5 : k_fn w' ke 36 5 (659100852) := by
    obtain ⟨a, ce, j, v, y1, y2, y3, y4, y5⟩ := e7 (7, (5, []), (1, (0, [(13, 1)]))) (List.mem_cons_of_mem _ (List.mem_cons_of_mem _ (List.mem_cons_of_mem _ (List.mem_cons_of_mem _ (List.mem_cons_of_mem _ (List.mem_cons_of_mem _ (List.mem_cons_of_mem _ (List.mem_cons_of_mem _ (List.mem_cons_of_mem _ (List.mem_cons_of_mem _ (List.mem_cons_self)))))))))))
    have y1 : r 7 = (a : Int) := y1
    have hha : r 7 = (ke : Int) := hke
    have y3 : (5 : Int) + 0 = (j : Int) := y3
    have ej : j = 5 := by omega
    have ea : a = ke := by omega
    subst ej; subst ea
    obtain ⟨ce', u1, u2⟩ := j7
    obtain ⟨x, rfl, y6⟩ := y5
    have y6 : x.toInt = 0 + (1 * r 13 + 0) := y6
    have y7 : (659100852 : Int) ≤ r 13 ∧ r 13 ≤ 659100852 := e1 (13, 659100852, 659100852) (List.mem_cons_of_mem _ (List.mem_cons_of_mem _ (List.mem_cons_of_mem _ (List.mem_cons_of_mem _ (List.mem_cons_of_mem _ (List.mem_cons_of_mem _ (List.mem_cons_of_mem _ (List.mem_cons_self))))))))
    exact ⟨ce, .long x, by rw [g1]; exact y2, u2, y4, by show x.toInt = 659100852; omega⟩
  have fk6 : k_fn w' ke 36 6 (8500) := by
    obtain ⟨a, ce, j, v, y1, y2, y3, y4, y5⟩ := e7 (7, (6, []), (1, (0, [(14, 1)]))) (List.mem_cons_of_mem _ (List.mem_cons_of_mem _ (List.mem_cons_of_mem _ (List.mem_cons_of_mem _ (List.mem_cons_of_mem _ (List.mem_cons_of_mem _ (List.mem_cons_of_mem _ (List.mem_cons_of_mem _ (List.mem_cons_of_mem _ (List.mem_cons_of_mem _ (List.mem_cons_of_mem _ (List.mem_cons_self))))))))))))
    have y1 : r 7 = (a : Int) := y1
    have hha : r 7 = (ke : Int) := hke
    have y3 : (6 : Int) + 0 = (j : Int) := y3
    have ej : j = 6 := by omega
    have ea : a = ke := by omega
    subst ej; subst ea
    obtain ⟨ce', u1, u2⟩ := j7
    obtain ⟨x, rfl, y6⟩ := y5
    have y6 : x.toInt = 0 + (1 * r 14 + 0) := y6
    have y7 : (8500 : Int) ≤ r 14 ∧ r 14 ≤ 8500 := e1 (14, 8500, 8500) (List.mem_cons_of_mem _ (List.mem_cons_of_mem _ (List.mem_cons_of_mem _ (List.mem_cons_of_mem _ (List.mem_cons_of_mem _ (List.mem_cons_of_mem _ (List.mem_cons_of_mem _ (List.mem_cons_of_mem _ (List.mem_cons_self)))))))))
    exact ⟨ce, .long x, by rw [g1]; exact y2, u2, y4, by show x.toInt = 8500; omega⟩
  have fk7 : k_fn w' ke 36 7 (149559) := by
    obtain ⟨a, ce, j, v, y1, y2, y3, y4, y5⟩ := e7 (7, (7, []), (1, (0, [(15, 1)]))) (List.mem_cons_of_mem _ (List.mem_cons_of_mem _ (List.mem_cons_of_mem _ (List.mem_cons_of_mem _ (List.mem_cons_of_mem _ (List.mem_cons_of_mem _ (List.mem_cons_of_mem _ (List.mem_cons_of_mem _ (List.mem_cons_of_mem _ (List.mem_cons_of_mem _ (List.mem_cons_of_mem _ (List.mem_cons_of_mem _ (List.mem_cons_self)))))))))))))
    have y1 : r 7 = (a : Int) := y1
    have hha : r 7 = (ke : Int) := hke
    have y3 : (7 : Int) + 0 = (j : Int) := y3
    have ej : j = 7 := by omega
    have ea : a = ke := by omega
    subst ej; subst ea
    obtain ⟨ce', u1, u2⟩ := j7
    obtain ⟨x, rfl, y6⟩ := y5
    have y6 : x.toInt = 0 + (1 * r 15 + 0) := y6
    have y7 : (149559 : Int) ≤ r 15 ∧ r 15 ≤ 149559 := e1 (15, 149559, 149559) (List.mem_cons_of_mem _ (List.mem_cons_of_mem _ (List.mem_cons_of_mem _ (List.mem_cons_of_mem _ (List.mem_cons_of_mem _ (List.mem_cons_of_mem _ (List.mem_cons_of_mem _ (List.mem_cons_of_mem _ (List.mem_cons_of_mem _ (List.mem_cons_self))))))))))
    exact ⟨ce, .long x, by rw [g1]; exact y2, u2, y4, by show x.toInt = 149559; omega⟩
  have fk8 : k_fn w' ke 36 8 (72983685) := by
    obtain ⟨a, ce, j, v, y1, y2, y3, y4, y5⟩ := e7 (7, (8, []), (1, (0, [(16, 1)]))) (List.mem_cons_of_mem _ (List.mem_cons_of_mem _ (List.mem_cons_of_mem _ (List.mem_cons_of_mem _ (List.mem_cons_of_mem _ (List.mem_cons_of_mem _ (List.mem_cons_of_mem _ (List.mem_cons_of_mem _ (List.mem_cons_of_mem _ (List.mem_cons_of_mem _ (List.mem_cons_of_mem _ (List.mem_cons_of_mem _ (List.mem_cons_of_mem _ (List.mem_cons_self))))))))))))))
    have y1 : r 7 = (a : Int) := y1
    have hha : r 7 = (ke : Int) := hke
    have y3 : (8 : Int) + 0 = (j : Int) := y3
    have ej : j = 8 := by omega
    have ea : a = ke := by omega
    subst ej; subst ea
    obtain ⟨ce', u1, u2⟩ := j7
    obtain ⟨x, rfl, y6⟩ := y5
    have y6 : x.toInt = 0 + (1 * r 16 + 0) := y6
    have y7 : (72983685 : Int) ≤ r 16 ∧ r 16 ≤ 72983685 := e1 (16, 72983685, 72983685) (List.mem_cons_of_mem _ (List.mem_cons_of_mem _ (List.mem_cons_of_mem _ (List.mem_cons_of_mem _ (List.mem_cons_of_mem _ (List.mem_cons_of_mem _ (List.mem_cons_of_mem _ (List.mem_cons_of_mem _ (List.mem_cons_of_mem _ (List.mem_cons_of_mem _ (List.mem_cons_self)))))))))))
    exact ⟨ce, .long x, by rw [g1]; exact y2, u2, y4, by show x.toInt = 72983685; omega⟩
  have fk9 : k_fn w' ke 36 9 (3764) := by
    obtain ⟨a, ce, j, v, y1, y2, y3, y4, y5⟩ := e7 (7, (9, []), (1, (0, [(17, 1)]))) (List.mem_cons_of_mem _ (List.mem_cons_of_mem _ (List.mem_cons_of_mem _ (List.mem_cons_of_mem _ (List.mem_cons_of_mem _ (List.mem_cons_of_mem _ (List.mem_cons_of_mem _ (List.mem_cons_of_mem _ (List.mem_cons_of_mem _ (List.mem_cons_of_mem _ (List.mem_cons_of_mem _ (List.mem_cons_of_mem _ (List.mem_cons_of_mem _ (List.mem_cons_of_mem _ (List.mem_cons_self)))))))))))))))
    have y1 : r 7 = (a : Int) := y1
    have hha : r 7 = (ke : Int) := hke
    have y3 : (9 : Int) + 0 = (j : Int) := y3
    have ej : j = 9 := by omega
    have ea : a = ke := by omega
    subst ej; subst ea
    obtain ⟨ce', u1, u2⟩ := j7
    obtain ⟨x, rfl, y6⟩ := y5
    have y6 : x.toInt = 0 + (1 * r 17 + 0) := y6
    have y7 : (3764 : Int) ≤ r 17 ∧ r 17 ≤ 3764 := e1 (17, 3764, 3764) (List.mem_cons_of_mem _ (List.mem_cons_of_mem _ (List.mem_cons_of_mem _ (List.mem_cons_of_mem _ (List.mem_cons_of_mem _ (List.mem_cons_of_mem _ (List.mem_cons_of_mem _ (List.mem_cons_of_mem _ (List.mem_cons_of_mem _ (List.mem_cons_of_mem _ (List.mem_cons_of_mem _ (List.mem_cons_self))))))))))))
    exact ⟨ce, .long x, by rw [g1]; exact y2, u2, y4, by show x.toInt = 3764; omega⟩
  have fk10 : k_fn w' ke 36 10 (21091227283) := by
    obtain ⟨a, ce, j, v, y1, y2, y3, y4, y5⟩ := e7 (7, (10, []), (1, (0, [(18, 1)]))) (List.mem_cons_of_mem _ (List.mem_cons_of_mem _ (List.mem_cons_of_mem _ (List.mem_cons_of_mem _ (List.mem_cons_of_mem _ (List.mem_cons_of_mem _ (List.mem_cons_of_mem _ (List.mem_cons_of_mem _ (List.mem_cons_of_mem _ (List.mem_cons_of_mem _ (List.mem_cons_of_mem _ (List.mem_cons_of_mem _ (List.mem_cons_of_mem _ (List.mem_cons_of_mem _ (List.mem_cons_of_mem _ (List.mem_cons_self))))))))))))))))
    have y1 : r 7 = (a : Int) := y1
    have hha : r 7 = (ke : Int) := hke
    have y3 : (10 : Int) + 0 = (j : Int) := y3
    have ej : j = 10 := by omega
    have ea : a = ke := by omega
    subst ej; subst ea
    obtain ⟨ce', u1, u2⟩ := j7
    obtain ⟨x, rfl, y6⟩ := y5
    have y6 : x.toInt = 0 + (1 * r 18 + 0) := y6
    have y7 : (21091227283 : Int) ≤ r 18 ∧ r 18 ≤ 21091227283 := e1 (18, 21091227283, 21091227283) (List.mem_cons_of_mem _ (List.mem_cons_of_mem _ (List.mem_cons_of_mem _ (List.mem_cons_of_mem _ (List.mem_cons_of_mem _ (List.mem_cons_of_mem _ (List.mem_cons_of_mem _ (List.mem_cons_of_mem _ (List.mem_cons_of_mem _ (List.mem_cons_of_mem _ (List.mem_cons_of_mem _ (List.mem_cons_of_mem _ (List.mem_cons_self)))))))))))))
    exact ⟨ce, .long x, by rw [g1]; exact y2, u2, y4, by show x.toInt = 21091227283; omega⟩
  have fk11 : k_fn w' ke 36 11 (72564293) := by
    obtain ⟨a, ce, j, v, y1, y2, y3, y4, y5⟩ := e7 (7, (11, []), (1, (0, [(19, 1)]))) (List.mem_cons_of_mem _ (List.mem_cons_of_mem _ (List.mem_cons_of_mem _ (List.mem_cons_of_mem _ (List.mem_cons_of_mem _ (List.mem_cons_of_mem _ (List.mem_cons_of_mem _ (List.mem_cons_of_mem _ (List.mem_cons_of_mem _ (List.mem_cons_of_mem _ (List.mem_cons_of_mem _ (List.mem_cons_of_mem _ (List.mem_cons_of_mem _ (List.mem_cons_of_mem _ (List.mem_cons_of_mem _ (List.mem_cons_of_mem _ (List.mem_cons_self)))))))))))))))))
    have y1 : r 7 = (a : Int) := y1
    have hha : r 7 = (ke : Int) := hke
    have y3 : (11 : Int) + 0 = (j : Int) := y3
    have ej : j = 11 := by omega
    have ea : a = ke := by omega
    subst ej; subst ea
    obtain ⟨ce', u1, u2⟩ := j7
    obtain ⟨x, rfl, y6⟩ := y5
    have y6 : x.toInt = 0 + (1 * r 19 + 0) := y6
    have y7 : (72564293 : Int) ≤ r 19 ∧ r 19 ≤ 72564293 := e1 (19, 72564293, 72564293) (List.mem_cons_of_mem _ (List.mem_cons_of_mem _ (List.mem_cons_of_mem _ (List.mem_cons_of_mem _ (List.mem_cons_of_mem _ (List.mem_cons_of_mem _ (List.mem_cons_of_mem _ (List.mem_cons_of_mem _ (List.mem_cons_of_mem _ (List.mem_cons_of_mem _ (List.mem_cons_of_mem _ (List.mem_cons_of_mem _ (List.mem_cons_of_mem _ (List.mem_cons_self))))))))))))))
    exact ⟨ce, .long x, by rw [g1]; exact y2, u2, y4, by show x.toInt = 72564293; omega⟩
  have fk12 : k_fn w' ke 36 12 (1265842) := by
    obtain ⟨a, ce, j, v, y1, y2, y3, y4, y5⟩ := e7 (7, (12, []), (1, (0, [(20, 1)]))) (List.mem_cons_of_mem _ (List.mem_cons_of_mem _ (List.mem_cons_of_mem _ (List.mem_cons_of_mem _ (List.mem_cons_of_mem _ (List.mem_cons_of_mem _ (List.mem_cons_of_mem _ (List.mem_cons_of_mem _ (List.mem_cons_of_mem _ (List.mem_cons_of_mem _ (List.mem_cons_of_mem _ (List.mem_cons_of_mem _ (List.mem_cons_of_mem _ (List.mem_cons_of_mem _ (List.mem_cons_of_mem _ (List.mem_cons_of_mem _ (List.mem_cons_of_mem _ (List.mem_cons_self))))))))))))))))))
    have y1 : r 7 = (a : Int) := y1
    have hha : r 7 = (ke : Int) := hke
    have y3 : (12 : Int) + 0 = (j : Int) := y3
    have ej : j = 12 := by omega
    have ea : a = ke := by omega
    subst ej; subst ea
    obtain ⟨ce', u1, u2⟩ := j7
    obtain ⟨x, rfl, y6⟩ := y5
    have y6 : x.toInt = 0 + (1 * r 20 + 0) := y6
    have y7 : (1265842 : Int) ≤ r 20 ∧ r 20 ≤ 1265842 := e1 (20, 1265842, 1265842) (List.mem_cons_of_mem _ (List.mem_cons_of_mem _ (List.mem_cons_of_mem _ (List.mem_cons_of_mem _ (List.mem_cons_of_mem _ (List.mem_cons_of_mem _ (List.mem_cons_of_mem _ (List.mem_cons_of_mem _ (List.mem_cons_of_mem _ (List.mem_cons_of_mem _ (List.mem_cons_of_mem _ (List.mem_cons_of_mem _ (List.mem_cons_of_mem _ (List.mem_cons_of_mem _ (List.mem_cons_self)))))))))))))))
    exact ⟨ce, .long x, by rw [g1]; exact y2, u2, y4, by show x.toInt = 1265842; omega⟩
  have fk13 : k_fn w' ke 36 13 (24157363) := by
    obtain ⟨a, ce, j, v, y1, y2, y3, y4, y5⟩ := e7 (7, (13, []), (1, (0, [(21, 1)]))) (List.mem_cons_of_mem _ (List.mem_cons_of_mem _ (List.mem_cons_of_mem _ (List.mem_cons_of_mem _ (List.mem_cons_of_mem _ (List.mem_cons_of_mem _ (List.mem_cons_of_mem _ (List.mem_cons_of_mem _ (List.mem_cons_of_mem _ (List.mem_cons_of_mem _ (List.mem_cons_of_mem _ (List.mem_cons_of_mem _ (List.mem_cons_of_mem _ (List.mem_cons_of_mem _ (List.mem_cons_of_mem _ (List.mem_cons_of_mem _ (List.mem_cons_of_mem _ (List.mem_cons_of_mem _ (List.mem_cons_self)))))))))))))))))))
    have y1 : r 7 = (a : Int) := y1
    have hha : r 7 = (ke : Int) := hke
    have y3 : (13 : Int) + 0 = (j : Int) := y3
    have ej : j = 13 := by omega
    have ea : a = ke := by omega
    subst ej; subst ea
    obtain ⟨ce', u1, u2⟩ := j7
    obtain ⟨x, rfl, y6⟩ := y5
    have y6 : x.toInt = 0 + (1 * r 21 + 0) := y6
    have y7 : (24157363 : Int) ≤ r 21 ∧ r 21 ≤ 24157363 := e1 (21, 24157363, 24157363) (List.mem_cons_of_mem _ (List.mem_cons_of_mem _ (List.mem_cons_of_mem _ (List.mem_cons_of_mem _ (List.mem_cons_of_mem _ (List.mem_cons_of_mem _ (List.mem_cons_of_mem _ (List.mem_cons_of_mem _ (List.mem_cons_of_mem _ (List.mem_cons_of_mem _ (List.mem_cons_of_mem _ (List.mem_cons_of_mem _ (List.mem_cons_of_mem _ (List.mem_cons_of_mem _ (List.mem_cons_of_mem _ (List.mem_cons_self))))))))))))))))
    exact ⟨ce, .long x, by rw [g1]; exact y2, u2, y4, by show x.toInt = 24157363; omega⟩
  have fk14 : k_fn w' ke 36 14 (19053203) := by
    obtain ⟨a, ce, j, v, y1, y2, y3, y4, y5⟩ := e7 (7, (14, []), (1, (0, [(22, 1)]))) (List.mem_cons_of_mem _ (List.mem_cons_of_mem _ (List.mem_cons_of_mem _ (List.mem_cons_of_mem _ (List.mem_cons_of_mem _ (List.mem_cons_of_mem _ (List.mem_cons_of_mem _ (List.mem_cons_of_mem _ (List.mem_cons_of_mem _ (List.mem_cons_of_mem _ (List.mem_cons_of_mem _ (List.mem_cons_of_mem _ (List.mem_cons_of_mem _ (List.mem_cons_of_mem _ (List.mem_cons_of_mem _ (List.mem_cons_of_mem _ (List.mem_cons_of_mem _ (List.mem_cons_of_mem _ (List.mem_cons_of_mem _ (List.mem_cons_self))))))))))))))))))))
    have y1 : r 7 = (a : Int) := y1
    have hha : r 7 = (ke : Int) := hke
    have y3 : (14 : Int) + 0 = (j : Int) := y3
    have ej : j = 14 := by omega
    have ea : a = ke := by omega
    subst ej; subst ea
    obtain ⟨ce', u1, u2⟩ := j7
    obtain ⟨x, rfl, y6⟩ := y5
    have y6 : x.toInt = 0 + (1 * r 22 + 0) := y6
    have y7 : (19053203 : Int) ≤ r 22 ∧ r 22 ≤ 19053203 := e1 (22, 19053203, 19053203) (List.mem_cons_of_mem _ (List.mem_cons_of_mem _ (List.mem_cons_of_mem _ (List.mem_cons_of_mem _ (List.mem_cons_of_mem _ (List.mem_cons_of_mem _ (List.mem_cons_of_mem _ (List.mem_cons_of_mem _ (List.mem_cons_of_mem _ (List.mem_cons_of_mem _ (List.mem_cons_of_mem _ (List.mem_cons_of_mem _ (List.mem_cons_of_mem _ (List.mem_cons_of_mem _ (List.mem_cons_of_mem _ (List.mem_cons_of_mem _ (List.mem_cons_self)))))))))))))))))
    exact ⟨ce, .long x, by rw [g1]; exact y2, u2, y4, by show x.toInt = 19053203; omega⟩
  have fk15 : k_fn w' ke 36 15 (21081) := by
    obtain ⟨a, ce, j, v, y1, y2, y3, y4, y5⟩ := e7 (7, (15, []), (1, (0, [(23, 1)]))) (List.mem_cons_of_mem _ (List.mem_cons_of_mem _ (List.mem_cons_of_mem _ (List.mem_cons_of_mem _ (List.mem_cons_of_mem _ (List.mem_cons_of_mem _ (List.mem_cons_of_mem _ (List.mem_cons_of_mem _ (List.mem_cons_of_mem _ (List.mem_cons_of_mem _ (List.mem_cons_of_mem _ (List.mem_cons_of_mem _ (List.mem_cons_of_mem _ (List.mem_cons_of_mem _ (List.mem_cons_of_mem _ (List.mem_cons_of_mem _ (List.mem_cons_of_mem _ (List.mem_cons_of_mem _ (List.mem_cons_of_mem _ (List.mem_cons_of_mem _ (List.mem_cons_self)))))))))))))))))))))
    have y1 : r 7 = (a : Int) := y1
    have hha : r 7 = (ke : Int) := hke
    have y3 : (15 : Int) + 0 = (j : Int) := y3
    have ej : j = 15 := by omega
    have ea : a = ke := by omega
    subst ej; subst ea
    obtain ⟨ce', u1, u2⟩ := j7
    obtain ⟨x, rfl, y6⟩ := y5
    have y6 : x.toInt = 0 + (1 * r 23 + 0) := y6
    have y7 : (21081 : Int) ≤ r 23 ∧ r 23 ≤ 21081 := e1 (23, 21081, 21081) (List.mem_cons_of_mem _ (List.mem_cons_of_mem _ (List.mem_cons_of_mem _ (List.mem_cons_of_mem _ (List.mem_cons_of_mem _ (List.mem_cons_of_mem _ (List.mem_cons_of_mem _ (List.mem_cons_of_mem _ (List.mem_cons_of_mem _ (List.mem_cons_of_mem _ (List.mem_cons_of_mem _ (List.mem_cons_of_mem _ (List.mem_cons_of_mem _ (List.mem_cons_of_mem _ (List.mem_cons_of_mem _ (List.mem_cons_of_mem _ (List.mem_cons_of_mem _ (List.mem_cons_self))))))))))))))))))
    exact ⟨ce, .long x, by rw [g1]; exact y2, u2, y4, by show x.toInt = 21081; omega⟩
  have fk16 : k_fn w' ke 36 16 (164968) := by
    obtain ⟨a, ce, j, v, y1, y2, y3, y4, y5⟩ := e7 (7, (16, []), (1, (0, [(24, 1)]))) (List.mem_cons_of_mem _ (List.mem_cons_of_mem _ (List.mem_cons_of_mem _ (List.mem_cons_of_mem _ (List.mem_cons_of_mem _ (List.mem_cons_of_mem _ (List.mem_cons_of_mem _ (List.mem_cons_of_mem _ (List.mem_cons_of_mem _ (List.mem_cons_of_mem _ (List.mem_cons_of_mem _ (List.mem_cons_of_mem _ (List.mem_cons_of_mem _ (List.mem_cons_of_mem _ (List.mem_cons_of_mem _ (List.mem_cons_of_mem _ (List.mem_cons_of_mem _ (List.mem_cons_of_mem _ (List.mem_cons_of_mem _ (List.mem_cons_of_mem _ (List.mem_cons_of_mem _ (List.mem_cons_self))))))))))))))))))))))
    have y1 : r 7 = (a : Int) := y1
    have hha : r 7 = (ke : Int) := hke
    have y3 : (16 : Int) + 0 = (j : Int) := y3
    have ej : j = 16 := by omega
    have ea : a = ke := by omega
    subst ej; subst ea
    obtain ⟨ce', u1, u2⟩ := j7
    obtain ⟨x, rfl, y6⟩ := y5
    have y6 : x.toInt = 0 + (1 * r 24 + 0) := y6
    have y7 : (164968 : Int) ≤ r 24 ∧ r 24 ≤ 164968 := e1 (24, 164968, 164968) (List.mem_cons_of_mem _ (List.mem_cons_of_mem _ (List.mem_cons_of_mem _ (List.mem_cons_of_mem _ (List.mem_cons_of_mem _ (List.mem_cons_of_mem _ (List.mem_cons_of_mem _ (List.mem_cons_of_mem _ (List.mem_cons_of_mem _ (List.mem_cons_of_mem _ (List.mem_cons_of_mem _ (List.mem_cons_of_mem _ (List.mem_cons_of_mem _ (List.mem_cons_of_mem _ (List.mem_cons_of_mem _ (List.mem_cons_of_mem _ (List.mem_cons_of_mem _ (List.mem_cons_of_mem _ (List.mem_cons_self)))))))))))))))))))
    exact ⟨ce, .long x, by rw [g1]; exact y2, u2, y4, by show x.toInt = 164968; omega⟩
  have fk17 : k_fn w' ke 36 17 (5572) := by
    obtain ⟨a, ce, j, v, y1, y2, y3, y4, y5⟩ := e7 (7, (17, []), (1, (0, [(25, 1)]))) (List.mem_cons_of_mem _ (List.mem_cons_of_mem _ (List.mem_cons_of_mem _ (List.mem_cons_of_mem _ (List.mem_cons_of_mem _ (List.mem_cons_of_mem _ (List.mem_cons_of_mem _ (List.mem_cons_of_mem _ (List.mem_cons_of_mem _ (List.mem_cons_of_mem _ (List.mem_cons_of_mem _ (List.mem_cons_of_mem _ (List.mem_cons_of_mem _ (List.mem_cons_of_mem _ (List.mem_cons_of_mem _ (List.mem_cons_of_mem _ (List.mem_cons_of_mem _ (List.mem_cons_of_mem _ (List.mem_cons_of_mem _ (List.mem_cons_of_mem _ (List.mem_cons_of_mem _ (List.mem_cons_of_mem _ (List.mem_cons_self)))))))))))))))))))))))
    have y1 : r 7 = (a : Int) := y1
    have hha : r 7 = (ke : Int) := hke
    have y3 : (17 : Int) + 0 = (j : Int) := y3
    have ej : j = 17 := by omega
    have ea : a = ke := by omega
    subst ej; subst ea
    obtain ⟨ce', u1, u2⟩ := j7
    obtain ⟨x, rfl, y6⟩ := y5
    have y6 : x.toInt = 0 + (1 * r 25 + 0) := y6
    have y7 : (5572 : Int) ≤ r 25 ∧ r 25 ≤ 5572 := e1 (25, 5572, 5572) (List.mem_cons_of_mem _ (List.mem_cons_of_mem _ (List.mem_cons_of_mem _ (List.mem_cons_of_mem _ (List.mem_cons_of_mem _ (List.mem_cons_of_mem _ (List.mem_cons_of_mem _ (List.mem_cons_of_mem _ (List.mem_cons_of_mem _ (List.mem_cons_of_mem _ (List.mem_cons_of_mem _ (List.mem_cons_of_mem _ (List.mem_cons_of_mem _ (List.mem_cons_of_mem _ (List.mem_cons_of_mem _ (List.mem_cons_of_mem _ (List.mem_cons_of_mem _ (List.mem_cons_of_mem _ (List.mem_cons_of_mem _ (List.mem_cons_self))))))))))))))))))))
    exact ⟨ce, .long x, by rw [g1]; exact y2, u2, y4, by show x.toInt = 5572; omega⟩
  have fk18 : k_fn w' ke 36 18 (12748404) := by
    obtain ⟨a, ce, j, v, y1, y2, y3, y4, y5⟩ := e7 (7, (18, []), (1, (0, [(26, 1)]))) (List.mem_cons_of_mem _ (List.mem_cons_of_mem _ (List.mem_cons_of_mem _ (List.mem_cons_of_mem _ (List.mem_cons_of_mem _ (List.mem_cons_of_mem _ (List.mem_cons_of_mem _ (List.mem_cons_of_mem _ (List.mem_cons_of_mem _ (List.mem_cons_of_mem _ (List.mem_cons_of_mem _ (List.mem_cons_of_mem _ (List.mem_cons_of_mem _ (List.mem_cons_of_mem _ (List.mem_cons_of_mem _ (List.mem_cons_of_mem _ (List.mem_cons_of_mem _ (List.mem_cons_of_mem _ (List.mem_cons_of_mem _ (List.mem_cons_of_mem _ (List.mem_cons_of_mem _ (List.mem_cons_of_mem _ (List.mem_cons_of_mem _ (List.mem_cons_self))))))))))))))))))))))))
    have y1 : r 7 = (a : Int) := y1
    have hha : r 7 = (ke : Int) := hke
    have y3 : (18 : Int) + 0 = (j : Int) := y3
    have ej : j = 18 := by omega
    have ea : a = ke := by omega
    subst ej; subst ea
    obtain ⟨ce', u1, u2⟩ := j7
    obtain ⟨x, rfl, y6⟩ := y5
    have y6 : x.toInt = 0 + (1 * r 26 + 0) := y6
    have y7 : (12748404 : Int) ≤ r 26 ∧ r 26 ≤ 12748404 := e1 (26, 12748404, 12748404) (List.mem_cons_of_mem _ (List.mem_cons_of_mem _ (List.mem_cons_of_mem _ (List.mem_cons_of_mem _ (List.mem_cons_of_mem _ (List.mem_cons_of_mem _ (List.mem_cons_of_mem _ (List.mem_cons_of_mem _ (List.mem_cons_of_mem _ (List.mem_cons_of_mem _ (List.mem_cons_of_mem _ (List.mem_cons_of_mem _ (List.mem_cons_of_mem _ (List.mem_cons_of_mem _ (List.mem_cons_of_mem _ (List.mem_cons_of_mem _ (List.mem_cons_of_mem _ (List.mem_cons_of_mem _ (List.mem_cons_of_mem _ (List.mem_cons_of_mem _ (List.mem_cons_self)))))))))))))))))))))
    exact ⟨ce, .long x, by rw [g1]; exact y2, u2, y4, by show x.toInt = 12748404; omega⟩
  have fk19 : k_fn w' ke 36 19 (498) := by
    obtain ⟨a, ce, j, v, y1, y2, y3, y4, y5⟩ := e7 (7, (19, []), (1, (0, [(27, 1)]))) (List.mem_cons_of_mem _ (List.mem_cons_of_mem _ (List.mem_cons_of_mem _ (List.mem_cons_of_mem _ (List.mem_cons_of_mem _ (List.mem_cons_of_mem _ (List.mem_cons_of_mem _ (List.mem_cons_of_mem _ (List.mem_cons_of_mem _ (List.mem_cons_of_mem _ (List.mem_cons_of_mem _ (List.mem_cons_of_mem _ (List.mem_cons_of_mem _ (List.mem_cons_of_mem _ (List.mem_cons_of_mem _ (List.mem_cons_of_mem _ (List.mem_cons_of_mem _ (List.mem_cons_of_mem _ (List.mem_cons_of_mem _ (List.mem_cons_of_mem _ (List.mem_cons_of_mem _ (List.mem_cons_of_mem _ (List.mem_cons_of_mem _ (List.mem_cons_of_mem _ (List.mem_cons_self)))))))))))))))))))))))))
    have y1 : r 7 = (a : Int) := y1
    have hha : r 7 = (ke : Int) := hke
    have y3 : (19 : Int) + 0 = (j : Int) := y3
    have ej : j = 19 := by omega
    have ea : a = ke := by omega
    subst ej; subst ea
    obtain ⟨ce', u1, u2⟩ := j7
    obtain ⟨x, rfl, y6⟩ := y5
    have y6 : x.toInt = 0 + (1 * r 27 + 0) := y6
    have y7 : (498 : Int) ≤ r 27 ∧ r 27 ≤ 498 := e1 (27, 498, 498) (List.mem_cons_of_mem _ (List.mem_cons_of_mem _ (List.mem_cons_of_mem _ (List.mem_cons_of_mem _ (List.mem_cons_of_mem _ (List.mem_cons_of_mem _ (List.mem_cons_of_mem _ (List.mem_cons_of_mem _ (List.mem_cons_of_mem _ (List.mem_cons_of_mem _ (List.mem_cons_of_mem _ (List.mem_cons_of_mem _ (List.mem_cons_of_mem _ (List.mem_cons_of_mem _ (List.mem_cons_of_mem _ (List.mem_cons_of_mem _ (List.mem_cons_of_mem _ (List.mem_cons_of_mem _ (List.mem_cons_of_mem _ (List.mem_cons_of_mem _ (List.mem_cons_of_mem _ (List.mem_cons_self))))))))))))))))))))))
    exact ⟨ce, .long x, by rw [g1]; exact y2, u2, y4, by show x.toInt = 498; omega⟩
  have fk20 : k_fn w' ke 36 20 (1476) := by
    obtain ⟨a, ce, j, v, y1, y2, y3, y4, y5⟩ := e7 (7, (20, []), (1, (0, [(28, 1)]))) (List.mem_cons_of_mem _ (List.mem_cons_of_mem _ (List.mem_cons_of_mem _ (List.mem_cons_of_mem _ (List.mem_cons_of_mem _ (List.mem_cons_of_mem _ (List.mem_cons_of_mem _ (List.mem_cons_of_mem _ (List.mem_cons_of_mem _ (List.mem_cons_of_mem _ (List.mem_cons_of_mem _ (List.mem_cons_of_mem _ (List.mem_cons_of_mem _ (List.mem_cons_of_mem _ (List.mem_cons_of_mem _ (List.mem_cons_of_mem _ (List.mem_cons_of_mem _ (List.mem_cons_of_mem _ (List.mem_cons_of_mem _ (List.mem_cons_of_mem _ (List.mem_cons_of_mem _ (List.mem_cons_of_mem _ (List.mem_cons_of_mem _ (List.mem_cons_of_mem _ (List.mem_cons_of_mem _ (List.mem_cons_self))))))))))))))))))))))))))
    have y1 : r 7 = (a : Int) := y1
    have hha : r 7 = (ke : Int) := hke
    have y3 : (20 : Int) + 0 = (j : Int) := y3
    have ej : j = 20 := by omega
    have ea : a = ke := by omega
    subst ej; subst ea
    obtain ⟨ce', u1, u2⟩ := j7
    obtain ⟨x, rfl, y6⟩ := y5
    have y6 : x.toInt = 0 + (1 * r 28 + 0) := y6
    have y7 : (1476 : Int) ≤ r 28 ∧ r 28 ≤ 1476 := e1 (28, 1476, 1476) (List.mem_cons_of_mem _ (List.mem_cons_of_mem _ (List.mem_cons_of_mem _ (List.mem_cons_of_mem _ (List.mem_cons_of_mem _ (List.mem_cons_of_mem _ (List.mem_cons_of_mem _ (List.mem_cons_of_mem _ (List.mem_cons_of_mem _ (List.mem_cons_of_mem _ (List.mem_cons_of_mem _ (List.mem_cons_of_mem _ (List.mem_cons_of_mem _ (List.mem_cons_of_mem _ (List.mem_cons_of_mem _ (List.mem_cons_of_mem _ (List.mem_cons_of_mem _ (List.mem_cons_of_mem _ (List.mem_cons_of_mem _ (List.mem_cons_of_mem _ (List.mem_cons_of_mem _ (List.mem_cons_of_mem _ (List.mem_cons_self)))))))))))))))))))))))
    exact ⟨ce, .long x, by rw [g1]; exact y2, u2, y4, by show x.toInt = 1476; omega⟩
  have fk21 : k_fn w' ke 36 21 (14836) := by
    obtain ⟨a, ce, j, v, y1, y2, y3, y4, y5⟩ := e7 (7, (21, []), (1, (0, [(29, 1)]))) (List.mem_cons_of_mem _ (List.mem_cons_of_mem _ (List.mem_cons_of_mem _ (List.mem_cons_of_mem _ (List.mem_cons_of_mem _ (List.mem_cons_of_mem _ (List.mem_cons_of_mem _ (List.mem_cons_of_mem _ (List.mem_cons_of_mem _ (List.mem_cons_of_mem _ (List.mem_cons_of_mem _ (List.mem_cons_of_mem _ (List.mem_cons_of_mem _ (List.mem_cons_of_mem _ (List.mem_cons_of_mem _ (List.mem_cons_of_mem _ (List.mem_cons_of_mem _ (List.mem_cons_of_mem _ (List.mem_cons_of_mem _ (List.mem_cons_of_mem _ (List.mem_cons_of_mem _ (List.mem_cons_of_mem _ (List.mem_cons_of_mem _ (List.mem_cons_of_mem _ (List.mem_cons_of_mem _ (List.mem_cons_of_mem _ (List.mem_cons_self)))))))))))))))))))))))))))
    have y1 : r 7 = (a : Int) := y1
    have hha : r 7 = (ke : Int) := hke
    have y3 : (21 : Int) + 0 = (j : Int) := y3
    have ej : j = 21 := by omega
    have ea : a = ke := by omega
    subst ej; subst ea
    obtain ⟨ce', u1, u2⟩ := j7
    obtain ⟨x, rfl, y6⟩ := y5
    have y6 : x.toInt = 0 + (1 * r 29 + 0) := y6
    have y7 : (14836 : Int) ≤ r 29 ∧ r 29 ≤ 14836 := e1 (29, 14836, 14836) (List.mem_cons_of_mem _ (List.mem_cons_of_mem _ (List.mem_cons_of_mem _ (List.mem_cons_of_mem _ (List.mem_cons_of_mem _ (List.mem_cons_of_mem _ (List.mem_cons_of_mem _ (List.mem_cons_of_mem _ (List.mem_cons_of_mem _ (List.mem_cons_of_mem _ (List.mem_cons_of_mem _ (List.mem_cons_of_mem _ (List.mem_cons_of_mem _ (List.mem_cons_of_mem _ (List.mem_cons_of_mem _ (List.mem_cons_of_mem _ (List.mem_cons_of_mem _ (List.mem_cons_of_mem _ (List.mem_cons_of_mem _ (List.mem_cons_of_mem _ (List.mem_cons_of_mem _ (List.mem_cons_of_mem _ (List.mem_cons_of_mem _ (List.mem_cons_self))))))))))))))))))))))))
    exact ⟨ce, .long x, by rw [g1]; exact y2, u2, y4, by show x.toInt = 14836; omega⟩
  have fk22 : k_fn w' ke 36 22 (202124) := by
    obtain ⟨a, ce, j, v, y1, y2, y3, y4, y5⟩ := e7 (7, (22, []), (1, (0, [(30, 1)]))) (List.mem_cons_of_mem _ (List.mem_cons_of_mem _ (List.mem_cons_of_mem _ (List.mem_cons_of_mem _ (List.mem_cons_of_mem _ (List.mem_cons_of_mem _ (List.mem_cons_of_mem _ (List.mem_cons_of_mem _ (List.mem_cons_of_mem _ (List.mem_cons_of_mem _ (List.mem_cons_of_mem _ (List.mem_cons_of_mem _ (List.mem_cons_of_mem _ (List.mem_cons_of_mem _ (List.mem_cons_of_mem _ (List.mem_cons_of_mem _ (List.mem_cons_of_mem _ (List.mem_cons_of_mem _ (List.mem_cons_of_mem _ (List.mem_cons_of_mem _ (List.mem_cons_of_mem _ (List.mem_cons_of_mem _ (List.mem_cons_of_mem _ (List.mem_cons_of_mem _ (List.mem_cons_of_mem _ (List.mem_cons_of_mem _ (List.mem_cons_of_mem _ (List.mem_cons_self))))))))))))))))))))))))))))
    have y1 : r 7 = (a : Int) := y1
    have hha : r 7 = (ke : Int) := hke
    have y3 : (22 : Int) + 0 = (j : Int) := y3
    have ej : j = 22 := by omega
    have ea : a = ke := by omega
    subst ej; subst ea
    obtain ⟨ce', u1, u2⟩ := j7
    obtain ⟨x, rfl, y6⟩ := y5
    have y6 : x.toInt = 0 + (1 * r 30 + 0) := y6
    have y7 : (202124 : Int) ≤ r 30 ∧ r 30 ≤ 202124 := e1 (30, 202124, 202124) (List.mem_cons_of_mem _ (List.mem_cons_of_mem _ (List.mem_cons_of_mem _ (List.mem_cons_of_mem _ (List.mem_cons_of_mem _ (List.mem_cons_of_mem _ (List.mem_cons_of_mem _ (List.mem_cons_of_mem _ (List.mem_cons_of_mem _ (List.mem_cons_of_mem _ (List.mem_cons_of_mem _ (List.mem_cons_of_mem _ (List.mem_cons_of_mem _ (List.mem_cons_of_mem _ (List.mem_cons_of_mem _ (List.mem_cons_of_mem _ (List.mem_cons_of_mem _ (List.mem_cons_of_mem _ (List.mem_cons_of_mem _ (List.mem_cons_of_mem _ (List.mem_cons_of_mem _ (List.mem_cons_of_mem _ (List.mem_cons_of_mem _ (List.mem_cons_of_mem _ (List.mem_cons_self)))))))))))))))))))))))))
    exact ⟨ce, .long x, by rw [g1]; exact y2, u2, y4, by show x.toInt = 202124; omega⟩
  have fk23 : k_fn w' ke 36 23 (605797) := by
    obtain ⟨a, ce, j, v, y1, y2, y3, y4, y5⟩ := e7 (7, (23, []), (1, (0, [(31, 1)]))) (List.mem_cons_of_mem _ (List.mem_cons_of_mem _ (List.mem_cons_of_mem _ (List.mem_cons_of_mem _ (List.mem_cons_of_mem _ (List.mem_cons_of_mem _ (List.mem_cons_of_mem _ (List.mem_cons_of_mem _ (List.mem_cons_of_mem _ (List.mem_cons_of_mem _ (List.mem_cons_of_mem _ (List.mem_cons_of_mem _ (List.mem_cons_of_mem _ (List.mem_cons_of_mem _ (List.mem_cons_of_mem _ (List.mem_cons_of_mem _ (List.mem_cons_of_mem _ (List.mem_cons_of_mem _ (List.mem_cons_of_mem _ (List.mem_cons_of_mem _ (List.mem_cons_of_mem _ (List.mem_cons_of_mem _ (List.mem_cons_of_mem _ (List.mem_cons_of_mem _ (List.mem_cons_of_mem _ (List.mem_cons_of_mem _ (List.mem_cons_of_mem _ (List.mem_cons_of_mem _ (List.mem_cons_self)))))))))))))))))))))))))))))
    have y1 : r 7 = (a : Int) := y1
    have hha : r 7 = (ke : Int) := hke
    have y3 : (23 : Int) + 0 = (j : Int) := y3
    have ej : j = 23 := by omega
    have ea : a = ke := by omega
    subst ej; subst ea
    obtain ⟨ce', u1, u2⟩ := j7
    obtain ⟨x, rfl, y6⟩ := y5
    have y6 : x.toInt = 0 + (1 * r 31 + 0) := y6
    have y7 : (605797 : Int) ≤ r 31 ∧ r 31 ≤ 605797 := e1 (31, 605797, 605797) (List.mem_cons_of_mem _ (List.mem_cons_of_mem _ (List.mem_cons_of_mem _ (List.mem_cons_of_mem _ (List.mem_cons_of_mem _ (List.mem_cons_of_mem _ (List.mem_cons_of_mem _ (List.mem_cons_of_mem _ (List.mem_cons_of_mem _ (List.mem_cons_of_mem _ (List.mem_cons_of_mem _ (List.mem_cons_of_mem _ (List.mem_cons_of_mem _ (List.mem_cons_of_mem _ (List.mem_cons_of_mem _ (List.mem_cons_of_mem _ (List.mem_cons_of_mem _ (List.mem_cons_of_mem _ (List.mem_cons_of_mem _ (List.mem_cons_of_mem _ (List.mem_cons_of_mem _ (List.mem_cons_of_mem _ (List.mem_cons_of_mem _ (List.mem_cons_of_mem _ (List.mem_cons_of_mem _ (List.mem_cons_self))))))))))))))))))))))))))
    exact ⟨ce, .long x, by rw [g1]; exact y2, u2, y4, by show x.toInt = 605797; omega⟩
  have fk24 : k_fn w' ke 36 24 (267652) := by
    obtain ⟨a, ce, j, v, y1, y2, y3, y4, y5⟩ := e7 (7, (24, []), (1, (0, [(32, 1)]))) (List.mem_cons_of_mem _ (List.mem_cons_of_mem _ (List.mem_cons_of_mem _ (List.mem_cons_of_mem _ (List.mem_cons_of_mem _ (List.mem_cons_of_mem _ (List.mem_cons_of_mem _ (List.mem_cons_of_mem _ (List.mem_cons_of_mem _ (List.mem_cons_of_mem _ (List.mem_cons_of_mem _ (List.mem_cons_of_mem _ (List.mem_cons_of_mem _ (List.mem_cons_of_mem _ (List.mem_cons_of_mem _ (List.mem_cons_of_mem _ (List.mem_cons_of_mem _ (List.mem_cons_of_mem _ (List.mem_cons_of_mem _ (List.mem_cons_of_mem _ (List.mem_cons_of_mem _ (List.mem_cons_of_mem _ (List.mem_cons_of_mem _ (List.mem_cons_of_mem _ (List.mem_cons_of_mem _ (List.mem_cons_of_mem _ (List.mem_cons_of_mem _ (List.mem_cons_of_mem _ (List.mem_cons_of_mem _ (List.mem_cons_self))))))))))))))))))))))))))))))
    have y1 : r 7 = (a : Int) := y1
    have hha : r 7 = (ke : Int) := hke
    have y3 : (24 : Int) + 0 = (j : Int) := y3
    have ej : j = 24 := by omega
    have ea : a = ke := by omega
    subst ej; subst ea
    obtain ⟨ce', u1, u2⟩ := j7
    obtain ⟨x, rfl, y6⟩ := y5
    have y6 : x.toInt = 0 + (1 * r 32 + 0) := y6
    have y7 : (267652 : Int) ≤ r 32 ∧ r 32 ≤ 267652 := e1 (32, 267652, 267652) (List.mem_cons_of_mem _ (List.mem_cons_of_mem _ (List.mem_cons_of_mem _ (List.mem_cons_of_mem _ (List.mem_cons_of_mem _ (List.mem_cons_of_mem _ (List.mem_cons_of_mem _ (List.mem_cons_of_mem _ (List.mem_cons_of_mem _ (List.mem_cons_of_mem _ (List.mem_cons_of_mem _ (List.mem_cons_of_mem _ (List.mem_cons_of_mem _ (List.mem_cons_of_mem _ (List.mem_cons_of_mem _ (List.mem_cons_of_mem _ (List.mem_cons_of_mem _ (List.mem_cons_of_mem _ (List.mem_cons_of_mem _ (List.mem_cons_of_mem _ (List.mem_cons_of_mem _ (List.mem_cons_of_mem _ (List.mem_cons_of_mem _ (List.mem_cons_of_mem _ (List.mem_cons_of_mem _ (List.mem_cons_of_mem _ (List.mem_cons_self)))))))))))))))))))))))))))
    exact ⟨ce, .long x, by rw [g1]; exact y2, u2, y4, by show x.toInt = 267652; omega⟩
  have fk25 : k_fn w' ke 36 25 (486) := by
    obtain ⟨a, ce, j, v, y1, y2, y3, y4, y5⟩ := e7 (7, (25, []), (1, (0, [(33, 1)]))) (List.mem_cons_of_mem _ (List.mem_cons_of_mem _ (List.mem_cons_of_mem _ (List.mem_cons_of_mem _ (List.mem_cons_of_mem _ (List.mem_cons_of_mem _ (List.mem_cons_of_mem _ (List.mem_cons_of_mem _ (List.mem_cons_of_mem _ (List.mem_cons_of_mem _ (List.mem_cons_of_mem _ (List.mem_cons_of_mem _ (List.mem_cons_of_mem _ (List.mem_cons_of_mem _ (List.mem_cons_of_mem _ (List.mem_cons_of_mem _ (List.mem_cons_of_mem _ (List.mem_cons_of_mem _ (List.mem_cons_of_mem _ (List.mem_cons_of_mem _ (List.mem_cons_of_mem _ (List.mem_cons_of_mem _ (List.mem_cons_of_mem _ (List.mem_cons_of_mem _ (List.mem_cons_of_mem _ (List.mem_cons_of_mem _ (List.mem_cons_of_mem _ (List.mem_cons_of_mem _ (List.mem_cons_of_mem _ (List.mem_cons_of_mem _ (List.mem_cons_self)))))))))))))))))))))))))))))))
    have y1 : r 7 = (a : Int) := y1
    have hha : r 7 = (ke : Int) := hke
    have y3 : (25 : Int) + 0 = (j : Int) := y3
    have ej : j = 25 := by omega
    have ea : a = ke := by omega
    subst ej; subst ea
    obtain ⟨ce', u1, u2⟩ := j7
    obtain ⟨x, rfl, y6⟩ := y5
    have y6 : x.toInt = 0 + (1 * r 33 + 0) := y6
    have y7 : (486 : Int) ≤ r 33 ∧ r 33 ≤ 486 := e1 (33, 486, 486) (List.mem_cons_of_mem _ (List.mem_cons_of_mem _ (List.mem_cons_of_mem _ (List.mem_cons_of_mem _ (List.mem_cons_of_mem _ (List.mem_cons_of_mem _ (List.mem_cons_of_mem _ (List.mem_cons_of_mem _ (List.mem_cons_of_mem _ (List.mem_cons_of_mem _ (List.mem_cons_of_mem _ (List.mem_cons_of_mem _ (List.mem_cons_of_mem _ (List.mem_cons_of_mem _ (List.mem_cons_of_mem _ (List.mem_cons_of_mem _ (List.mem_cons_of_mem _ (List.mem_cons_of_mem _ (List.mem_cons_of_mem _ (List.mem_cons_of_mem _ (List.mem_cons_of_mem _ (List.mem_cons_of_mem _ (List.mem_cons_of_mem _ (List.mem_cons_of_mem _ (List.mem_cons_of_mem _ (List.mem_cons_of_mem _ (List.mem_cons_of_mem _ (List.mem_cons_self))))))))))))))))))))))))))))
    exact ⟨ce, .long x, by rw [g1]; exact y2, u2, y4, by show x.toInt = 486; omega⟩
  have hkk : ∀ k, k < 26 → k_fn w' ke 36 k (t_nth t_keys k) := fun k hk => match k, hk with
    | 0, _ => fk0
    | 1, _ => fk1
    | 2, _ => fk2
    | 3, _ => fk3
    | 4, _ => fk4
    | 5, _ => fk5
    | 6, _ => fk6
    | 7, _ => fk7
    | 8, _ => fk8
    | 9, _ => fk9
    | 10, _ => fk10
    | 11, _ => fk11
    | 12, _ => fk12
    | 13, _ => fk13
    | 14, _ => fk14
    | 15, _ => fk15
    | 16, _ => fk16
    | 17, _ => fk17
    | 18, _ => fk18
    | 19, _ => fk19
    | 20, _ => fk20
    | 21, _ => fk21
    | 22, _ => fk22
    | 23, _ => fk23
    | 24, _ => fk24
    | 25, _ => fk25
    | n + 26, h => absurd h (by omega)
  have hR0 : k_R a1 a2 w' := by
    obtain ⟨y5, hy5⟩ := k_fnE (i := 6) g2 j1 k_sh12 (by decide)
    obtain ⟨tp, rfl, htp⟩ := k_fnRf (t' := 16) g2 hy5 (by decide +kernel)
    obtain ⟨y6, hy6⟩ := k_fnE (i := 7) g2 g4 k_sh13 (by decide)
    obtain ⟨tm, rfl, htm⟩ := k_fnRf (t' := 62) g2 hy6 (by decide +kernel)
    exact ⟨0, tp, tm, rd, ke, fun _ => 0, by omega, fun _ => by show -128 ≤ (0 : Int) ∧ (0 : Int) ≤ 127; omega, ⟨f1, hy5, htp, fun p hp => absurd hp (by omega)⟩, ⟨f2, hy6, htm, fun p hp => absurd hp (by omega)⟩, frd, fke, j6, j7, hkk⟩
  refine lv_iconst (v := nI 0) hx hb k_L16 (by decide) ?_
  refine lv_istore_n (lv' := [(3, .int (nI 0)), (0, .ref b), (1, .ref a1), (2, .ref a2)]) hx hb k_L17 rfl hl (by decide) rfl fun ls' hl' => ?_
  exact k_loop C hr hlocks 513 0 w' H locs ls' (by omega) (by omega) ⟨I, hR0⟩ (lv_sub hl' [1, 2, 3, 0] rfl)
end LLP
set_option maxHeartbeats 1000000 in
/-- YOUR PART: from the entry, for every script of at most 3584 ints, the law comes to its end with true -/
theorem whole_start {p : Program} {e : Env} {s : State} {m : MethodId} {below : List Frame} {meth : Method} {c : Code} (l : Launch) {b L : Nat} {xs : Nat → Int32} (hL : L ≤ 3584) (C0 : lw_At p s m meth c b L xs) : W p l e room_1 s m #[Value.ref b] below meth c s.heap [] 0 0 (lw_Z below #[Value.ref b] s) (entryFrame m ([Value.ref b] : List Value).toArray 4) := by
  obtain ⟨hx, hb, hr, hml, hown, hts, hX, hbl, hlocks, hgv⟩ := id C0
  have htw : ∀ w ∈ k_ws, w.before #[Value.ref b] s = true := fun w hw => hts w (List.mem_filter.mp hw).1
  obtain ⟨D, hKc⟩ := k_known htw
  obtain ⟨dA, hKa⟩ := k_arrs hts
  have hK : va_K D k_cl (c_tys dA "MayBoats$Book") s := ⟨hKc, hKa⟩
  have hN : ∀ x ∈ k_Z.2.2.2.1, va_Nw x s := fun x hx => by
    obtain ⟨a, i, y, h, rfl⟩ := k_nest x hx
    rw [k_Zn] at hx
    exact va_Nw.of rfl (hts _ (List.mem_filter.mp hx).1)
  have hAX : c_AX (k_AA s) s := ⟨fun q h => h, k_Xi0 hts hgv⟩
  have C : k_Cx p s m c b L xs D dA := ⟨hx, hb, hml, hown, htw, hK, hN, hAX, hX, hbl, hL⟩
  have hl := lv_entry ([.ref b]) (n := 4) (Nat.le_of_ble_eq_true rfl)
  rw [lg_entry_eq]
  generalize (lg_sl ([.ref b]) ++ List.replicate (4 - (lg_sl ([.ref b])).length) Slot.unset).toArray = ls at hl ⊢
  have hl : lv_has ls 4 [(0, .ref b)] := hl
  have hP : va_P D k_cl [] s.heap := fun k q h => by simp at h
  have hD : va_D (k_AA s) [] := ⟨fun i j p q h => by simp at h, fun k q h => by simp at h⟩
  obtain ⟨rr, hrb⟩ : ∃ rr : Nat → Int, rr 1 = (b : Int) := ⟨fun _ => (b : Int), rfl⟩
  have hT : c_TW k_K dA (fun _ => 0, [], fun _ => 1) := fun q hq => by cases hq
  have hs : c_sat 2 rr k_A0L [(0, .ref b)] [] (fun _ => 0, [], fun _ => 1) := by
    refine ⟨Nat.le_refl _, rr, c_agr_rf _ _, fun r hr => ⟨fun q hq => (by cases hq), fun q hq => (by cases hq), fun q hq => (by cases hq), fun q hq => (by cases hq), ⟨⟨rfl, Or.inr ⟨b, rfl, ?_⟩⟩, trivial⟩, trivial, fun q hq => ?_⟩⟩
    · show c_ev r (c_sym 1) = (b : Int)
      rw [c_ev_sym, hr 1 (by decide), hrb]
    · cases List.mem_singleton.mp hq
      refine ⟨1, ?_, ?_⟩
      · show (1 : Int) + 0 = ((1 : Nat) : Int)
        omega
      · show c_gv 1 1 = 1 + 0
        decide
  have hG : ∀ a, ∀ ct ∈ k_PL.2.1 a, c_Good l D k_cl dA (k_AA s) "MayBoats$Book" k_K k_Z 1000 ct := fun a ct hct => k_all 1000 a ct hct
  have key := c_go_ok (p := p) (l := l) (e := e) (R := room_1) (s := s) (m := m) (args := #[Value.ref b]) (below := below) (meth := meth) (c := c) (D := D) (cl := k_cl) (dA := dA) (AA := k_AA s) (K := k_K) (O := k_cL) (w0 := (fun _ => 0, [], fun _ => 1)) (cc := code) (nL := 4) (Q := lw_Z below #[Value.ref b] s) (n0 := 2) (r0 := rr) (rr := rr) (P := k_PL) (b := k_bL) (X := c_X0) (src := none)
    (fun pc A x L hf hst hL => by
      obtain ⟨q, q1, q2⟩ := c_find_ok hf
      have hst : c_step k_K k_PL k_cL 4 19 [] A pc x.2 x.1 = some L := hst
      have hq := List.mem_singleton.mp (show q ∈ k_rwL from q1)
      subst hq
      have q2 : (pc, x) ∈ [((0 : Nat), (Jvm.ClassFile.Instr.new 7, 3)), (3, (.dup, 1)), (4, (.invokespecial 9, 3)), (7, (.astore_n 1, 1)), (8, (.new 10, 3)), (11, (.dup, 1)), (12, (.invokespecial 12, 3)), (15, (.astore_n 2, 1))] := q2
      simp only [List.mem_cons, List.not_mem_nil, or_false] at q2
      rcases q2 with h | h | h | h | h | h | h | h
      · cases h
        exact c_m_new (Z := k_Z) (bk := "MayBoats$Book") (P := k_PL) (own := 19) (an := []) (len := 3) (by decide) k_Jnw htw hAX.1 ⟨(by decide), (by decide)⟩ k_lnkOkL k_clsOk hown hx hb hK hst k_L0 hL
      · cases h
        exact c_m_dup (P := k_PL) (own := 19) (an := []) (len := 1) hx hb hst k_L3 hL
      · cases h
        exact k_mc_init (Z := k_Z) (bk := "MayBoats$Book") (P := k_PL) (own := 19) (a := 111) (v := 0) hx hb hml hown htw hK hN k_nest hAX k_good k_mOk k_lnkOkL (fun r => (show (1001 : Int) + 0 ≤ 1001 by decide)) ⟨(by decide), (by decide)⟩ hG rfl hst k_L4 hL
      · cases h
        exact c_m_astore_n (P := k_PL) (own := 19) (an := []) (len := 1) hx hb hst k_L7 hL
      · cases h
        exact c_m_new (Z := k_Z) (bk := "MayBoats$Book") (P := k_PL) (own := 19) (an := []) (len := 3) (by decide) k_Jnw htw hAX.1 ⟨(by decide), (by decide)⟩ k_lnkOkL k_clsOk hown hx hb hK hst k_L8 hL
      · cases h
        exact c_m_dup (P := k_PL) (own := 19) (an := []) (len := 1) hx hb hst k_L11 hL
      · cases h
        exact k_mc_init (Z := k_Z) (bk := "MayBoats$Book") (P := k_PL) (own := 19) (a := 200) (v := 0) hx hb hml hown htw hK hN k_nest hAX k_good k_mOk k_lnkOkL (fun r => (show (1001 : Int) + 0 ≤ 1001 by decide)) ⟨(by decide), (by decide)⟩ hG rfl hst k_L12 hL
      · cases h
        exact c_m_astore_n (P := k_PL) (own := 19) (an := []) (len := 1) hx hb hst k_L15 hL)
    (fun pc A B k hX hB => by cases hX) k_Jnw k_noRaw (fun s hs => by cases hs) (Nat.le_refl _) (c_agr_rf _ _)
    (fun q hq => by
      have hq := List.mem_singleton.mp (show q ∈ [((16 : Nat), k_T16, ((0, []) : cLin))] from hq)
      subst hq
      exact ⟨k_wfL, fun r1 hr1 _ => k_from16 C hr hlocks hrb hr1⟩)
    60 false [(0, k_A0L)] k_rL (0, k_A0L) List.mem_cons_self
  exact key [(0, .ref b)] [] (fun _ => 0, [], fun _ => 1) 0 0 rfl rfl hT (c_ext_rf _ _ _) hs s.heap [] ls hP hD va_S.rf hl
