/-! the law's start -/
theorem k_inL (c i : Nat) {w : Cond} (h : (k_tb c)[i]? = some w) : w ∈ lw_tbl := k_tb_in (List.mem_of_getElem? h)
theorem k_inst : ∀ (ci : Nat) (C : String) (T : u_T) (N : Nat), k_cl[ci]? = some (C, T, N) → Jvm.Cond.instantiable C N ∈ k_ws := by
  intro ci C T N hc
  match ci, hc with
  | 0, hc => rw [k_cc0] at hc; cases hc; exact (k_in 1 154 rfl rfl)
  | 1, hc => rw [k_cc1] at hc; cases hc; exact (k_in 1 30 rfl rfl)
  | 2, hc => rw [k_cc2] at hc; cases hc; exact (k_in 1 160 rfl rfl)
  | 3, hc => rw [k_cc3] at hc; cases hc; exact (k_in 2 20 rfl rfl)
  | 4, hc => rw [k_cc4] at hc; cases hc; exact (k_in 1 49 rfl rfl)
  | 5, hc => rw [k_cc5] at hc; cases hc; exact (k_in 2 54 rfl rfl)
  | 6, hc => rw [k_cc6] at hc; cases hc; exact (k_in 2 147 rfl rfl)
  | 7, hc => rw [k_cc7] at hc; cases hc; exact (k_in 3 48 rfl rfl)
  | 8, hc => rw [k_cc8] at hc; cases hc; exact (k_in 1 226 rfl rfl)
  | 9, hc => rw [k_cc9] at hc; cases hc; exact (k_in 2 180 rfl rfl)
  | 10, hc => rw [k_cc10] at hc; cases hc; exact (k_in 3 1 rfl rfl)
  | 11, hc => rw [k_cc11] at hc; cases hc; exact (k_in 1 22 rfl rfl)
  | 12, hc => rw [k_cc12] at hc; cases hc; exact (k_in 7 63 rfl rfl)
  | n + 13, hc => exact absurd hc (by unfold k_cl; simp)
theorem k_known {s : State} {args : Array Value} (hts : ∀ w ∈ k_ws, w.before args s = true) : ∃ D : va_G, ∀ (ci : Nat) (q : vw_C), k_cl[ci]? = some q → u_Kn s q.1 q.2.1 q.2.2 (D.1 ci) (D.2 ci) := by
  have hex : ∀ ci : Nat, ∃ f : ClassId × (Nat → Nat), ∀ q : vw_C, k_cl[ci]? = some q → u_Kn s q.1 q.2.1 q.2.2 f.1 f.2 := by
    intro ci
    cases hq : k_cl[ci]? with
    | none => exact ⟨(0, fun _ => 0), fun q h => by cases h⟩
    | some q =>
      obtain ⟨C, T, N⟩ := q
      obtain ⟨cC, iS, h⟩ := u_known (n := N) hts (k_clsOk ci C T N hq).1 (hts _ (k_inst ci C T N hq))
      exact ⟨(cC, iS), fun q' h' => by cases h'; exact h⟩
  obtain ⟨f, hf⟩ := Classical.axiomOfChoice hex
  exact ⟨(fun c => (f c).1, fun c => (f c).2), hf⟩
theorem k_prim {s : State} {args : Array Value} {ty : FieldType} (h : (Cond.arrayClass ty).before args s = true) : ∃ cA, ArrOfT s cA ty ∧ s.vm.findClass ("[" ++ ty.toString) = some cA := by
  obtain ⟨cA, k, comp, h1, h2, h3⟩ := Cond.arrayClass_spec h
  exact ⟨cA, fun n z => ⟨fun x => by simp [arrV], k, h2, comp, h3⟩, h1⟩
theorem k_arrs {s : State} {args : Array Value} (hts : ∀ w ∈ lw_tbl, w.before args s = true) : ∃ dA : Nat → ClassId, ∀ (k : Nat) (q : ClassId × FieldType), (c_tys dA "MayBoats$Book")[k]? = some q → ArrOfT s q.1 q.2 ∧ va_RA s q.1 q.2 := by
  obtain ⟨c1, a1, b1⟩ := k_prim (ty := .int) (hts _ (k_inL 1 150 rfl))
  obtain ⟨c2, a2, b2⟩ := k_prim (ty := .long) (hts _ (k_inL 1 149 rfl))
  obtain ⟨c3, a3, b3⟩ := k_prim (ty := .byte) (hts _ (k_inL 1 151 rfl))
  obtain ⟨c4, a4, b4⟩ := k_prim (ty := .short) (hts _ (k_inL 1 152 rfl))
  obtain ⟨c5, a5, b5⟩ := k_prim (ty := .boolean) (hts _ (k_inL 3 92 rfl))
  obtain ⟨comp6, c6, k6, g1, g2, g3, g4, g5⟩ := Cond.arrayOver_spec (hts _ (k_inL 2 145 rfl))
  obtain ⟨comp7, c7, k7, e1, e2, e3, e4⟩ := k_ovr (hts _ (k_inL 1 47 rfl))
  refine ⟨fun k => match k with
    | 1 => c1
    | 2 => c2
    | 3 => c3
    | 4 => c4
    | 5 => c5
    | 6 => c6
    | _ => c7, fun k q hq => ?_⟩
  match k, hq with
  | 0, hq => cases hq; exact ⟨a1, b1⟩
  | 1, hq => cases hq; exact ⟨a2, b2⟩
  | 2, hq => cases hq; exact ⟨a3, b3⟩
  | 3, hq => cases hq; exact ⟨a4, b4⟩
  | 4, hq => cases hq; exact ⟨a5, b5⟩
  | 5, hq => cases hq; exact ⟨fun n z => ⟨fun x => by simp [arrV], k6, g3, comp6, g4⟩, k6, comp6, g3, g4, g1, g5⟩
  | 6, hq => cases hq; exact ⟨fun n z => ⟨fun x => by simp [arrV], k7, e2, comp7, e3⟩, e4⟩
  | n + 7, hq => exact absurd hq (by unfold c_tys; simp)
def k_wtm : Nat → Term
  | 0 => .string "MayBoats$Reader" 42
  | 1 => .string "MayBoats$Reader" 48
  | _ => .string "MayBoats$Reader" 50
def k_wfl : List Cond := flatC (Jvm.Cond.and given_1 narrow_1)
theorem k_wf1 : ∀ i, i < 3 → (Cond.exactly (k_wtm i) "java/lang/String") ∈ k_wfl := by decide +kernel
theorem k_wf2 : ∀ i, i < 3 → (Cond.eq (.field (k_wtm i) "java/lang/String" "coder" "B") (.int 0)) ∈ k_wfl := by decide +kernel
theorem k_wf3 : ∀ i, i < 3 → (Cond.arrayOf (.field (k_wtm i) "java/lang/String" "value" "[B") .byte) ∈ k_wfl := by decide +kernel
theorem k_wf4 : ∀ i, i < 3 → (Cond.eq (.length (.field (k_wtm i) "java/lang/String" "value" "[B")) (.int (Int32.ofNat (k_sl.getD i 0)))) ∈ k_wfl := by decide +kernel
theorem k_wf5 : ∀ i, i < 3 → ∀ j, j < k_sl.getD i 0 → (Cond.eq (.elem (.field (k_wtm i) "java/lang/String" "value" "[B") (.int (Int32.ofNat j))) (.int ((k_sb.getD i []).getD j 0))) ∈ k_wfl := by decide +kernel
theorem k_wf6 : ∀ i, i < 3 → ∀ j, j < 3 → i ≠ j → (Cond.not (Cond.eq (k_wtm i) (k_wtm j))) ∈ k_wfl ∨ (Cond.not (Cond.eq (k_wtm j) (k_wtm i))) ∈ k_wfl := by decide +kernel
theorem k_wf7 : (Cond.eq (.static "java/lang/String" "COMPACT_STRINGS" "Z") (.int 1)) ∈ k_wfl := by decide +kernel
theorem k_wf8 : (Cond.isRef (.static "jdk/internal/util/Preconditions" "SIOOBE_FORMATTER" "Ljava/util/function/BiFunction;")) ∈ k_wfl := by decide +kernel
theorem k_Xi0 {s : State} {args : Array Value} (hts : ∀ w ∈ lw_tbl, w.before args s = true) (hgv : (Jvm.Cond.and given_1 narrow_1).before args s = true) : c_Xi (k_AA s) s := by
  have hs : ∀ x ∈ k_wfl, x.before args s = true := flat_of_before _ hgv
  have hA : ∀ a : Nat, a < s.heap.size → ¬ k_AA s a := fun a h => Nat.not_le.mpr h
  obtain ⟨adK, adV, h1, h2⟩ := vk_Sof (args := args) (s := s) (N := 3) (tm := k_wtm) (len := k_sl) (byt := k_sb) (A := k_AA s) (fun i hi => by have := k_sl31 hi; omega) (fun i hi => hs _ (k_wf1 i hi)) (fun i hi => hs _ (k_wf2 i hi)) (fun i hi => hs _ (k_wf3 i hi)) (fun i hi => hs _ (k_wf4 i hi)) (fun i hi j hj => hs _ (k_wf5 i hi j hj)) (fun i j hi hj hij => (k_wf6 i hi j hj hij).imp (fun h => hs _ h) (fun h => hs _ h)) hA
  exact ⟨adK, adV, 0, h1, ⟨vk_R.of (hts _ (k_inL 1 54 rfl)) (h2 0 (by decide)), vk_R.of (hts _ (k_inL 1 108 rfl)) (h2 1 (by decide)), vk_R.of (hts _ (k_inL 1 109 rfl)) (h2 2 (by decide))⟩, va_Zof (hts _ (k_inL 1 68 rfl)) (hts _ (k_inL 1 4 rfl)) (va_eqi (hs _ k_wf7)) hA, va_Zqof (hts _ (k_inL 1 84 rfl)) (hts _ (k_inL 1 6 rfl)) (hs _ k_wf8) hA, va_AO.of (hts _ (k_inL 2 145 rfl)), hts _ (k_inL 1 47 rfl)⟩
/-! the law's first two calls: by the checker -/
def k_lnkL : List (Nat × cLk) := [(7, (3, 11, 20, 0)), (9, (1, 111, 2, 0)), (10, (3, 12, 58, 0)), (12, (1, 200, 2, 0))]
def k_PL : cPrg := (fun own idx => if Nat.beq own 19 then k_look idx k_lnkL else k_P.1 own idx, k_P.2)
theorem k_lnkOkL : c_lnkOk k_PL k_cl k_Z := by
  intro own idx k a b v h
  have h : (if Nat.beq own 19 then k_look idx k_lnkL else k_P.1 own idx) = some (k, a, b, v) := h
  split at h
  · rename_i ho
    have ho := Nat.eq_of_beq_eq_true ho
    subst ho
    have h1 := k_look_ok h
    have hall : k_allL 19 k_lnkL := ⟨k_l3 k_cc11 (k_in 1 21 rfl rfl) (k_in 1 22 rfl rfl) k_cw11.1, k_l1 k_M111 rfl (k_in 1 23 rfl rfl) rfl, k_l3 k_cc12 (k_in 7 62 rfl rfl) (k_in 7 63 rfl rfl) k_cw12.1, k_l1 k_M200 rfl (k_in 7 64 rfl rfl) rfl, trivial⟩
    exact k_allL_ok hall _ h1
  · exact k_lnkOk _ _ _ _ _ _ h
def k_cL : cCtr := (999, [(2, 0, 0, 0)], [], [], [], (1001, []), (List.range 120).map (fun t => (t, 0, 1000000000000)), (List.range 13).map (fun t => t + 101), 0, 200, 20000, 0, [])
def k_T16 : cSt := (19, [(5, (-1), (-1)), (6, (-1), (-1)), (7, (-1), (-1)), (8, (-1), (-1)), (10, (-1), (-1)), (11, (-1), (-1)), (12, (-1), (-1)), (13, (-1), (-1))], [(2, 3), (3, 3), (4, 3), (9, 3), (14, 3)], [(2, 12), (3, 13), (4, 14), (9, 60), (14, 18)], [((-1), [(15, 1), (14, (-1))]), (1, [(14, 1), (15, (-1))]), ((-2), [(16, 1), (14, (-1))]), (2, [(14, 1), (16, (-1))]), ((-3), [(17, 1), (14, (-1))]), (3, [(14, 1), (17, (-1))]), ((-4), [(18, 1), (14, (-1))]), (4, [(14, 1), (18, (-1))])], [(0, (2, (0, [(1, 1)]))), (1, (2, (0, [(2, 1)]))), (2, (2, (0, [(3, 1)])))], [], [(0, (1, []), (1, (1, []))), (2, (4, []), (2, (0, [(4, 1)]))), (4, (0, []), (0, (0, [(5, 1)]))), (4, (1, []), (0, (0, [(6, 1)]))), (4, (2, []), (0, (0, [(7, 1)]))), (4, (3, []), (0, (0, [(8, 1)]))), (3, (5, []), (2, (0, [(9, 1)]))), (9, (0, []), (0, (0, [(10, 1)]))), (9, (1, []), (0, (0, [(11, 1)]))), (9, (2, []), (0, (0, [(12, 1)]))), (9, (3, []), (0, (0, [(13, 1)]))), (2, (3, []), (2, (0, [(14, 1)]))), (14, (0, []), (2, (0, [(15, 1)]))), (14, (1, []), (2, (0, [(16, 1)]))), (14, (2, []), (2, (0, [(17, 1)]))), (14, (3, []), (2, (0, [(18, 1)])))], 111, 18026)
def k_rwL : cCode := [(15, [(0, .new 7, 3), (3, .dup, 1), (4, .invokespecial 9, 3), (7, .astore_n 1, 1), (8, .new 10, 3), (11, .dup, 1), (12, .invokespecial 12, 3), (15, .astore_n 2, 1)])]
def k_bL : cBody := (4, 19, [], k_rwL, [(16, k_T16, (0, []))])
def k_A0L : cSt := (2, [], [], [], [], [(0, (2, c_sym 1))], [], [(0, (1, []), (1, (1, [])))], 0, 0)
theorem k_rL : c_go c_X0 k_K k_PL k_cL k_bL none 60 false [(0, k_A0L)] = true := by decide +kernel
theorem k_wfL : c_wfT k_T16 = true := by decide +kernel
section MCL
variable {p : Program} {l : Launch} {e : Env} {s : State} {m : MethodId} {args : Array Value} {below : List Frame} {meth : Method} {c : Code} {D : va_G} {cl : List vw_C} {dA : Nat → ClassId} {AA : Nat → Prop} {K : cTab} {O : cCtr} {w0 : cWld} {cc : ByteArray} {nL : Nat} {Q : State → Prop} {n0 : Nat} {r0 : Nat → Int}
  {P : cPrg} {own : Nat} {an : cAnn} {A : cSt} {pc len : Nat} {L : List (Nat × cSt)} {Z : cStat} {bk : String}
theorem k_mc_init {i a : Nat} {v : Int} (hx : p.tables.exec = Jvm.exec) (hb : c.code = cc) (hml : c.maxLocals = nL) (hown : s.vm.findClass (Z.1 own) = some m.cls) (hts : ∀ w ∈ Z.2.2.1, w.before args s = true) (hK : va_K D cl (c_tys dA bk) s) (hN : ∀ x ∈ Z.2.2.2.1, va_Nw x s) (hnw : ∀ x ∈ Z.2.2.2.1, ∃ (a : String) (i : Nat) (y : MethodName) (h : String), x = .methodLinkNest a i y h) (hA : c_AX AA s) (hgd : GoodIn Z.2.2.1 Z.2.2.1) (hmO : c_mOk K P cl Z) (hlk : c_lnkOk P cl Z)
    (hdO : ∀ r, c_ev r (ct_dep O) ≤ 1001) (hR : ct_mc O ≤ 600000 ∧ ct_ms O ≤ 7302250) (hG : ∀ a, ∀ ct ∈ P.2.1 a, c_Good l D cl dA AA bk K Z 1000 ct) (hlnk : P.1 own i = some (1, a, 2, v)) (g : c_call K O A (pc + 3) ((c_stk A).take (P.2.2.1 a)).reverse ((c_stk A).drop (P.2.2.1 a)) (P.2.1 a) = some L) (hd : decode cc pc = .ok (.invokespecial i, 3)) (hL : ∀ q ∈ L, c_OK ((p, l, e, room_1, s, m, args, below, meth, c), (D, cl, dA, AA), (K, O, w0), (cc, nL, Q)) n0 r0 q.1 q.2) : c_OK ((p, l, e, room_1, s, m, args, below, meth, c), (D, cl, dA, AA), (K, O, w0), (cc, nL, Q)) n0 r0 pc A := by
  obtain ⟨ct, hct, hc1⟩ := c_call_in g
  intro lv st w cu su hcu hsu hT hE hs H locs ls hP hD hS hl
  subst hcu; subst hsu
  obtain ⟨vals, ss, pv, rfl, hlen, hcat, hpre, ⟨r1, hag, hdp⟩, hcu, hsu, hcont⟩ := c_call1_ok hT hD hs (by rw [List.reverse_reverse]; exact (List.take_append_drop _ _).symm) hc1
  obtain ⟨M, hM, hlink, hkind⟩ := (hlk _ _ _ _ _ _ hlnk : ∃ M : cMth, Z.2.1 a = some M ∧ Jvm.Cond.methodLink (Z.1 own) i M.1 ∈ Z.2.2.1 ∧ M.2.2.2.2 = 2)
  obtain ⟨m1, m2, m3, m4, m5, m6, m7, m8⟩ := hmO a M hM
  obtain ⟨t1, t2, t3, t4⟩ := m8 ct hct
  have hd0 : 0 ≤ c_ev pv (ct_dep ct) := hpre.2.2.1 _ t2
  have hd1 := hdO r1
  have hGd := hG a ct hct M (by rw [t1]; exact hM) w pv vals hpre (by omega) hT hD
  refine c_callU (D := D) (cl := cl) (dA := dA) (K := K) (ct := ct) (r1 := pv) (w := w) (va := vals.toArray) (rest := ss) ?_ hS fun rv res w' H1 locs1 hrv hpost hP1 hD1 hT1 hS1 => ?_
  · obtain ⟨t, bb, al, ci, N, T, u1, u2, u3⟩ := t4 (by omega)
    have harg := hpre.1
    rw [u1] at harg
    obtain ⟨x, As, rfl, ce, hx1, hx2⟩ := c_args_ref harg
    obtain ⟨q0, hq0⟩ := c_idx hx1
    have hform := (hT _ hx1).1
    dsimp only at hform
    rw [hx2, u2] at hform
    obtain ⟨fs, rfl, -⟩ := hform
    have hlenA : As.length = (ct_args ct).length - 1 := by
      rw [← hlen, List.length_cons]
      omega
    rw [if_neg (by omega)] at t3
    exact va_runI (bytes := M.2.1) (maxL := M.2.2.1) ⟨hx, hb, hml, hown, hts⟩ hGd ⟨callB_of (rm := c_rm 1000 ct) (ws' := Z.2.2.1) _ hts (c_goodIn hgd m1) (by unfold c_ws; rw [(m7 hkind).2.2]) rfl rfl (hts _ m2) (hts _ hlink) ⟨m3.1, m3.2, t3⟩ ⟨by show 1000 + 1 ≤ 2048; omega, by show 8 + (M.2.2.1 + 11) + 64 * 1000 ≤ 84000; omega⟩, (m7 hkind).2.1, hts _ (m7 hkind).1⟩ ⟨c_blind hnw, (c_Bp_at hnw hK hN hA hP hS)⟩ rfl hlenA hl.1 (by show (Value.ref x :: As).reverse ++ ss = _; rw [List.reverse_cons, List.append_assoc]; rfl) (c_F_mr hcat) hd ⟨Nat.le_trans hcu hR.1, Nat.le_trans hsu hR.2⟩
  · obtain ⟨⟨q, hq, hq1, k1, k2, k3⟩, k4⟩ := hcont w' rv res hrv hT1 hD1 hpost
    have hfin := hL q hq lv _ w' _ _ k2 k3 hT1 (k4 w0 hE) k1 H1 locs1 ls hP1 hD1 hS1 hl
    rw [hq1] at hfin
    exact hfin

end MCL
section LLP
variable {p : Program} {l : Launch} {e : Env} {s : State} {m : MethodId} {below : List Frame} {meth : Method} {c : Code} {b L : Nat} {xs : Nat → Int32} {D : va_G} {dA : Nat → ClassId} {a1 a2 : Nat}
theorem k_sub7 {L : Nat} (hL : L ≤ 3584) : (Int32.ofNat L - 7).toInt = (L : Int) - 7 := by
  have h1 : (Int32.ofNat L).toInt = (L : Int) := nI_toInt (n := L) (by omega)
  have h2 : (7 : Int32).toInt = 7 := by decide
  rw [Int32.toInt_sub, h1, h2]
  exact Int.bmod_eq_of_le_mul_two (by omega) (by omega)
theorem k_loop (C : k_Cx p s m c b L xs D dA) (hr : meth.sig.returnType = ret) (hlocks : meth.locks = false) : ∀ (n k : Nat) (w : cWld) (H : Heap) (locs : List Loc) (ls : Array Slot), 513 ≤ n + k → k ≤ 512 → (k_In s D dA a1 a2 w H locs ∧ k_R a1 a2 w) → lv_has ls 4 (k_lv b a1 a2 (7 * k)) → W p l e room_1 s m #[Value.ref b] below meth c H locs (111 + 26 * k) (18026 + 1584 * k) (lw_Z below #[Value.ref b] s) (F0 m 18 ls [])
  | 0, k, w, H, locs, ls, hn, hk, I, hl => absurd hn (by omega)
  | n + 1, k, w, H, locs, ls, hn, hk, I, hl => by
    obtain ⟨hx, hb, hml, hown, hts, hK, hN, hAX, hX, hbl, hL⟩ := id C
    have hS := I.1.2.2.2.1
    refine lv_iload_n hx hb k_L18 rfl (lv_at hl 3 rfl) ?_
    refine lv_aload_n hx hb k_L19 rfl (lv_at hl 0 rfl) ?_
    refine va_slen hx hb hX hbl (A := k_AA s) (Nat.not_le.mpr hbl) hS k_L20 ?_
    refine lv_bipush (v := 7) hx hb k_L21 (by decide) ?_
    refine lv_isub hx hb k_L23 ?_
    have h7 := k_sub7 hL
    have h8 := nI_toInt (n := 7 * k) (by omega)
    refine lv_icmp_gt hx hb k_L24 (tgt := 1996) (by decide) (fun _ => ?_) (fun hlt => ?_)
    · refine va_forget (fun q hq => hS.2.2 q hq) ?_
      refine W.widen (k := 600000) (n := 7302250) (by omega) (by omega) ?_
      refine lv_iconst (v := 1) hx hb k_L1996 (by decide) ?_
      exact lw_ret hx hb hr hlocks k_L1997
    · have hi : 7 * k + 7 ≤ L := by
        rw [Int32.lt_iff_toInt_lt] at hlt
        omega
      refine lv_aload_n hx hb k_L27 rfl (lv_at hl 0 rfl) ?_
      refine lv_iload_n hx hb k_L28 rfl (lv_at hl 3 rfl) ?_
      refine va_sld hx hb hX hbl (A := k_AA s) (Nat.not_le.mpr hbl) hS (vp_in_nI (n := 7 * k) (by omega) (by omega)) k_L29 ?_
      refine lv_bipush (v := 63) hx hb k_L30 (by decide) ?_
      refine lv_iand hx hb k_L32 ?_
      obtain ⟨z, hz, hz2⟩ := pk_andE (xs (nI (7 * k)).toNatClampNeg) (m := 63) 6 (by decide)
      rw [hz2]
      have hcb : 111 + 26 * k + 26 ≤ 600000 := by omega
      have hsb : 18026 + 1584 * k + 1584 ≤ 7302250 := by omega
      have kk : ∀ (w : cWld) (H : Heap) (locs : List Loc), k_In s D dA a1 a2 w H locs ∧ k_R a1 a2 w → W p l e room_1 s m #[Value.ref b] below meth c H locs (111 + 26 * k + 26) (18026 + 1584 * k + 1584) (lw_Z below #[Value.ref b] s) (F0 m 1990 ls []) := by
        intro w H locs I
        refine lv_iinc (k := 3) (v := nI (7 * (k + 1))) (lv' := [(3, .int (nI (7 * (k + 1)))), (0, .ref b), (1, .ref a1), (2, .ref a2)]) hx hb k_L1990 hl rfl ?_ (by decide) rfl fun ls' hl' => ?_
        · show nI (7 * k) + Int32.ofInt 7 = nI (7 * (k + 1))
          rw [show Int32.ofInt 7 = nI 7 from by decide, nI_add]
          congr 1
        · refine lv_goto hx hb k_L1993 (tgt := 18) (by decide) ?_
          have e1 : 111 + 26 * k + 26 ≤ 111 + 26 * (k + 1) := by rw [Nat.mul_succ]; exact Nat.le_of_eq (Nat.add_assoc _ _ _)
          have e2 : 18026 + 1584 * k + 1584 ≤ 18026 + 1584 * (k + 1) := by rw [Nat.mul_succ]; exact Nat.le_of_eq (Nat.add_assoc _ _ _)
          refine W.widen (k := 111 + 26 * (k + 1)) (n := 18026 + 1584 * (k + 1)) e1 e2 ?_
          exact k_loop C hr hlocks n (k + 1) w H locs ls' (by omega) (by omega) I (lv_sub hl' [1, 2, 3, 0] rfl)
      match z, hz with
      | 0, _ => exact lv_tableIn hx hb k_L33 (tgt := 260) (off := 227) (by decide) (by decide) rfl (by decide) (k_case0 C I hl hi hcb hsb kk)
      | 1, _ => exact lv_tableIn hx hb k_L33 (tgt := 273) (off := 240) (by decide) (by decide) rfl (by decide) (k_case1 C I hl hi hcb hsb kk)
      | 2, _ => exact lv_tableIn hx hb k_L33 (tgt := 286) (off := 253) (by decide) (by decide) rfl (by decide) (k_case2 C I hl hi hcb hsb kk)
      | 3, _ => exact lv_tableIn hx hb k_L33 (tgt := 299) (off := 266) (by decide) (by decide) rfl (by decide) (k_case3 C I hl hi hcb hsb kk)
      | 4, _ => exact lv_tableIn hx hb k_L33 (tgt := 342) (off := 309) (by decide) (by decide) rfl (by decide) (k_case4 C I hl hi hcb hsb kk)
      | 5, _ => exact lv_tableIn hx hb k_L33 (tgt := 415) (off := 382) (by decide) (by decide) rfl (by decide) (k_case5 C I hl hi hcb hsb kk)
      | 6, _ => exact lv_tableIn hx hb k_L33 (tgt := 449) (off := 416) (by decide) (by decide) rfl (by decide) (k_case6 C I hl hi hcb hsb kk)
      | 7, _ => exact lv_tableIn hx hb k_L33 (tgt := 512) (off := 479) (by decide) (by decide) rfl (by decide) (k_case7 C I hl hi hcb hsb kk)
      | 8, _ => exact lv_tableIn hx hb k_L33 (tgt := 575) (off := 542) (by decide) (by decide) rfl (by decide) (k_case8 C I hl hi hcb hsb kk)
      | 9, _ => exact lv_tableIn hx hb k_L33 (tgt := 598) (off := 565) (by decide) (by decide) rfl (by decide) (k_case9 C I hl hi hcb hsb kk)
      | 10, _ => exact lv_tableIn hx hb k_L33 (tgt := 621) (off := 588) (by decide) (by decide) rfl (by decide) (k_case10 C I hl hi hcb hsb kk)
      | 11, _ => exact lv_tableIn hx hb k_L33 (tgt := 644) (off := 611) (by decide) (by decide) rfl (by decide) (k_case11 C I hl hi hcb hsb kk)
      | 12, _ => exact lv_tableIn hx hb k_L33 (tgt := 677) (off := 644) (by decide) (by decide) rfl (by decide) (k_case12 C I hl hi hcb hsb kk)
      | 13, _ => exact lv_tableIn hx hb k_L33 (tgt := 752) (off := 719) (by decide) (by decide) rfl (by decide) (k_case13 C I hl hi hcb hsb kk)
      | 14, _ => exact lv_tableIn hx hb k_L33 (tgt := 775) (off := 742) (by decide) (by decide) rfl (by decide) (k_case14 C I hl hi hcb hsb kk)
      | 15, _ => exact lv_tableIn hx hb k_L33 (tgt := 808) (off := 775) (by decide) (by decide) rfl (by decide) (k_case15 C I hl hi hcb hsb kk)
      | 16, _ => exact lv_tableIn hx hb k_L33 (tgt := 867) (off := 834) (by decide) (by decide) rfl (by decide) (k_case16 C I hl hi hcb hsb kk)
      | 17, _ => exact lv_tableIn hx hb k_L33 (tgt := 890) (off := 857) (by decide) (by decide) rfl (by decide) (k_case17 C I hl hi hcb hsb kk)
      | 18, _ => exact lv_tableIn hx hb k_L33 (tgt := 923) (off := 890) (by decide) (by decide) rfl (by decide) (k_case18 C I hl hi hcb hsb kk)
      | 19, _ => exact lv_tableIn hx hb k_L33 (tgt := 976) (off := 943) (by decide) (by decide) rfl (by decide) (k_case19 C I hl hi hcb hsb kk)
      | 20, _ => exact lv_tableIn hx hb k_L33 (tgt := 1015) (off := 982) (by decide) (by decide) rfl (by decide) (k_case20 C I hl hi hcb hsb kk)
      | 21, _ => exact lv_tableIn hx hb k_L33 (tgt := 1038) (off := 1005) (by decide) (by decide) rfl (by decide) (k_case21 C I hl hi hcb hsb kk)
      | 22, _ => exact lv_tableIn hx hb k_L33 (tgt := 1081) (off := 1048) (by decide) (by decide) rfl (by decide) (k_case22 C I hl hi hcb hsb kk)
      | 23, _ => exact lv_tableIn hx hb k_L33 (tgt := 1124) (off := 1091) (by decide) (by decide) rfl (by decide) (k_case23 C I hl hi hcb hsb kk)
      | 24, _ => exact lv_tableIn hx hb k_L33 (tgt := 1147) (off := 1114) (by decide) (by decide) rfl (by decide) (k_case24 C I hl hi hcb hsb kk)
      | 25, _ => exact lv_tableIn hx hb k_L33 (tgt := 1170) (off := 1137) (by decide) (by decide) rfl (by decide) (k_case25 C I hl hi hcb hsb kk)
      | 26, _ => exact lv_tableIn hx hb k_L33 (tgt := 1193) (off := 1160) (by decide) (by decide) rfl (by decide) (k_case26 C I hl hi hcb hsb kk)
      | 27, _ => exact lv_tableIn hx hb k_L33 (tgt := 1226) (off := 1193) (by decide) (by decide) rfl (by decide) (k_case27 C I hl hi hcb hsb kk)
      | 28, _ => exact lv_tableIn hx hb k_L33 (tgt := 1249) (off := 1216) (by decide) (by decide) rfl (by decide) (k_case28 C I hl hi hcb hsb kk)
      | 29, _ => exact lv_tableIn hx hb k_L33 (tgt := 1272) (off := 1239) (by decide) (by decide) rfl (by decide) (k_case29 C I hl hi hcb hsb kk)
      | 30, _ => exact lv_tableIn hx hb k_L33 (tgt := 1315) (off := 1282) (by decide) (by decide) rfl (by decide) (k_case30 C I hl hi hcb hsb kk)
      | 31, _ => exact lv_tableIn hx hb k_L33 (tgt := 1348) (off := 1315) (by decide) (by decide) rfl (by decide) (k_case31 C I hl hi hcb hsb kk)
      | 32, _ => exact lv_tableIn hx hb k_L33 (tgt := 1371) (off := 1338) (by decide) (by decide) rfl (by decide) (k_case32 C I hl hi hcb hsb kk)
      | 33, _ => exact lv_tableIn hx hb k_L33 (tgt := 1450) (off := 1417) (by decide) (by decide) rfl (by decide) (k_case33 C I hl hi hcb hsb kk)
      | 34, _ => exact lv_tableIn hx hb k_L33 (tgt := 1463) (off := 1430) (by decide) (by decide) rfl (by decide) (k_case34 C I hl hi hcb hsb kk)
      | 35, _ => exact lv_tableIn hx hb k_L33 (tgt := 1496) (off := 1463) (by decide) (by decide) rfl (by decide) (k_case35 C I hl hi hcb hsb kk)
      | 36, _ => exact lv_tableIn hx hb k_L33 (tgt := 1529) (off := 1496) (by decide) (by decide) rfl (by decide) (k_case36 C I hl hi hcb hsb kk)
      | 37, _ => exact lv_tableIn hx hb k_L33 (tgt := 1552) (off := 1519) (by decide) (by decide) rfl (by decide) (k_case37 C I hl hi hcb hsb kk)
      | 38, _ => exact lv_tableIn hx hb k_L33 (tgt := 1575) (off := 1542) (by decide) (by decide) rfl (by decide) (k_case38 C I hl hi hcb hsb kk)
      | 39, _ => exact lv_tableIn hx hb k_L33 (tgt := 1598) (off := 1565) (by decide) (by decide) rfl (by decide) (k_case39 C I hl hi hcb hsb kk)
      | 40, _ => exact lv_tableIn hx hb k_L33 (tgt := 1621) (off := 1588) (by decide) (by decide) rfl (by decide) (k_case40 C I hl hi hcb hsb kk)
      | 41, _ => exact lv_tableIn hx hb k_L33 (tgt := 1644) (off := 1611) (by decide) (by decide) rfl (by decide) (k_case41 C I hl hi hcb hsb kk)
      | 42, _ => exact lv_tableIn hx hb k_L33 (tgt := 1677) (off := 1644) (by decide) (by decide) rfl (by decide) (k_case42 C I hl hi hcb hsb kk)
      | 43, _ => exact lv_tableIn hx hb k_L33 (tgt := 1740) (off := 1707) (by decide) (by decide) rfl (by decide) (k_case43 C I hl hi hcb hsb kk)
      | 44, _ => exact lv_tableIn hx hb k_L33 (tgt := 1803) (off := 1770) (by decide) (by decide) rfl (by decide) (k_case44 C I hl hi hcb hsb kk)
      | 45, _ => exact lv_tableIn hx hb k_L33 (tgt := 1826) (off := 1793) (by decide) (by decide) rfl (by decide) (k_case45 C I hl hi hcb hsb kk)
      | 46, _ => exact lv_tableIn hx hb k_L33 (tgt := 1849) (off := 1816) (by decide) (by decide) rfl (by decide) (k_case46 C I hl hi hcb hsb kk)
      | 47, _ => exact lv_tableIn hx hb k_L33 (tgt := 1872) (off := 1839) (by decide) (by decide) rfl (by decide) (k_case47 C I hl hi hcb hsb kk)
      | 48, _ => exact lv_tableIn hx hb k_L33 (tgt := 1895) (off := 1862) (by decide) (by decide) rfl (by decide) (k_case48 C I hl hi hcb hsb kk)
      | 49, _ => exact lv_tableIn hx hb k_L33 (tgt := 1918) (off := 1885) (by decide) (by decide) rfl (by decide) (k_case49 C I hl hi hcb hsb kk)
      | 50, _ => exact lv_tableIn hx hb k_L33 (tgt := 1941) (off := 1908) (by decide) (by decide) rfl (by decide) (k_case50 C I hl hi hcb hsb kk)
      | 51, _ => exact lv_tableIn hx hb k_L33 (tgt := 1964) (off := 1931) (by decide) (by decide) rfl (by decide) (k_case51 C I hl hi hcb hsb kk)
      | 52, _ => exact lv_tableIn hx hb k_L33 (tgt := 1977) (off := 1944) (by decide) (by decide) rfl (by decide) (k_case52 C I hl hi hcb hsb kk)
      | z + 53, hz =>
        refine lv_tableOut hx hb k_L33 (tgt := 1990) (Or.inr ?_) (by decide) ?_
        · have h9 := nI_toInt (n := z + 53) (by omega)
          rw [h9]
          omega
        · exact W.widen (Nat.le_add_right _ _) (Nat.le_add_right _ _) (kk _ _ _ I)
/-- the law from the place where both objects stand -/
theorem k_from16 (C : k_Cx p s m c b L xs D dA) (hr : meth.sig.returnType = ret) (hlocks : meth.locks = false) {rr r1 : Nat → Int} (hrb : rr 1 = (b : Int)) {w0 : cWld} (hag : c_agr 2 rr r1) : c_OK ((p, l, e, room_1, s, m, #[Value.ref b], below, meth, c), (D, k_cl, dA, k_AA s), (k_K, k_cL, w0), (code, 4, lw_Z below #[Value.ref b] s)) 19 r1 16 k_T16 := by
  intro lv st w cu su hcu hsu hT hE hs H locs ls hP hD hS hl
  obtain ⟨hx, hb, -⟩ := id C
  obtain ⟨r, hagr, hr0⟩ := hs.at
  obtain ⟨e1, e2, e3, e4, e5, e6, e7⟩ := hr0
  have hst : st = [] := c_F2_nil e6
  subst hst
  obtain ⟨q0, l1, rfl, f0, e5⟩ := c_F2_cons (show c_F2 (c_lr r) ((0, ((2, (0, [(1, 1)])) : cAV)) :: [(1, (2, (0, [(2, 1)]))), (2, (2, (0, [(3, 1)])))]) lv from e5)
  obtain ⟨q1, l2, rfl, f1, e5⟩ := c_F2_cons e5
  obtain ⟨q2, l3, rfl, f2, e5⟩ := c_F2_cons e5
  have hl3 : l3 = [] := c_F2_nil e5
  subst hl3
  obtain ⟨i0, v0⟩ := q0
  obtain ⟨i1, v1⟩ := q1
  obtain ⟨i2, v2⟩ := q2
  have h0 : (0 : Nat) = i0 := f0.1
  have h1 : (1 : Nat) = i1 := f1.1
  have h2 : (2 : Nat) = i2 := f2.1
  subst h0; subst h1; subst h2
  have p2 : 0 ≤ r 2 := e2 (2, 3) List.mem_cons_self
  have p3 : 0 ≤ r 3 := e2 (3, 3) (List.mem_cons_of_mem _ List.mem_cons_self)
  obtain ⟨a1, ha1, hin1⟩ := e3 (2, 12) List.mem_cons_self p2
  obtain ⟨a2, ha2, hin2⟩ := e3 (3, 13) (List.mem_cons_of_mem _ List.mem_cons_self) p3
  have hb1 : r 1 = (b : Int) := by rw [hagr 1 (by decide), hag 1 (by decide), hrb]
  have v0e : v0 = .ref b := by
    rcases c_DVr f0.2 rfl with ⟨-, h⟩ | ⟨x, h, h'⟩
    · have h : c_ev r (c_sym 1) = -1 := h
      rw [c_ev_sym] at h; omega
    · have h' : c_ev r (c_sym 1) = (x : Int) := h'
      rw [c_ev_sym] at h'
      have h : v0 = .ref x := h
      rw [h, show x = b by omega]
  have v1e : v1 = .ref a1 := by
    rcases c_DVr f1.2 rfl with ⟨-, h⟩ | ⟨x, h, h'⟩
    · have h : c_ev r (c_sym 2) = -1 := h
      rw [c_ev_sym] at h; omega
    · have h' : c_ev r (c_sym 2) = (x : Int) := h'
      rw [c_ev_sym] at h'
      have ha1 : r 2 = (a1 : Int) := ha1
      have h : v1 = .ref x := h
      rw [h, show x = a1 by omega]
  have v2e : v2 = .ref a2 := by
    rcases c_DVr f2.2 rfl with ⟨-, h⟩ | ⟨x, h, h'⟩
    · have h : c_ev r (c_sym 3) = -1 := h
      rw [c_ev_sym] at h; omega
    · have h' : c_ev r (c_sym 3) = (x : Int) := h'
      rw [c_ev_sym] at h'
      have ha2 : r 3 = (a2 : Int) := ha2
      have h : v2 = .ref x := h
      rw [h, show x = a2 by omega]
  subst v0e; subst v1e; subst v2e
  have hg1 : w.2.2 1 = 1 := by
    obtain ⟨j, j1, j2⟩ := e7 (0, (1, []), (1, (1, []))) List.mem_cons_self
    have j1 : (1 : Int) + 0 = (j : Int) := j1
    have ej : j = 1 := by omega
    subst ej
    have j2 : c_gv 1 (w.2.2 1) = 1 + 0 := j2
    unfold c_gv at j2
    rw [if_neg (by decide)] at j2
    omega
  obtain ⟨w', g1, g2, g3, g4, g5⟩ := k_switch hT hD hg1 hin2
  have hcu : 111 = cu := hcu
  have hsu : 18026 = su := hsu
  subst hcu; subst hsu
  have I : k_In s D dA a1 a2 w' H locs := ⟨by rw [g1]; exact hP, by rw [g1]; exact hD, g2, hS, g3 _ _ (by decide) hin1, g4, g5⟩
  have p4 : 0 ≤ r 4 := e2 (4, 3) (List.mem_cons_of_mem _ (List.mem_cons_of_mem _ (List.mem_cons_self)))
  have p9 : 0 ≤ r 9 := e2 (9, 3) (List.mem_cons_of_mem _ (List.mem_cons_of_mem _ (List.mem_cons_of_mem _ (List.mem_cons_self))))
  obtain ⟨so, hso, hin4⟩ := e3 (4, 14) (List.mem_cons_of_mem _ (List.mem_cons_of_mem _ (List.mem_cons_self))) p4
  obtain ⟨tm, htm, hin9⟩ := e3 (9, 60) (List.mem_cons_of_mem _ (List.mem_cons_of_mem _ (List.mem_cons_of_mem _ (List.mem_cons_self)))) p9
  have hso : r 4 = (so : Int) := hso
  have htm : r 9 = (tm : Int) := htm
  have j1 := g3 _ _ (by decide) hin1
  have j4 := g3 _ _ (by decide) hin4
  have j9 := g3 _ _ (by decide) hin9
  have f4 : k_fn w' a1 12 4 ((so : Int)) := by
    obtain ⟨a, ce, j, v, y1, y2, y3, y4, y5⟩ := e7 (2, (4, []), (2, (0, [(4, 1)]))) (List.mem_cons_of_mem _ (List.mem_cons_self))
    have y1 : r 2 = (a : Int) := y1
    have hha : r 2 = (a1 : Int) := ha1
    have y3 : (4 : Int) + 0 = (j : Int) := y3
    have ej : j = 4 := by omega
    have ea : a = a1 := by omega
    subst ej; subst ea
    obtain ⟨ce', u1, u2⟩ := j1
    rcases y5 with ⟨rfl, y6⟩ | ⟨x, rfl, y6⟩
    · exfalso
      have y6 : 0 + (1 * r 4 + 0) = (-1 : Int) := y6
      omega
    · have y6 : 0 + (1 * r 4 + 0) = (x : Int) := y6
      exact ⟨ce, .ref x, by rw [g1]; exact y2, u2, y4, by show (x : Int) = _; omega⟩
  have f9 : k_fn w' a2 13 5 ((tm : Int)) := by
    obtain ⟨a, ce, j, v, y1, y2, y3, y4, y5⟩ := e7 (3, (5, []), (2, (0, [(9, 1)]))) (List.mem_cons_of_mem _ (List.mem_cons_of_mem _ (List.mem_cons_of_mem _ (List.mem_cons_of_mem _ (List.mem_cons_of_mem _ (List.mem_cons_of_mem _ (List.mem_cons_self)))))))
    have y1 : r 3 = (a : Int) := y1
    have hha : r 3 = (a2 : Int) := ha2
    have y3 : (5 : Int) + 0 = (j : Int) := y3
    have ej : j = 5 := by omega
    have ea : a = a2 := by omega
    subst ej; subst ea
    obtain ⟨ce', u1, u2⟩ := g4
    rcases y5 with ⟨rfl, y6⟩ | ⟨x, rfl, y6⟩
    · exfalso
      have y6 : 0 + (1 * r 9 + 0) = (-1 : Int) := y6
      omega
    · have y6 : 0 + (1 * r 9 + 0) = (x : Int) := y6
      exact ⟨ce, .ref x, by rw [g1]; exact y2, u2, y4, by show (x : Int) = _; omega⟩
  have fs0 : k_fn w' so 14 0 (-1) := by
    obtain ⟨a, ce, j, v, y1, y2, y3, y4, y5⟩ := e7 (4, (0, []), (0, (0, [(5, 1)]))) (List.mem_cons_of_mem _ (List.mem_cons_of_mem _ (List.mem_cons_self)))
    have y1 : r 4 = (a : Int) := y1
    have hha : r 4 = (so : Int) := hso
    have y3 : (0 : Int) + 0 = (j : Int) := y3
    have ej : j = 0 := by omega
    have ea : a = so := by omega
    subst ej; subst ea
    obtain ⟨ce', u1, u2⟩ := j4
    obtain ⟨x, rfl, y6⟩ := y5
    have y6 : x.toInt = 0 + (1 * r 5 + 0) := y6
    have y7 : (-1 : Int) ≤ r 5 ∧ r 5 ≤ -1 := e1 (5, (-1), (-1)) (List.mem_cons_self)
    exact ⟨ce, .int x, by rw [g1]; exact y2, u2, y4, by show x.toInt = -1; omega⟩
  have fm0 : k_fn w' tm 60 0 (-1) := by
    obtain ⟨a, ce, j, v, y1, y2, y3, y4, y5⟩ := e7 (9, (0, []), (0, (0, [(10, 1)]))) (List.mem_cons_of_mem _ (List.mem_cons_of_mem _ (List.mem_cons_of_mem _ (List.mem_cons_of_mem _ (List.mem_cons_of_mem _ (List.mem_cons_of_mem _ (List.mem_cons_of_mem _ (List.mem_cons_self))))))))
    have y1 : r 9 = (a : Int) := y1
    have hha : r 9 = (tm : Int) := htm
    have y3 : (0 : Int) + 0 = (j : Int) := y3
    have ej : j = 0 := by omega
    have ea : a = tm := by omega
    subst ej; subst ea
    obtain ⟨ce', u1, u2⟩ := j9
    obtain ⟨x, rfl, y6⟩ := y5
    have y6 : x.toInt = 0 + (1 * r 10 + 0) := y6
    have y7 : (-1 : Int) ≤ r 10 ∧ r 10 ≤ -1 := e1 (10, (-1), (-1)) (List.mem_cons_of_mem _ (List.mem_cons_of_mem _ (List.mem_cons_of_mem _ (List.mem_cons_of_mem _ (List.mem_cons_self)))))
    exact ⟨ce, .int x, by rw [g1]; exact y2, u2, y4, by show x.toInt = -1; omega⟩
  have fs1 : k_fn w' so 14 1 (-1) := by
    obtain ⟨a, ce, j, v, y1, y2, y3, y4, y5⟩ := e7 (4, (1, []), (0, (0, [(6, 1)]))) (List.mem_cons_of_mem _ (List.mem_cons_of_mem _ (List.mem_cons_of_mem _ (List.mem_cons_self))))
    have y1 : r 4 = (a : Int) := y1
    have hha : r 4 = (so : Int) := hso
    have y3 : (1 : Int) + 0 = (j : Int) := y3
    have ej : j = 1 := by omega
    have ea : a = so := by omega
    subst ej; subst ea
    obtain ⟨ce', u1, u2⟩ := j4
    obtain ⟨x, rfl, y6⟩ := y5
    have y6 : x.toInt = 0 + (1 * r 6 + 0) := y6
    have y7 : (-1 : Int) ≤ r 6 ∧ r 6 ≤ -1 := e1 (6, (-1), (-1)) (List.mem_cons_of_mem _ (List.mem_cons_self))
    exact ⟨ce, .int x, by rw [g1]; exact y2, u2, y4, by show x.toInt = -1; omega⟩
  have fm1 : k_fn w' tm 60 1 (-1) := by
    obtain ⟨a, ce, j, v, y1, y2, y3, y4, y5⟩ := e7 (9, (1, []), (0, (0, [(11, 1)]))) (List.mem_cons_of_mem _ (List.mem_cons_of_mem _ (List.mem_cons_of_mem _ (List.mem_cons_of_mem _ (List.mem_cons_of_mem _ (List.mem_cons_of_mem _ (List.mem_cons_of_mem _ (List.mem_cons_of_mem _ (List.mem_cons_self)))))))))
    have y1 : r 9 = (a : Int) := y1
    have hha : r 9 = (tm : Int) := htm
    have y3 : (1 : Int) + 0 = (j : Int) := y3
    have ej : j = 1 := by omega
    have ea : a = tm := by omega
    subst ej; subst ea
    obtain ⟨ce', u1, u2⟩ := j9
    obtain ⟨x, rfl, y6⟩ := y5
    have y6 : x.toInt = 0 + (1 * r 11 + 0) := y6
    have y7 : (-1 : Int) ≤ r 11 ∧ r 11 ≤ -1 := e1 (11, (-1), (-1)) (List.mem_cons_of_mem _ (List.mem_cons_of_mem _ (List.mem_cons_of_mem _ (List.mem_cons_of_mem _ (List.mem_cons_of_mem _ (List.mem_cons_self))))))
    exact ⟨ce, .int x, by rw [g1]; exact y2, u2, y4, by show x.toInt = -1; omega⟩
  have fs2 : k_fn w' so 14 2 (-1) := by
    obtain ⟨a, ce, j, v, y1, y2, y3, y4, y5⟩ := e7 (4, (2, []), (0, (0, [(7, 1)]))) (List.mem_cons_of_mem _ (List.mem_cons_of_mem _ (List.mem_cons_of_mem _ (List.mem_cons_of_mem _ (List.mem_cons_self)))))
    have y1 : r 4 = (a : Int) := y1
    have hha : r 4 = (so : Int) := hso
    have y3 : (2 : Int) + 0 = (j : Int) := y3
    have ej : j = 2 := by omega
    have ea : a = so := by omega
    subst ej; subst ea
    obtain ⟨ce', u1, u2⟩ := j4
    obtain ⟨x, rfl, y6⟩ := y5
    have y6 : x.toInt = 0 + (1 * r 7 + 0) := y6
    have y7 : (-1 : Int) ≤ r 7 ∧ r 7 ≤ -1 := e1 (7, (-1), (-1)) (List.mem_cons_of_mem _ (List.mem_cons_of_mem _ (List.mem_cons_self)))
    exact ⟨ce, .int x, by rw [g1]; exact y2, u2, y4, by show x.toInt = -1; omega⟩
  have fm2 : k_fn w' tm 60 2 (-1) := by
    obtain ⟨a, ce, j, v, y1, y2, y3, y4, y5⟩ := e7 (9, (2, []), (0, (0, [(12, 1)]))) (List.mem_cons_of_mem _ (List.mem_cons_of_mem _ (List.mem_cons_of_mem _ (List.mem_cons_of_mem _ (List.mem_cons_of_mem _ (List.mem_cons_of_mem _ (List.mem_cons_of_mem _ (List.mem_cons_of_mem _ (List.mem_cons_of_mem _ (List.mem_cons_self))))))))))
    have y1 : r 9 = (a : Int) := y1
    have hha : r 9 = (tm : Int) := htm
    have y3 : (2 : Int) + 0 = (j : Int) := y3
    have ej : j = 2 := by omega
    have ea : a = tm := by omega
    subst ej; subst ea
    obtain ⟨ce', u1, u2⟩ := j9
    obtain ⟨x, rfl, y6⟩ := y5
    have y6 : x.toInt = 0 + (1 * r 12 + 0) := y6
    have y7 : (-1 : Int) ≤ r 12 ∧ r 12 ≤ -1 := e1 (12, (-1), (-1)) (List.mem_cons_of_mem _ (List.mem_cons_of_mem _ (List.mem_cons_of_mem _ (List.mem_cons_of_mem _ (List.mem_cons_of_mem _ (List.mem_cons_of_mem _ (List.mem_cons_self)))))))
    exact ⟨ce, .int x, by rw [g1]; exact y2, u2, y4, by show x.toInt = -1; omega⟩
  have fs3 : k_fn w' so 14 3 (-1) := by
    obtain ⟨a, ce, j, v, y1, y2, y3, y4, y5⟩ := e7 (4, (3, []), (0, (0, [(8, 1)]))) (List.mem_cons_of_mem _ (List.mem_cons_of_mem _ (List.mem_cons_of_mem _ (List.mem_cons_of_mem _ (List.mem_cons_of_mem _ (List.mem_cons_self))))))
    have y1 : r 4 = (a : Int) := y1
    have hha : r 4 = (so : Int) := hso
    have y3 : (3 : Int) + 0 = (j : Int) := y3
    have ej : j = 3 := by omega
    have ea : a = so := by omega
    subst ej; subst ea
    obtain ⟨ce', u1, u2⟩ := j4
    obtain ⟨x, rfl, y6⟩ := y5
    have y6 : x.toInt = 0 + (1 * r 8 + 0) := y6
    have y7 : (-1 : Int) ≤ r 8 ∧ r 8 ≤ -1 := e1 (8, (-1), (-1)) (List.mem_cons_of_mem _ (List.mem_cons_of_mem _ (List.mem_cons_of_mem _ (List.mem_cons_self))))
    exact ⟨ce, .int x, by rw [g1]; exact y2, u2, y4, by show x.toInt = -1; omega⟩
  have fm3 : k_fn w' tm 60 3 (-1) := by
    obtain ⟨a, ce, j, v, y1, y2, y3, y4, y5⟩ := e7 (9, (3, []), (0, (0, [(13, 1)]))) (List.mem_cons_of_mem _ (List.mem_cons_of_mem _ (List.mem_cons_of_mem _ (List.mem_cons_of_mem _ (List.mem_cons_of_mem _ (List.mem_cons_of_mem _ (List.mem_cons_of_mem _ (List.mem_cons_of_mem _ (List.mem_cons_of_mem _ (List.mem_cons_of_mem _ (List.mem_cons_self)))))))))))
    have y1 : r 9 = (a : Int) := y1
    have hha : r 9 = (tm : Int) := htm
    have y3 : (3 : Int) + 0 = (j : Int) := y3
    have ej : j = 3 := by omega
    have ea : a = tm := by omega
    subst ej; subst ea
    obtain ⟨ce', u1, u2⟩ := j9
    obtain ⟨x, rfl, y6⟩ := y5
    have y6 : x.toInt = 0 + (1 * r 13 + 0) := y6
    have y7 : (-1 : Int) ≤ r 13 ∧ r 13 ≤ -1 := e1 (13, (-1), (-1)) (List.mem_cons_of_mem _ (List.mem_cons_of_mem _ (List.mem_cons_of_mem _ (List.mem_cons_of_mem _ (List.mem_cons_of_mem _ (List.mem_cons_of_mem _ (List.mem_cons_of_mem _ (List.mem_cons_self))))))))
    exact ⟨ce, .int x, by rw [g1]; exact y2, u2, y4, by show x.toInt = -1; omega⟩
  have p14 : 0 ≤ r 14 := e2 (14, 3) (List.mem_cons_of_mem _ (List.mem_cons_of_mem _ (List.mem_cons_of_mem _ (List.mem_cons_of_mem _ (List.mem_cons_self)))))
  obtain ⟨rw, hrw, hin14⟩ := e3 (14, 18) (List.mem_cons_of_mem _ (List.mem_cons_of_mem _ (List.mem_cons_of_mem _ (List.mem_cons_of_mem _ (List.mem_cons_self))))) p14
  have hrw : r 14 = (rw : Int) := hrw
  have j14 := g3 _ _ (by decide) hin14
  have y0a : (0 : Int) ≤ (-1) + (1 * r 15 + ((-1) * r 14 + 0)) := e4 ((-1), [(15, 1), (14, (-1))]) (List.mem_cons_self)
  have y0b : (0 : Int) ≤ 1 + (1 * r 14 + ((-1) * r 15 + 0)) := e4 (1, [(14, 1), (15, (-1))]) (List.mem_cons_of_mem _ (List.mem_cons_self))
  have y1a : (0 : Int) ≤ (-2) + (1 * r 16 + ((-1) * r 14 + 0)) := e4 ((-2), [(16, 1), (14, (-1))]) (List.mem_cons_of_mem _ (List.mem_cons_of_mem _ (List.mem_cons_self)))
  have y1b : (0 : Int) ≤ 2 + (1 * r 14 + ((-1) * r 16 + 0)) := e4 (2, [(14, 1), (16, (-1))]) (List.mem_cons_of_mem _ (List.mem_cons_of_mem _ (List.mem_cons_of_mem _ (List.mem_cons_self))))
  have y2a : (0 : Int) ≤ (-3) + (1 * r 17 + ((-1) * r 14 + 0)) := e4 ((-3), [(17, 1), (14, (-1))]) (List.mem_cons_of_mem _ (List.mem_cons_of_mem _ (List.mem_cons_of_mem _ (List.mem_cons_of_mem _ (List.mem_cons_self)))))
  have y2b : (0 : Int) ≤ 3 + (1 * r 14 + ((-1) * r 17 + 0)) := e4 (3, [(14, 1), (17, (-1))]) (List.mem_cons_of_mem _ (List.mem_cons_of_mem _ (List.mem_cons_of_mem _ (List.mem_cons_of_mem _ (List.mem_cons_of_mem _ (List.mem_cons_self))))))
  have y3a : (0 : Int) ≤ (-4) + (1 * r 18 + ((-1) * r 14 + 0)) := e4 ((-4), [(18, 1), (14, (-1))]) (List.mem_cons_of_mem _ (List.mem_cons_of_mem _ (List.mem_cons_of_mem _ (List.mem_cons_of_mem _ (List.mem_cons_of_mem _ (List.mem_cons_of_mem _ (List.mem_cons_self)))))))
  have y3b : (0 : Int) ≤ 4 + (1 * r 14 + ((-1) * r 18 + 0)) := e4 (4, [(14, 1), (18, (-1))]) (List.mem_cons_of_mem _ (List.mem_cons_of_mem _ (List.mem_cons_of_mem _ (List.mem_cons_of_mem _ (List.mem_cons_of_mem _ (List.mem_cons_of_mem _ (List.mem_cons_of_mem _ (List.mem_cons_self))))))))
  have frw : k_fn w' a1 12 3 ((rw : Int)) := by
    obtain ⟨a, ce, j, v, y1, y2, y3, y4, y5⟩ := e7 (2, (3, []), (2, (0, [(14, 1)]))) (List.mem_cons_of_mem _ (List.mem_cons_of_mem _ (List.mem_cons_of_mem _ (List.mem_cons_of_mem _ (List.mem_cons_of_mem _ (List.mem_cons_of_mem _ (List.mem_cons_of_mem _ (List.mem_cons_of_mem _ (List.mem_cons_of_mem _ (List.mem_cons_of_mem _ (List.mem_cons_of_mem _ (List.mem_cons_self))))))))))))
    have y1 : r 2 = (a : Int) := y1
    have hha : r 2 = (a1 : Int) := ha1
    have y3 : (3 : Int) + 0 = (j : Int) := y3
    have ej : j = 3 := by omega
    have ea : a = a1 := by omega
    subst ej; subst ea
    obtain ⟨ce', u1, u2⟩ := j1
    rcases y5 with ⟨rfl, y6⟩ | ⟨x, rfl, y6⟩
    · exfalso
      have y6 : 0 + (1 * r 14 + 0) = (-1 : Int) := y6
      omega
    · have y6 : 0 + (1 * r 14 + 0) = (x : Int) := y6
      exact ⟨ce, .ref x, by rw [g1]; exact y2, u2, y4, by show (x : Int) = _; omega⟩
  have fr0 : k_fn w' rw 18 0 (((rw + 1 + 0 : Nat) : Int)) := by
    obtain ⟨a, ce, j, v, y1, y2, y3, y4, y5⟩ := e7 (14, (0, []), (2, (0, [(15, 1)]))) (List.mem_cons_of_mem _ (List.mem_cons_of_mem _ (List.mem_cons_of_mem _ (List.mem_cons_of_mem _ (List.mem_cons_of_mem _ (List.mem_cons_of_mem _ (List.mem_cons_of_mem _ (List.mem_cons_of_mem _ (List.mem_cons_of_mem _ (List.mem_cons_of_mem _ (List.mem_cons_of_mem _ (List.mem_cons_of_mem _ (List.mem_cons_self)))))))))))))
    have y1 : r 14 = (a : Int) := y1
    have hha : r 14 = (rw : Int) := hrw
    have y3 : (0 : Int) + 0 = (j : Int) := y3
    have ej : j = 0 := by omega
    have ea : a = rw := by omega
    subst ej; subst ea
    obtain ⟨ce', u1, u2⟩ := j14
    rcases y5 with ⟨rfl, y6⟩ | ⟨x, rfl, y6⟩
    · exfalso
      have y6 : 0 + (1 * r 15 + 0) = (-1 : Int) := y6
      omega
    · have y6 : 0 + (1 * r 15 + 0) = (x : Int) := y6
      exact ⟨ce, .ref x, by rw [g1]; exact y2, u2, y4, by show (x : Int) = _; omega⟩
  have fr1 : k_fn w' rw 18 1 (((rw + 1 + 1 : Nat) : Int)) := by
    obtain ⟨a, ce, j, v, y1, y2, y3, y4, y5⟩ := e7 (14, (1, []), (2, (0, [(16, 1)]))) (List.mem_cons_of_mem _ (List.mem_cons_of_mem _ (List.mem_cons_of_mem _ (List.mem_cons_of_mem _ (List.mem_cons_of_mem _ (List.mem_cons_of_mem _ (List.mem_cons_of_mem _ (List.mem_cons_of_mem _ (List.mem_cons_of_mem _ (List.mem_cons_of_mem _ (List.mem_cons_of_mem _ (List.mem_cons_of_mem _ (List.mem_cons_of_mem _ (List.mem_cons_self))))))))))))))
    have y1 : r 14 = (a : Int) := y1
    have hha : r 14 = (rw : Int) := hrw
    have y3 : (1 : Int) + 0 = (j : Int) := y3
    have ej : j = 1 := by omega
    have ea : a = rw := by omega
    subst ej; subst ea
    obtain ⟨ce', u1, u2⟩ := j14
    rcases y5 with ⟨rfl, y6⟩ | ⟨x, rfl, y6⟩
    · exfalso
      have y6 : 0 + (1 * r 16 + 0) = (-1 : Int) := y6
      omega
    · have y6 : 0 + (1 * r 16 + 0) = (x : Int) := y6
      exact ⟨ce, .ref x, by rw [g1]; exact y2, u2, y4, by show (x : Int) = _; omega⟩
  have fr2 : k_fn w' rw 18 2 (((rw + 1 + 2 : Nat) : Int)) := by
    obtain ⟨a, ce, j, v, y1, y2, y3, y4, y5⟩ := e7 (14, (2, []), (2, (0, [(17, 1)]))) (List.mem_cons_of_mem _ (List.mem_cons_of_mem _ (List.mem_cons_of_mem _ (List.mem_cons_of_mem _ (List.mem_cons_of_mem _ (List.mem_cons_of_mem _ (List.mem_cons_of_mem _ (List.mem_cons_of_mem _ (List.mem_cons_of_mem _ (List.mem_cons_of_mem _ (List.mem_cons_of_mem _ (List.mem_cons_of_mem _ (List.mem_cons_of_mem _ (List.mem_cons_of_mem _ (List.mem_cons_self)))))))))))))))
    have y1 : r 14 = (a : Int) := y1
    have hha : r 14 = (rw : Int) := hrw
    have y3 : (2 : Int) + 0 = (j : Int) := y3
    have ej : j = 2 := by omega
    have ea : a = rw := by omega
    subst ej; subst ea
    obtain ⟨ce', u1, u2⟩ := j14
    rcases y5 with ⟨rfl, y6⟩ | ⟨x, rfl, y6⟩
    · exfalso
      have y6 : 0 + (1 * r 17 + 0) = (-1 : Int) := y6
      omega
    · have y6 : 0 + (1 * r 17 + 0) = (x : Int) := y6
      exact ⟨ce, .ref x, by rw [g1]; exact y2, u2, y4, by show (x : Int) = _; omega⟩
  have fr3 : k_fn w' rw 18 3 (((rw + 1 + 3 : Nat) : Int)) := by
    obtain ⟨a, ce, j, v, y1, y2, y3, y4, y5⟩ := e7 (14, (3, []), (2, (0, [(18, 1)]))) (List.mem_cons_of_mem _ (List.mem_cons_of_mem _ (List.mem_cons_of_mem _ (List.mem_cons_of_mem _ (List.mem_cons_of_mem _ (List.mem_cons_of_mem _ (List.mem_cons_of_mem _ (List.mem_cons_of_mem _ (List.mem_cons_of_mem _ (List.mem_cons_of_mem _ (List.mem_cons_of_mem _ (List.mem_cons_of_mem _ (List.mem_cons_of_mem _ (List.mem_cons_of_mem _ (List.mem_cons_of_mem _ (List.mem_cons_self))))))))))))))))
    have y1 : r 14 = (a : Int) := y1
    have hha : r 14 = (rw : Int) := hrw
    have y3 : (3 : Int) + 0 = (j : Int) := y3
    have ej : j = 3 := by omega
    have ea : a = rw := by omega
    subst ej; subst ea
    obtain ⟨ce', u1, u2⟩ := j14
    rcases y5 with ⟨rfl, y6⟩ | ⟨x, rfl, y6⟩
    · exfalso
      have y6 : 0 + (1 * r 18 + 0) = (-1 : Int) := y6
      omega
    · have y6 : 0 + (1 * r 18 + 0) = (x : Int) := y6
      exact ⟨ce, .ref x, by rw [g1]; exact y2, u2, y4, by show (x : Int) = _; omega⟩
  have hrr : ∀ t, t < 4 → k_fn w' rw 18 t ((rw + 1 + t : Nat) : Int) := fun t ht => match t, ht with
    | 0, _ => fr0
    | 1, _ => fr1
    | 2, _ => fr2
    | 3, _ => fr3
    | n + 4, h => absurd h (by omega)
  have hrin : ∀ t, t < 4 → c_in w' (rw + 1 + t) 17 := fun t ht => by
    obtain ⟨x, hx1, hx2⟩ := k_fnRf (t' := 17) g2 (hrr t ht) (by rfl)
    have : x = rw + 1 + t := by omega
    rw [← this]
    exact hx2
  have hR0 : k_R a1 a2 w' := by
    obtain ⟨y5, hy5⟩ := k_fnE (i := 5) g2 j1 k_sh12 (by decide)
    obtain ⟨si, rfl, hsi⟩ := k_fnRf (t' := 15) g2 hy5 (by decide +kernel)
    obtain ⟨y6, hy6⟩ := k_fnE (i := 4) g2 g4 k_sh13 (by decide)
    obtain ⟨ts, rfl, hts'⟩ := k_fnRf (t' := 59) g2 hy6 (by decide +kernel)
    have hz : ∀ t, t < 4 → ∃ z, k_fn w' si 15 t z := fun t ht => k_fnA (N := 4) (ci := 0) g2 hsi (by decide +kernel) ht
    have hu : ∀ t, t < 4 → ∃ z, k_fn w' ts 59 t z := fun t ht => k_fnA (N := 4) (ci := 0) g2 hts' (by decide +kernel) ht
    obtain ⟨y7, hy7⟩ := k_fnE (i := 6) g2 g4 k_sh13 (by decide)
    obtain ⟨nm, rfl, hnm⟩ := k_fnRf (t' := 61) g2 hy7 (by decide +kernel)
    have mk : ∀ t, t < 4 → k_fn w' so 14 t (-1) → k_fn w' tm 60 t (-1) → k_tr7 w' so si tm ts (rw + 1 + t) nm t := fun t ht h1 h2 => by
      obtain ⟨z, hz⟩ := hz t ht
      obtain ⟨u, hu⟩ := hu t ht
      exact ⟨-1, z, -1, u, h1, hz, h2, hu, Or.inl ⟨rfl, rfl⟩, fun k _ hm => absurd hm (by omega)⟩
    exact ⟨so, si, tm, ts, rw, nm, fun t => rw + 1 + t, ⟨f4, j4, hy5, hsi, f9, j9, hy6, hts'⟩, ⟨frw, j14, fun t ht => ⟨hrr t ht, hrin t ht⟩, fun t u _ _ h => by show rw + 1 + t ≠ rw + 1 + u; omega, hy7, hnm⟩, fun t ht => match t, ht with
      | 0, h => mk 0 h fs0 fm0
      | 1, h => mk 1 h fs1 fm1
      | 2, h => mk 2 h fs2 fm2
      | 3, h => mk 3 h fs3 fm3
      | n + 4, h => absurd h (by omega)⟩
  refine lv_iconst (v := nI 0) hx hb k_L16 (by decide) ?_
  refine lv_istore_n (lv' := [(3, .int (nI 0)), (0, .ref b), (1, .ref a1), (2, .ref a2)]) hx hb k_L17 rfl hl (by decide) rfl fun ls' hl' => ?_
  exact k_loop C hr hlocks 513 0 w' H locs ls' (by omega) (by omega) ⟨I, hR0⟩ (lv_sub hl' [1, 2, 3, 0] rfl)
end LLP
set_option maxHeartbeats 1000000 in
/-- YOUR PART: from the entry, for every script of at most 3584 ints, the law comes to its end with true -/
theorem whole_start {p : Program} {e : Env} {s : State} {m : MethodId} {below : List Frame} {meth : Method} {c : Code} (l : Launch) {b L : Nat} {xs : Nat → Int32} (hL : L ≤ 3584) (C0 : lw_At p s m meth c b L xs) : W p l e room_1 s m #[Value.ref b] below meth c s.heap [] 0 0 (lw_Z below #[Value.ref b] s) (entryFrame m ([Value.ref b] : List Value).toArray 4) := by
  obtain ⟨hx, hb, hr, hml, hown, hts, hX, hbl, hlocks, hgv⟩ := id C0
  have htw : ∀ w ∈ k_ws, w.before #[Value.ref b] s = true := fun w hw => hts w (List.mem_filter.mp hw).1
  obtain ⟨D, hKc⟩ := k_known htw
  obtain ⟨dA, hKa⟩ := k_arrs hts
  have hK : va_K D k_cl (c_tys dA "MayBoats$Book") s := ⟨hKc, hKa⟩
  have hN : ∀ x ∈ k_Z.2.2.2.1, va_Nw x s := fun x hx => by
    obtain ⟨a, i, y, h, rfl⟩ := k_nest x hx
    rw [k_Zn] at hx
    exact va_Nw.of rfl (hts _ (List.mem_filter.mp hx).1)
  have hAX : c_AX (k_AA s) s := ⟨fun q h => h, k_Xi0 hts hgv⟩
  have C : k_Cx p s m c b L xs D dA := ⟨hx, hb, hml, hown, htw, hK, hN, hAX, hX, hbl, hL⟩
  have hl := lv_entry ([.ref b]) (n := 4) (Nat.le_of_ble_eq_true rfl)
  rw [lg_entry_eq]
  generalize (lg_sl ([.ref b]) ++ List.replicate (4 - (lg_sl ([.ref b])).length) Slot.unset).toArray = ls at hl ⊢
  have hl : lv_has ls 4 [(0, .ref b)] := hl
  have hP : va_P D k_cl [] s.heap := fun k q h => by simp at h
  have hD : va_D (k_AA s) [] := ⟨fun i j p q h => by simp at h, fun k q h => by simp at h⟩
  obtain ⟨rr, hrb⟩ : ∃ rr : Nat → Int, rr 1 = (b : Int) := ⟨fun _ => (b : Int), rfl⟩
  have hT : c_TW k_K dA (fun _ => 0, [], fun _ => 1) := fun q hq => by cases hq
  have hs : c_sat 2 rr k_A0L [(0, .ref b)] [] (fun _ => 0, [], fun _ => 1) := by
    refine ⟨Nat.le_refl _, rr, c_agr_rf _ _, fun r hr => ⟨fun q hq => (by cases hq), fun q hq => (by cases hq), fun q hq => (by cases hq), fun q hq => (by cases hq), ⟨⟨rfl, Or.inr ⟨b, rfl, ?_⟩⟩, trivial⟩, trivial, fun q hq => ?_⟩⟩
    · show c_ev r (c_sym 1) = (b : Int)
      rw [c_ev_sym, hr 1 (by decide), hrb]
    · cases List.mem_singleton.mp hq
      refine ⟨1, ?_, ?_⟩
      · show (1 : Int) + 0 = ((1 : Nat) : Int)
        omega
      · show c_gv 1 1 = 1 + 0
        decide
  have hG : ∀ a, ∀ ct ∈ k_PL.2.1 a, c_Good l D k_cl dA (k_AA s) "MayBoats$Book" k_K k_Z 1000 ct := fun a ct hct => k_all 1000 a ct hct
  have key := c_go_ok (p := p) (l := l) (e := e) (R := room_1) (s := s) (m := m) (args := #[Value.ref b]) (below := below) (meth := meth) (c := c) (D := D) (cl := k_cl) (dA := dA) (AA := k_AA s) (K := k_K) (O := k_cL) (w0 := (fun _ => 0, [], fun _ => 1)) (cc := code) (nL := 4) (Q := lw_Z below #[Value.ref b] s) (n0 := 2) (r0 := rr) (rr := rr) (P := k_PL) (b := k_bL) (X := c_X0) (src := none)
    (fun pc A x L hf hst hL => by
      obtain ⟨q, q1, q2⟩ := c_find_ok hf
      have hst : c_step k_K k_PL k_cL 4 19 [] A pc x.2 x.1 = some L := hst
      have hq := List.mem_singleton.mp (show q ∈ k_rwL from q1)
      subst hq
      have q2 : (pc, x) ∈ [((0 : Nat), (Jvm.ClassFile.Instr.new 7, 3)), (3, (.dup, 1)), (4, (.invokespecial 9, 3)), (7, (.astore_n 1, 1)), (8, (.new 10, 3)), (11, (.dup, 1)), (12, (.invokespecial 12, 3)), (15, (.astore_n 2, 1))] := q2
      simp only [List.mem_cons, List.not_mem_nil, or_false] at q2
      rcases q2 with h | h | h | h | h | h | h | h
      · cases h
        exact c_m_new (Z := k_Z) (bk := "MayBoats$Book") (P := k_PL) (own := 19) (an := []) (len := 3) (by decide) k_Jnw htw hAX.1 ⟨(by decide), (by decide)⟩ k_lnkOkL k_clsOk hown hx hb hK hst k_L0 hL
      · cases h
        exact c_m_dup (P := k_PL) (own := 19) (an := []) (len := 1) hx hb hst k_L3 hL
      · cases h
        exact k_mc_init (Z := k_Z) (bk := "MayBoats$Book") (P := k_PL) (own := 19) (a := 111) (v := 0) hx hb hml hown htw hK hN k_nest hAX k_good k_mOk k_lnkOkL (fun r => (show (1001 : Int) + 0 ≤ 1001 by decide)) ⟨(by decide), (by decide)⟩ hG rfl hst k_L4 hL
      · cases h
        exact c_m_astore_n (P := k_PL) (own := 19) (an := []) (len := 1) hx hb hst k_L7 hL
      · cases h
        exact c_m_new (Z := k_Z) (bk := "MayBoats$Book") (P := k_PL) (own := 19) (an := []) (len := 3) (by decide) k_Jnw htw hAX.1 ⟨(by decide), (by decide)⟩ k_lnkOkL k_clsOk hown hx hb hK hst k_L8 hL
      · cases h
        exact c_m_dup (P := k_PL) (own := 19) (an := []) (len := 1) hx hb hst k_L11 hL
      · cases h
        exact k_mc_init (Z := k_Z) (bk := "MayBoats$Book") (P := k_PL) (own := 19) (a := 200) (v := 0) hx hb hml hown htw hK hN k_nest hAX k_good k_mOk k_lnkOkL (fun r => (show (1001 : Int) + 0 ≤ 1001 by decide)) ⟨(by decide), (by decide)⟩ hG rfl hst k_L12 hL
      · cases h
        exact c_m_astore_n (P := k_PL) (own := 19) (an := []) (len := 1) hx hb hst k_L15 hL)
    (fun pc A B k hX hB => by cases hX) k_Jnw k_noRaw (fun s hs => by cases hs) (Nat.le_refl _) (c_agr_rf _ _)
    (fun q hq => by
      have hq := List.mem_singleton.mp (show q ∈ [((16 : Nat), k_T16, ((0, []) : cLin))] from hq)
      subst hq
      exact ⟨k_wfL, fun r1 hr1 _ => k_from16 C hr hlocks hrb hr1⟩)
    60 false [(0, k_A0L)] k_rL (0, k_A0L) List.mem_cons_self
  exact key [(0, .ref b)] [] (fun _ => 0, [], fun _ => 1) 0 0 rfl rfl hT (c_ext_rf _ _ _) hs s.heap [] ls hP hD va_S.rf hl
