/-! the law's calls -/
def k_AA (s : State) : Nat → Prop := fun q => s.heap.size ≤ q
def k_Cx (p : Program) (s : State) (m : MethodId) (c : Code) (b L : Nat) (xs : Nat → Int32) (D : va_G) (dA : Nat → ClassId) : Prop := p.tables.exec = Jvm.exec ∧ c.code = code ∧ c.maxLocals = 4 ∧ s.vm.findClass "MayBoatsLaw" = some m.cls ∧ (∀ w ∈ k_ws, w.before #[Value.ref b] s = true) ∧ va_K D k_cl (c_tys dA "MayBoats$Book") s ∧ (∀ x ∈ k_Z.2.2.2.1, va_Nw x s) ∧ c_AX (k_AA s) s ∧ va_X b L xs s s.heap ∧ b < s.heap.size ∧ L ≤ 3584
def k_In (s : State) (D : va_G) (dA : Nat → ClassId) (a1 a2 : Nat) (w : cWld) (H : Heap) (locs : List Loc) : Prop := va_P D k_cl w.2.1 H ∧ va_D (k_AA s) w.2.1 ∧ c_TW k_K dA w ∧ va_S (k_AA s) s.heap H locs ∧ c_in w a1 12 ∧ c_in w a2 13 ∧ w.2.2 1 = 0
abbrev k_lv (b a1 a2 i : Nat) : List (Nat × Value) := [(0, .ref b), (1, .ref a1), (2, .ref a2), (3, .int (nI i))]
def k_rv (ns : List Int) : Nat → Int
  | 0 => 0
  | i + 1 => ns.getD i 0
/-- the mode is 0 at the end; nothing but what is new is promoted -/
def k_endB (ct : cCtr) : Bool := (ct_pros ct).all (fun t => Nat.ble 101 t) &&
  (c_off (ct_eff ct) 0 1 1 || (Nat.beq (ct_ret ct) 1 && (ct_post ct).all (fun d => decide (d.2.2.head? = some (0, ((1, []) : cLin))) && d.1.contains ((0, [(c_entryN ct + 1, 1)]) : cLin) && d.1.contains ((0, [(c_entryN ct + 1, -1)]) : cLin))))
/-- the start's condition: facts on the mode alone -/
def k_begB (g : Nat) (ct : cCtr) : Bool := (ct_pfl ct).isEmpty && (ct_pre ct).all (fun f => decide (0 ≤ f.1) && f.2.all (fun q => Nat.beq q.1 g)) && (ct_dep ct).2.isEmpty && decide ((ct_dep ct).1 ≤ 1000)
def k_cellsR (w : cWld) (r : Nat → Int) : Nat → List (Nat × cLin) → Prop
  | _, [] => True
  | j, q :: l => c_cell w r q.1 q.2 (r j) ∧ k_cellsR w r (j + 1) l
theorem k_cells_ok {w : cWld} {r : Nat → Int} : ∀ {l : List (Nat × cLin)} {j : Nat}, k_cellsR w r j l → ∀ (k : Nat) (q : Nat × cLin), l[k]? = some q → c_cell w r q.1 q.2 (r (j + k))
  | [], _, _, _, _, hq => by cases hq
  | x :: l, j, h, 0, q, hq => by cases hq; exact h.1
  | x :: l, j, h, k + 1, q, hq => by
    have := k_cells_ok h.2 k q hq
    rw [show j + (k + 1) = j + 1 + k by omega]
    exact this
theorem k_aR {w : cWld} {x t : Nat} (h : c_in w x t) : c_argR w (2, t, 0, 0) (.ref x) (x : Int) := ⟨x, rfl, rfl, h⟩
theorem k_aI {w : cWld} (v : Int32) : c_argR w (0, 0, (-2147483648), 2147483647) (.int v) v.toInt := ⟨v, rfl, rfl, v.le_toInt, by have := v.toInt_lt; show v.toInt ≤ 2147483647; omega⟩
theorem k_aZ {w : cWld} {v : Int32} (h : v = 0 ∨ v = 1) : c_argR w (0, 0, 0, 1) (.int v) v.toInt := by
  rcases h with rfl | rfl
  · exact ⟨0, rfl, rfl, by decide, by decide⟩
  · exact ⟨1, rfl, rfl, by decide, by decide⟩
theorem k_aJ {w : cWld} (v : Int64) : c_argR w (1, 0, (-9223372036854775808), 9223372036854775807) (.long v) v.toInt := ⟨v, rfl, rfl, v.le_toInt, by have := v.toInt_lt; show v.toInt ≤ 9223372036854775807; omega⟩
theorem k_ev0 {r : Nat → Int} {n : Nat} (hn : r n = 0) : ∀ {l : List (Nat × Int)}, l.all (fun q => Nat.beq q.1 n) = true → c_evs r l = 0
  | [], _ => rfl
  | q :: l, h => by
    rw [List.all_cons, Bool.and_eq_true] at h
    show q.2 * r q.1 + c_evs r l = 0
    rw [Nat.eq_of_beq_eq_true h.1, hn, k_ev0 hn h.2]
    omega
theorem k_gv0 {z : Int} (h : c_gv 1 z = 0) : z = 0 := by
  unfold c_gv at h
  rw [if_neg (by decide), if_neg (by decide)] at h
  omega
/-- the start of a public method's contract -/
theorem k_preC {ct : cCtr} {r : Nat → Int} {vals : List Value} {w : cWld} (g : Nat) (hg : r g = 0) (hB : k_begB g ct = true) (hargs : c_argsR w r 1 (ct_args ct) vals) (hec : k_cellsR w r (1 + (ct_args ct).length) (ct_ec ct)) : c_Pre ct r vals w ∧ c_ev r (ct_dep ct) ≤ ((1000 : Nat) : Int) := by
  unfold k_begB at hB
  rw [Bool.and_eq_true, Bool.and_eq_true, Bool.and_eq_true] at hB
  obtain ⟨⟨⟨p1, p4⟩, p5⟩, p6⟩ := hB
  refine ⟨⟨hargs, k_cells_ok hec, fun f hf => ?_, fun q hq => ?_⟩, ?_⟩
  · have h2 := List.all_eq_true.mp p4 f hf
    rw [Bool.and_eq_true] at h2
    have h3 := of_decide_eq_true h2.1
    show 0 ≤ f.1 + c_evs r f.2
    rw [k_ev0 hg h2.2]
    omega
  · rw [List.isEmpty_iff.mp p1] at hq
    cases hq
  · rw [c_ev_nil (List.isEmpty_iff.mp p5)]
    exact of_decide_eq_true p6
def k_factsR (r : Nat → Int) : List cLin → Prop
  | [] => True
  | f :: l => 0 ≤ c_ev r f ∧ k_factsR r l
theorem k_facts_ok {r : Nat → Int} : ∀ {l : List cLin}, k_factsR r l → ∀ f ∈ l, 0 ≤ c_ev r f
  | [], _, f, hf => by cases hf
  | x :: l, h, f, hf => by
    rcases List.mem_cons.mp hf with rfl | hf
    · exact h.1
    · exact k_facts_ok h.2 f hf
/-- the same, its facts one by one -/
theorem k_preD {ct : cCtr} {r : Nat → Int} {vals : List Value} {w : cWld} (hB : ((ct_pfl ct).isEmpty && (ct_dep ct).2.isEmpty && decide ((ct_dep ct).1 ≤ 1000)) = true) (hF : k_factsR r (ct_pre ct)) (hargs : c_argsR w r 1 (ct_args ct) vals) (hec : k_cellsR w r (1 + (ct_args ct).length) (ct_ec ct)) : c_Pre ct r vals w ∧ c_ev r (ct_dep ct) ≤ ((1000 : Nat) : Int) := by
  rw [Bool.and_eq_true, Bool.and_eq_true] at hB
  obtain ⟨⟨p1, p5⟩, p6⟩ := hB
  refine ⟨⟨hargs, k_cells_ok hec, k_facts_ok hF, fun q hq => ?_⟩, ?_⟩
  · rw [List.isEmpty_iff.mp p1] at hq
    cases hq
  · rw [c_ev_nil (List.isEmpty_iff.mp p5)]
    exact of_decide_eq_true p6
theorem k_ghc {w : cWld} {r : Nat → Int} {z : Int} (hg : w.2.2 1 = 0) (hz : z = 0) : c_cell w r 0 (1, []) z := by
  subst hz
  refine ⟨1, ?_, ?_⟩
  · show (1 : Int) + 0 = ((1 : Nat) : Int)
    omega
  · rw [hg]; rfl
/-- its end -/
theorem k_pubPost {ct : cCtr} (hp : k_endB ct = true) {w w' : cWld} {r : Nat → Int} {rv : List Value} {res : List Int} (hrv : c_retV (ct_ret ct) rv res) (hpost : c_Post ct r w w' res) (hg : w.2.2 1 = 0) : w'.2.2 1 = 0 ∧ ∀ x t, t ≤ 100 → c_in w x t → c_in w' x t := by
  unfold k_endB at hp
  rw [Bool.and_eq_true] at hp
  obtain ⟨p7, p8⟩ := hp
  obtain ⟨he, -, d, hd, r', q1, q2, q3, q4, q5⟩ := hpost
  refine ⟨?_, fun x t ht hin => ?_⟩
  · rw [Bool.or_eq_true] at p8
    rcases p8 with p8 | p8
    · rw [he.2 1 (c_off_ok p8 (by decide) (by decide))]
      exact hg
    · rw [Bool.and_eq_true] at p8
      have hr1 := Nat.eq_of_beq_eq_true p8.1
      rw [hr1] at hrv
      obtain ⟨x, rfl, rfl⟩ := hrv
      have h2 := List.all_eq_true.mp p8.2 d hd
      rw [Bool.and_eq_true, Bool.and_eq_true] at h2
      obtain ⟨⟨h3, h4⟩, h5⟩ := h2
      have h3 := of_decide_eq_true h3
      have f1 := q4 _ (List.contains_iff_mem.mp h4)
      have f2 := q4 _ (List.contains_iff_mem.mp h5)
      have f1 : (0 : Int) ≤ 0 + (1 * r' (c_entryN ct + 1) + 0) := f1
      have f2 : (0 : Int) ≤ 0 + (-1 * r' (c_entryN ct + 1) + 0) := f2
      have h6 := q3 0 (0, (1, [])) (by rw [← List.head?_eq_getElem?]; exact h3)
      obtain ⟨j, j1, j2⟩ := h6
      have j1 : (1 : Int) + 0 = (j : Int) := j1
      have ej : j = 1 := by omega
      subst ej
      have j2 : c_gv 1 (w'.2.2 1) = r' (c_entryN ct + 1) := j2
      exact k_gv0 (by rw [j2]; omega)
  · obtain ⟨ce, g1, g2⟩ := hin
    obtain ⟨ce', h1, h2⟩ := he.1 _ g1
    rcases h2 with h2 | h2
    · exact ⟨ce', h1, h2.1.trans g2⟩
    · exfalso
      have h3 := Nat.le_of_ble_eq_true (List.all_eq_true.mp p7 _ h2)
      dsimp only at h3
      omega
theorem k_argsLen {w : cWld} {r : Nat → Int} : ∀ {l : List (Nat × Nat × Int × Int)} {vals : List Value} {i : Nat}, c_argsR w r i l vals → l.length = vals.length
  | [], [], _, _ => rfl
  | _ :: _, _ :: _, _, h => congrArg (· + 1) (k_argsLen h.2)
  | [], _ :: _, _, h => h.elim
  | _ :: _, [], _, h => h.elim
section LCL
variable {p : Program} {l : Launch} {e : Env} {s : State} {m : MethodId} {below : List Frame} {meth : Method} {c : Code} {Q : State → Prop} {b L : Nat} {xs : Nat → Int32} {D : va_G} {dA : Nat → ClassId} {a1 a2 i cells slots : Nat} {ls : Array Slot} {w : cWld} {H : Heap} {locs : List Loc}
theorem k_pub (C : k_Cx p s m c b L xs D dA) (I : k_In s D dA a1 a2 w H locs) {a idx pc : Nat} {M : cMth} {ct : cCtr} (hM : k_Z.2.1 a = some M) (hct : ct ∈ k_P.2.1 a) (hkd : M.2.2.2.2 = 0) (hlk : Jvm.Cond.methodLink "MayBoatsLaw" idx M.1 ∈ k_ws) (hpb : k_endB ct = true) {x : Nat} {As rest : List Value} (ns : List Int) (hpd : c_Pre ct (k_rv ns) (.ref x :: As) w ∧ c_ev (k_rv ns) (ct_dep ct) ≤ ((1000 : Nat) : Int)) (hcat : (rest.map fun v => v.category).sum ≤ 8) (hd : decode code pc = .ok (.invokevirtual idx, 3)) (hc : cells + ct_mc ct ≤ 600000) (hs : slots + ct_ms ct ≤ 7302250) (hls : ls.size = 4)
    (kk : ∀ (rv : List Value) (res : List Int) (w' : cWld) (H' : Heap) (locs' : List Loc), c_retV (ct_ret ct) rv res → c_Post ct (k_rv ns) w w' res → k_In s D dA a1 a2 w' H' locs' → W p l e room_1 s m #[Value.ref b] below meth c H' locs' (cells + ct_mc ct) (slots + ct_ms ct) Q (F0 m (pc + 3) ls (rv ++ rest))) :
    W p l e room_1 s m #[Value.ref b] below meth c H locs cells slots Q (F0 m pc ls ((Value.ref x :: As).reverse ++ rest)) := by
  obtain ⟨hx, hb, hml, hown, hts, hK, hN, hAX, -, -, -⟩ := C
  obtain ⟨hP, hD, hT, hS, hi1, hi2, hg⟩ := I
  obtain ⟨hpre, hdep⟩ := hpd
  have hargs := hpre.1
  obtain ⟨m1, m2, m3, m4, m5, m6, m7, m8⟩ := k_mOk a M hM
  obtain ⟨t1, t2, t3, t4⟩ := m8 ct hct
  have hGd := k_all (l := l) (D := D) (dA := dA) (AA := k_AA s) 1000 a ct hct M (by rw [t1]; exact hM) w (k_rv ns) (.ref x :: As) hpre hdep hT hD
  refine c_callU (D := D) (cl := k_cl) (dA := dA) (K := k_K) (ct := ct) (r1 := k_rv ns) (w := w) (va := (Value.ref x :: As).toArray) (rest := rest) ?_ hS fun rv res w' H1 locs1 hrv hpost hP1 hD1 hT1 hS1 => ?_
  · obtain ⟨t, bb, al, ci, N, T, u1, u2, u3⟩ := t4 (by omega)
    have harg := hargs
    rw [u1] at harg
    obtain ⟨x', As', he, ce, hx1, hx2⟩ := c_args_ref harg
    cases he
    obtain ⟨q0, hq0⟩ := c_idx hx1
    have hform := (hT _ hx1).1
    dsimp only at hform
    rw [hx2, u2] at hform
    obtain ⟨fs, rfl, -⟩ := hform
    have hlenA : As.length = (ct_args ct).length - 1 := by
      have : (ct_args ct).length = (Value.ref x :: As).length := k_argsLen hargs
      rw [this, List.length_cons]
      omega
    rw [if_neg (by omega)] at t3
    exact va_runV (bytes := M.2.1) (maxL := M.2.2.1) (ret := M.2.2.2.1) (C := M.1.cls) ⟨hx, hb, hml, hown, hts⟩ hGd ⟨callB_of (rm := c_rm 1000 ct) (ws' := k_Z.2.2.1) _ hts (c_goodIn k_good m1) rfl rfl rfl (hts _ m2) (hts _ hlk) ⟨m3.1, m3.2, t3⟩ ⟨by show 1000 + 1 ≤ 2048; omega, by show 8 + (M.2.2.1 + 11) + 64 * 1000 ≤ 84000; omega⟩, hts _ (m5 hkd).1, hts _ (m5 hkd).2⟩ ⟨c_blind k_nest, va_recv hK hP u3 hq0, (c_Bp_at k_nest hK hN hAX hP hS)⟩ rfl hlenA hls (by show (Value.ref x :: As).reverse ++ rest = _; rw [List.reverse_cons, List.append_assoc]; rfl) (c_F_mr hcat) hd ⟨hc, hs⟩
  · obtain ⟨g1, g2⟩ := k_pubPost hpb hrv hpost hg
    exact kk rv res w' H1 locs1 hrv hpost ⟨hP1, hD1, hT1, hS1, g2 _ _ (by decide) hi1, g2 _ _ (by decide) hi2, g1⟩
theorem k_arg (C : k_Cx p s m c b L xs D dA) (I : k_In s D dA a1 a2 w H locs) (hl : lv_has ls 4 (k_lv b a1 a2 i)) {k pc : Nat} {v : Int} {rest : List Value} (hk : i + k < L) (d0 : decode code pc = .ok (.aload_n 0, 1)) (d1 : decode code (pc + 1) = .ok (.iload_n 3, 1)) (d2 : decode code (pc + 2) = .ok (.iconst v, 1)) (hv : Int32.ofInt v = nI k) (d3 : decode code (pc + 3) = .ok (.iadd, 1)) (d4 : decode code (pc + 4) = .ok (.iaload, 1))
    (kk : W p l e room_1 s m #[Value.ref b] below meth c H locs cells slots Q (F0 m (pc + 5) ls (.int (xs (i + k)) :: rest))) : W p l e room_1 s m #[Value.ref b] below meth c H locs cells slots Q (F0 m pc ls rest) := by
  obtain ⟨hx, hb, hml, hown, hts, hK, hN, hAX, hX, hbl, hL⟩ := C
  refine lv_aload_n hx hb d0 rfl (lv_at hl 0 rfl) ?_
  refine lv_iload_n hx hb d1 rfl (lv_at hl 3 rfl) ?_
  refine lv_iconst hx hb d2 hv ?_
  refine lv_iadd hx hb d3 ?_
  rw [nI_add]
  refine va_sld hx hb hX hbl (A := k_AA s) (Nat.not_le.mpr hbl) I.2.2.2.1 (vp_in_nI hk (by omega)) d4 ?_
  rw [nI_clamp (by omega)]
  exact kk
theorem k_argB (C : k_Cx p s m c b L xs D dA) (I : k_In s D dA a1 a2 w H locs) (hl : lv_has ls 4 (k_lv b a1 a2 i)) {k pc : Nat} {v : Int} {rest : List Value} (hk : i + k < L) (d0 : decode code pc = .ok (.aload_n 0, 1)) (d1 : decode code (pc + 1) = .ok (.iload_n 3, 1)) (d2 : decode code (pc + 2) = .ok (.bipush v, 2)) (hv : (Int8.ofInt v).toInt32 = nI k) (d3 : decode code (pc + 4) = .ok (.iadd, 1)) (d4 : decode code (pc + 5) = .ok (.iaload, 1))
    (kk : W p l e room_1 s m #[Value.ref b] below meth c H locs cells slots Q (F0 m (pc + 6) ls (.int (xs (i + k)) :: rest))) : W p l e room_1 s m #[Value.ref b] below meth c H locs cells slots Q (F0 m pc ls rest) := by
  obtain ⟨hx, hb, hml, hown, hts, hK, hN, hAX, hX, hbl, hL⟩ := C
  refine lv_aload_n hx hb d0 rfl (lv_at hl 0 rfl) ?_
  refine lv_iload_n hx hb d1 rfl (lv_at hl 3 rfl) ?_
  refine lv_bipush hx hb d2 hv ?_
  refine lv_iadd hx hb d3 ?_
  rw [nI_add]
  refine va_sld hx hb hX hbl (A := k_AA s) (Nat.not_le.mpr hbl) I.2.2.2.1 (vp_in_nI hk (by omega)) d4 ?_
  rw [nI_clamp (by omega)]
  exact kk
theorem k_bool (C : k_Cx p s m c b L xs D dA) {pc : Nat} {v : Int32} {rest : List Value} (d0 : decode code pc = .ok (.ifCond .eq 7, 3)) (d1 : decode code (pc + 3) = .ok (.iconst 1, 1)) (d2 : decode code (pc + 4) = .ok (.goto 4, 3)) (d3 : decode code (pc + 7) = .ok (.iconst 0, 1))
    (kk : ∀ z : Int32, z = 0 ∨ z = 1 → W p l e room_1 s m #[Value.ref b] below meth c H locs cells slots Q (F0 m (pc + 8) ls (.int z :: rest))) : W p l e room_1 s m #[Value.ref b] below meth c H locs cells slots Q (F0 m pc ls (.int v :: rest)) := by
  obtain ⟨hx, hb, -⟩ := C
  refine lv_if_eq hx hb d0 (tgt := pc + 7) (by omega) (fun _ => ?_) (fun _ => ?_)
  · refine lv_iconst (v := 0) hx hb d3 (by decide) ?_
    exact kk 0 (Or.inl rfl)
  · refine lv_iconst (v := 1) hx hb d1 (by decide) ?_
    refine lv_goto hx hb d2 (tgt := pc + 8) (by omega) ?_
    exact kk 1 (Or.inr rfl)
end LCL
/-- a number at a place of a cell -/
def k_fn (w : cWld) (a t i : Nat) (z : Int) : Prop := ∃ (e : va_E) (v : Value), (a, e) ∈ w.2.1 ∧ w.1 a = t ∧ c_rd e i = some v ∧ c_num v = z
theorem k_fnK {E : cEff} {pros : List Nat} {w w' : cWld} {a t i : Nat} {z : Int} (h : c_ext E pros w w') (hp : pros.all (fun t => Nat.ble 101 t) = true) (ht : t ≤ 100) (hE : c_off E t (i : Int) (i : Int) = true) (hf : k_fn w a t i z) : k_fn w' a t i z := by
  obtain ⟨e, v, h1, h2, h3, h4⟩ := hf
  obtain ⟨e', g1, g2⟩ := h.1 _ h1
  rcases g2 with ⟨g2, g3⟩ | g2
  · refine ⟨e', v, g1, g2.trans h2, ?_, h4⟩
    rw [g3 i (by dsimp only; rw [h2]; exact c_off_ok hE (Int.le_refl _) (Int.le_refl _))]
    exact h3
  · exfalso
    have h5 := Nat.le_of_ble_eq_true (List.all_eq_true.mp hp _ g2)
    dsimp only at h5
    omega
theorem k_fnC {w : cWld} {r : Nat → Int} {a t i b : Nat} {idx : cLin} {z : Int} (hf : k_fn w a t i z) (hb : r (b + 1) = (a : Int)) (hi : c_ev r idx = (i : Int)) : c_cell w r (b + 1) idx z := by
  obtain ⟨e, v, h1, h2, h3, h4⟩ := hf
  exact ⟨a, e, i, v, hb, h1, hi, h3, h4⟩
theorem k_fnD {w : cWld} {r : Nat → Int} {a t i b : Nat} {idx : cLin} {z : Int} (h : c_cell w r (b + 1) idx z) (hb : r (b + 1) = (a : Int)) (hi : c_ev r idx = (i : Int)) (ht : c_in w a t) : k_fn w a t i z := by
  obtain ⟨a', e, j, v, h1, h2, h3, h4, h5⟩ := h
  have e1 : a' = a := by omega
  have e2 : j = i := by omega
  subst e1; subst e2
  obtain ⟨e', h6, h7⟩ := ht
  exact ⟨e, v, h2, h7, h4, h5⟩
theorem k_fnE {w : cWld} {dA : Nat → ClassId} {a t i N ci : Nat} (hT : c_TW k_K dA w) (hin : c_in w a t) (hs : k_K.2.1 t = (0, N, ci)) (hi : i < N) : ∃ z, k_fn w a t i z := by
  obtain ⟨e, h1, h2⟩ := hin
  have hf := (hT _ h1).1
  dsimp only at hf
  rw [h2, hs] at hf
  obtain ⟨fs, rfl, hlen⟩ := hf
  have hlen : fs.length = N := hlen
  have hlt : i < fs.length := by omega
  exact ⟨_, _, fs[i], h1, h2, List.getElem?_eq_getElem hlt, rfl⟩
theorem k_sh12 : k_K.2.1 12 = (0, 20, 11) := by decide +kernel
theorem k_sh13 : k_K.2.1 13 = (0, 58, 12) := by decide +kernel
