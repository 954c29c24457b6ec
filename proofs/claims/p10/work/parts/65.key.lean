/-! addKeys, by the checker too: the text's length and its letters are by hand -/
def k_shF (f : cLin) : cLin := (f.1, f.2.map (fun q => (q.1 + 1, q.2)))
def k_shD (d : cDj) : cDj := (d.1.map k_shF, [], d.2.2.map (fun q => (q.1 + 1, k_shF q.2)))
def k_cA3 (j : Nat) : cCtr := (42, [(2, 5, 0, 0), (2, 5, 0, 0), (0, 0, k_wF j, k_wF j)], [(1, (4, []))], [(0, [])], [], (0, []), k_weK j, [], 0, 0, 0, 1, (ct_post (k_cAK j)).map k_shD)
def k_rwAK : cCode := [(23, [(0, .iload_n 2, 1), (1, .istore_n 3, 1), (2, .lconst 0, 1), (3, .lstore 4, 2), (5, .iconst 0, 1), (6, .istore 6, 2), (8, .iload 6, 2), (10, .aload_n 1, 1), (11, .invokevirtual 52, 3), (14, .if_icmp .ge 64, 3), (17, .aload_n 1, 1), (18, .iload 6, 2), (20, .invokevirtual 58, 3), (23, .istore 7, 2)]),
  (49, [(25, .iload 7, 2), (27, .bipush 32, 2), (29, .if_icmp .eq 23, 3), (32, .lload 4, 2), (34, .ldc2_w 62, 3), (37, .lmul, 1), (38, .iload 7, 2), (40, .bipush 97, 2), (42, .isub, 1), (43, .iconst 1, 1), (44, .iadd, 1), (45, .i2l, 1), (46, .ladd, 1), (47, .lstore 4, 2), (49, .goto 23, 3)]),
  (79, [(52, .iload_n 3, 1), (53, .bipush 26, 2), (55, .if_icmp .ge 17, 3), (58, .aload_n 0, 1), (59, .getfield 26, 3), (62, .iload_n 3, 1), (63, .lload 4, 2), (65, .lastore, 1), (66, .iinc 3 1, 3), (69, .lconst 0, 1), (70, .lstore 4, 2), (72, .iinc 6 1, 3), (75, .goto (-67), 3), (78, .iload_n 3, 1), (79, .ireturn, 1)])]
def k_bAK : cBody := (8, 4, [(10, 9, 1), (17, 9, 2)], k_rwAK, [])
def k_txt : Nat → List Int
  | 0 => [116, 111, 119, 110, 32, 107, 105, 110, 100, 32, 98, 111, 97, 116, 32, 108, 97, 119, 32, 121, 101, 97, 114, 32, 115, 116, 114, 101, 101, 116, 32, 104, 105, 116, 32, 100, 114, 97, 119, 32]
  | 1 => [98, 101, 115, 105, 100, 101, 32, 99, 117, 116, 32, 115, 116, 114, 101, 101, 116, 115, 32, 98, 101, 102, 111, 114, 101, 32, 97, 102, 116, 101, 114, 32, 119, 97, 103, 101, 115, 32, 114, 101, 110, 116, 115, 32, 116, 114, 121, 32, 101, 97, 99, 104, 32, 101, 110, 100, 32, 108, 101, 97, 115, 116, 32]
  | _ => [111, 114, 32, 97, 110, 100, 32, 110, 111, 116, 32, 102, 101, 108, 108, 32, 114, 111, 115, 101, 32, 104, 101, 108, 100, 32, 111, 102, 32]
def k_xLen (n : Int) (A : cSt) : Option (List (Nat × cSt)) := match c_locGet 1 (c_loc A) with
  | some (2, (0, [(2, 1)])) => if Nat.ble (c_catS (c_stk A)) 8 && Nat.beq (c_cu A) 0 && Nat.beq (c_su A) 0 then some [(14, c_setS A ((0, c_con n) :: c_stk A))] else none
  | _ => none
def k_xChr (n : Int) (tx : List Int) (A : cSt) : Option (List (Nat × cSt)) := match c_locGet 1 (c_loc A), c_locGet 6 (c_loc A) with
  | some (2, (0, [(2, 1)])), some (0, (i, [])) => if Nat.ble (c_catS (c_stk A)) 8 && Nat.beq (c_cu A) 0 && Nat.beq (c_su A) 0 && decide (0 ≤ i ∧ i < n) then some [(23, c_setS A ((0, c_con (tx.getD i.toNat 0)) :: c_stk A))] else none
  | _, _ => none
def k_ln : Nat → Int
  | 0 => 40
  | 1 => 63
  | _ => 29
def k_XA (j : Nat) : cXs := (fun k A => match k with
  | 1 => k_xLen (k_ln j) A
  | 2 => k_xChr (k_ln j) (k_txt j) A
  | _ => none, fun _ _ => none)
def k_A0 (j : Nat) : cSt := (5, [], [(1, 3), (4, 3)], [(1, 5), (4, 36)], [], [(0, (2, c_sym 1)), (1, (2, c_sym 2)), (2, (0, c_con (k_wF j)))], [], [(1, c_con 4, (2, c_sym 4))], 0, 0)
def k_okAK (j : Nat) : Bool := c_go (k_XA j) k_K k_P (k_cA3 j) k_bAK none 4000 false [(0, k_A0 j)]
theorem k_rAK0 : k_okAK 0 = true := by decide +kernel
theorem k_rAK1 : k_okAK 1 = true := by decide +kernel
theorem k_rAK2 : k_okAK 2 = true := by decide +kernel
theorem k_rAK {j : Nat} (hj : j < 3) : k_okAK j = true := by
  rcases (show j = 0 ∨ j = 1 ∨ j = 2 by omega) with rfl | rfl | rfl
  · exact k_rAK0
  · exact k_rAK1
  · exact k_rAK2
def k_txB (j : Nat) : Bool := (List.range (k_sl.getD j 0)).all (fun z => decide ((((k_sb.getD j []).getD z 0) &&& 255).toInt = (k_txt j).getD z 0))
theorem k_txOk {j : Nat} (hj : j < 3) {z : Nat} (hz : z < k_sl.getD j 0) : (((k_sb.getD j []).getD z 0) &&& 255).toInt = (k_txt j).getD z 0 := by
  have h : k_txB j = true := by rcases (show j = 0 ∨ j = 1 ∨ j = 2 by omega) with rfl | rfl | rfl <;> decide +kernel
  exact of_decide_eq_true (List.all_eq_true.mp h z (List.mem_range.mpr hz))
/-- from the words' own contract to the call's -/
theorem k_shF_ok {pv r' : Nat → Int} : ∀ {l : List (Nat × Int)}, l.all (fun q => Nat.ble 4 q.1) = true → c_evs (fun i => if i < 4 then pv i else r' (i + 1)) l = c_evs r' (l.map (fun q => (q.1 + 1, q.2)))
  | [], _ => rfl
  | q :: l, h => by
    rw [List.all_cons, Bool.and_eq_true] at h
    have h1 := Nat.le_of_ble_eq_true h.1
    have ih := k_shF_ok (pv := pv) (r' := r') h.2
    show q.2 * (if q.1 < 4 then pv q.1 else r' (q.1 + 1)) + c_evs (fun i => if i < 4 then pv i else r' (i + 1)) l = q.2 * r' (q.1 + 1) + c_evs r' (l.map (fun q => (q.1 + 1, q.2)))
    rw [if_neg (by omega), ih]
def k_chD (d : cDj) : Bool := d.1.all (fun f => f.2.all (fun q => Nat.ble 4 q.1)) && d.2.1.isEmpty && d.2.2.all (fun q => Nat.beq q.1 3 && q.2.2.isEmpty)
theorem k_conv {j : Nat} (hall : (ct_post (k_cAK j)).all k_chD = true) {rr pv : Nat → Int} (a3 : rr 4 = pv 3) {w w' : cWld} {x : Int} (h : c_Post (k_cA3 j) rr w w' [x]) : c_Post (k_cAK j) pv w w' [x] := by
  obtain ⟨p1, -, dd, hdd, r', q1, q2, q3, q4, -⟩ := h
  obtain ⟨d, hd, rfl⟩ := List.mem_map.mp (show dd ∈ (ct_post (k_cAK j)).map k_shD from hdd)
  have hc := List.all_eq_true.mp hall d hd
  unfold k_chD at hc
  rw [Bool.and_eq_true, Bool.and_eq_true] at hc
  obtain ⟨⟨c1, c2⟩, c3⟩ := hc
  have e4 : r' 4 = pv 3 := (q1 4 (by show 4 < 5; omega)).trans a3
  refine ⟨p1, fun h => absurd rfl h, d, hd, fun i => if i < 4 then pv i else r' (i + 1), fun i hi => if_pos hi, fun i z hz => ?_, fun i q hq => ?_, fun f hf => ?_, fun q hq => ?_⟩
  · cases i with
    | zero =>
      cases hz
      exact q2 0 _ rfl
    | succ i => cases hz
  · have hm := List.mem_of_getElem? hq
    have hq2 := List.all_eq_true.mp c3 q hm
    rw [Bool.and_eq_true] at hq2
    obtain ⟨b, idx, ls⟩ := q
    have hb := Nat.eq_of_beq_eq_true hq2.1
    have hl : ls = [] := List.isEmpty_iff.mp hq2.2
    have hb : b = 3 := hb
    subst hb; subst hl
    have h3 := q3 i (4, k_shF (idx, [])) (by
      show (d.2.2.map (fun q => (q.1 + 1, k_shF q.2)))[i]? = _
      rw [List.getElem?_map, hq]
      rfl)
    obtain ⟨a, e, n, v, m1, m2, m3, m4, m5⟩ := h3
    refine ⟨a, e, n, v, ?_, m2, m3, m4, ?_⟩
    · show (if 3 < 4 then pv 3 else r' (3 + 1)) = (a : Int)
      rw [if_pos (by omega), ← e4]
      exact m1
    · rw [m5]
      show r' (5 + 1 + i) = (if 4 + 1 + i < 4 then pv (4 + 1 + i) else r' (4 + 1 + i + 1))
      rw [if_neg (by omega)]
      congr 1
      omega
  · have h4 := q4 (k_shF f) (List.mem_map_of_mem hf)
    have h5 := k_shF_ok (pv := pv) (r' := r') (List.all_eq_true.mp c1 f hf)
    show 0 ≤ f.1 + c_evs (fun i => if i < 4 then pv i else r' (i + 1)) f.2
    rw [h5]
    exact h4
  · rw [List.isEmpty_iff.mp c2] at hq
    cases hq
theorem k_allD {j : Nat} (hj : j < 3) : (ct_post (k_cAK j)).all k_chD = true := by
  rcases (show j = 0 ∨ j = 1 ∨ j = 2 by omega) with rfl | rfl | rfl <;> decide +kernel
theorem k_lnI {j : Nat} (hj : j < 3) : (nI (k_sl.getD j 0)).toInt = k_ln j := by
  rcases (show j = 0 ∨ j = 1 ∨ j = 2 by omega) with rfl | rfl | rfl <;> decide
theorem k_lnN {j : Nat} (hj : j < 3) : ((k_sl.getD j 0 : Nat) : Int) = k_ln j := by
  rcases (show j = 0 ∨ j = 1 ∨ j = 2 by omega) with rfl | rfl | rfl <;> decide
def k_decB (b : ByteArray) (l : cCode) : Bool := k_decF b l
theorem k_decB_ok {b : ByteArray} {l : cCode} (h : k_decB b l = true) : ∀ q ∈ l, ∀ x ∈ q.2, decode b x.1 = .ok x.2 := k_decF_ok h
theorem k_decAK : k_decB k_M42.2.1 k_rwAK = true := by decide +kernel
theorem k_dak10 : decode k_M42.2.1 10 = .ok (.aload_n 1, 1) := by decide +kernel
theorem k_dak11 : decode k_M42.2.1 11 = .ok (.invokevirtual 52, 3) := by decide +kernel
theorem k_dak17 : decode k_M42.2.1 17 = .ok (.aload_n 1, 1) := by decide +kernel
theorem k_dak18 : decode k_M42.2.1 18 = .ok (.iload 6, 2) := by decide +kernel
theorem k_dak20 : decode k_M42.2.1 20 = .ok (.invokevirtual 58, 3) := by decide +kernel
theorem k_Wmono {p : Program} {l : Launch} {e : Env} {R : Room} {s : State} {m : MethodId} {args : Array Value} {below : List Frame} {meth : Method} {c : Code} {H : Heap} {locs : List Loc} {cells slots : Nat} {Q Q' : State → Prop} {g : JFrame} (hQ : ∀ t, Q t → Q' t) (h : W p l e R s m args below meth c H locs cells slots Q g) : W p l e R s m args below meth c H locs cells slots Q' g := by
  intro T hT X
  obtain ⟨t, a, b⟩ := h T hT X
  exact ⟨t, a, hQ t b⟩
section KX
variable {p : Program} {l : Launch} {e : Env} {R : Room} {s : State} {m : MethodId} {args : Array Value} {below : List Frame} {meth : Method} {c : Code} {D : va_G} {cl : List vw_C} {dA : Nat → ClassId} {AA : Nat → Prop} {O : cCtr} {w0 : cWld} {nL : Nat} {Q : State → Prop} {n0 : Nat} {r0 rr : Nat → Int} {A : cSt} {L : List (Nat × cSt)} {adK adV : Nat → Nat} {fm j d : Nat}
theorem k_xLen_ok (hj : j < 3) (hx : p.tables.exec = Jvm.exec) (hb : c.code = k_M42.2.1) (hml : c.maxLocals = nL) (hown : s.vm.findClass "MayBoats$Reader" = some m.cls) (hts : ∀ w ∈ k_ws, w.before args s = true) (hSB : k_SB adK adV fm AA s) (hRf : R.frames = d + 1 + 1 + 1 + 1) (hRl : R.locals = 64 * (d + 1 + 1 + 1 + 1)) (hn : 5 ≤ n0) (hag : c_agr 5 rr r0) (hr2 : rr 2 = (adK j : Int)) (h : k_xLen (k_ln j) A = some L)
    (hL : ∀ q ∈ L, c_OK ((p, l, e, R, s, m, args, below, meth, c), (D, cl, dA, AA), (k_K, O, w0), (k_M42.2.1, nL, Q)) n0 r0 q.1 q.2) : c_OK ((p, l, e, R, s, m, args, below, meth, c), (D, cl, dA, AA), (k_K, O, w0), (k_M42.2.1, nL, Q)) n0 r0 10 A := by
  unfold k_xLen at h
  split at h
  · rename_i ha
    split at h
    · rename_i hc
      cases h
      rw [Bool.and_eq_true, Bool.and_eq_true] at hc
      obtain ⟨⟨hc1, hc2⟩, hc3⟩ := hc
      intro lv st w cu su hcu hsu hT hE hs H locs ls hP hD hS hl
      have e1 := Nat.eq_of_beq_eq_true hc2
      have e2 := Nat.eq_of_beq_eq_true hc3
      obtain ⟨v, hv, k⟩ := c_loc_at hs hl ha
      obtain ⟨r, hagr, hr⟩ := hs.at
      have hr2' : r 2 = (adK j : Int) := by rw [hagr 2 (by omega), hag 2 (by omega), hr2]
      have hrest : (st.map fun v => v.category).sum ≤ 8 := by
        have := c_catS_ok hr.2.2.2.2.2.1
        rw [this]
        exact Nat.le_of_ble_eq_true hc1
      have hev : c_ev r (0, [(2, 1)]) = r 2 := c_ev_sym r 2
      rcases c_DVr (k r hr) rfl with ⟨rfl, hq⟩ | ⟨x, rfl, hq⟩
      · exfalso
        have hq : c_ev r (0, [(2, 1)]) = -1 := hq
        omega
      · have hq : c_ev r (0, [(2, 1)]) = (x : Int) := hq
        have hxe : x = adK j := by omega
        subst hxe
        refine lv_aload_n hx hb k_dak10 rfl hv ?_
        refine k_callQ (va_runV (bytes := k_M363.2.1) (maxL := k_M363.2.2.1) (ret := k_M363.2.2.2.1) (C := "java/lang/String") (As := []) (rest := st) ⟨hx, hb, hml, hown, hts⟩ (k_mLen (l := l) (adK := adK) (adV := adV) (fm := fm) (AA := AA) hj (d + 1 + 1)) ⟨callB_of (rm := k_rm (d + 1 + 1 + 1)) (ws' := k_Z.2.2.1) 0 hts (c_goodIn k_good (k_mk (a := 363) rfl).1) rfl rfl rfl (hts _ (k_mk (a := 363) rfl).2.1) (hts _ (k_in 1 59 rfl rfl)) ⟨(k_mk (a := 363) rfl).2.2.1.1, (k_mk (a := 363) rfl).2.2.1.2, (by decide +kernel)⟩ ⟨by rw [hRf]; exact Nat.le_refl _, by rw [hRl]; show 8 + (1 + 11) + 64 * (d + 1 + 1 + 1) ≤ 64 * (d + 1 + 1 + 1 + 1); omega⟩, hts _ ((k_mk (a := 363) rfl).2.2.2.2.1 rfl).1, hts _ ((k_mk (a := 363) rfl).2.2.2.2.1 rfl).2⟩ ⟨k_SB_blind, vk_recv hSB.1 hj hS, fun U hU hW => ⟨rfl, k_SB_at hU hW hS hSB⟩⟩ rfl rfl hl.1 rfl (c_F_mr hrest) k_dak11 ⟨by omega, by omega⟩) (fun v hv2 => ?_)
        subst hv2
        exact hL _ List.mem_cons_self lv (.int (nI (k_sl.getD j 0)) :: st) w cu su hcu hsu hT hE (hs.setS fun r hr => ⟨⟨_, rfl, by
          show _ = c_ev r (c_con (k_ln j))
          rw [c_ev_con]
          exact k_lnI hj⟩, hr.2.2.2.2.2.1⟩) H locs ls hP hD hS hl
    · cases h
  · cases h
theorem k_xChr_ok (hj : j < 3) (hx : p.tables.exec = Jvm.exec) (hb : c.code = k_M42.2.1) (hml : c.maxLocals = nL) (hown : s.vm.findClass "MayBoats$Reader" = some m.cls) (hts : ∀ w ∈ k_ws, w.before args s = true) (hSB : k_SB adK adV fm AA s) (hRf : R.frames = d + 1 + 1 + 1 + 1) (hRl : R.locals = 64 * (d + 1 + 1 + 1 + 1)) (hn : 5 ≤ n0) (hag : c_agr 5 rr r0) (hr2 : rr 2 = (adK j : Int)) (h : k_xChr (k_ln j) (k_txt j) A = some L)
    (hL : ∀ q ∈ L, c_OK ((p, l, e, R, s, m, args, below, meth, c), (D, cl, dA, AA), (k_K, O, w0), (k_M42.2.1, nL, Q)) n0 r0 q.1 q.2) : c_OK ((p, l, e, R, s, m, args, below, meth, c), (D, cl, dA, AA), (k_K, O, w0), (k_M42.2.1, nL, Q)) n0 r0 17 A := by
  unfold k_xChr at h
  split at h
  · rename_i iz ha ha6
    split at h
    · rename_i hc
      cases h
      rw [Bool.and_eq_true, Bool.and_eq_true, Bool.and_eq_true] at hc
      obtain ⟨⟨⟨hc1, hc2⟩, hc3⟩, hc4⟩ := hc
      intro lv st w cu su hcu hsu hT hE hs H locs ls hP hD hS hl
      have e1 := Nat.eq_of_beq_eq_true hc2
      have e2 := Nat.eq_of_beq_eq_true hc3
      obtain ⟨v, hv, k⟩ := c_loc_at hs hl ha
      obtain ⟨v6, hv6, k6⟩ := c_loc_at hs hl ha6
      obtain ⟨r, hagr, hr⟩ := hs.at
      obtain ⟨i, rfl, hi⟩ := c_DVi (k6 r hr) rfl
      have hi : i.toInt = iz := hi.trans (c_ev_nil (idx := ((iz, []) : cLin)) rfl r)
      have hb4 := of_decide_eq_true hc4
      have hr2' : r 2 = (adK j : Int) := by rw [hagr 2 (by omega), hag 2 (by omega), hr2]
      have hrest : (st.map fun v => v.category).sum ≤ 8 := by
        have := c_catS_ok hr.2.2.2.2.2.1
        rw [this]
        exact Nat.le_of_ble_eq_true hc1
      have hev : c_ev r (0, [(2, 1)]) = r 2 := c_ev_sym r 2
      have hnN := k_lnN hj
      have hn64 := k_sl31 hj
      have h0 : ¬ i < 0 := fun q => by
        have := Int32.lt_iff_toInt_lt.mp q
        have h9 : (0 : Int32).toInt = 0 := by decide
        omega
      obtain ⟨z, hz, rfl⟩ := nI_of h0
      have hzi := nI_toInt hz
      have hzl : z < k_sl.getD j 0 := by omega
      rcases c_DVr (k r hr) rfl with ⟨rfl, hq⟩ | ⟨x2, rfl, hq⟩
      · exfalso
        have hq : c_ev r (0, [(2, 1)]) = -1 := hq
        omega
      · have hq : c_ev r (0, [(2, 1)]) = (x2 : Int) := hq
        have hxe : x2 = adK j := by omega
        subst hxe
        refine lv_aload_n hx hb k_dak17 rfl hv ?_
        refine lv_iload hx hb k_dak18 hv6 ?_
        refine k_callQ (va_runV (bytes := k_M364.2.1) (maxL := k_M364.2.2.1) (ret := k_M364.2.2.2.1) (C := "java/lang/String") (As := [.int (nI z)]) (rest := st) ⟨hx, hb, hml, hown, hts⟩ (k_mChr (l := l) (adK := adK) (adV := adV) (fm := fm) (AA := AA) hj h0 (nI_lt hzl (by omega)) (vp_in_nI hzl (by omega)) d) ⟨callB_of (rm := k_rm (d + 1 + 1 + 1)) (ws' := k_Z.2.2.1) 1 hts (c_goodIn k_good (k_mk (a := 364) rfl).1) rfl rfl rfl (hts _ (k_mk (a := 364) rfl).2.1) (hts _ (k_in 1 69 rfl rfl)) ⟨(k_mk (a := 364) rfl).2.2.1.1, (k_mk (a := 364) rfl).2.2.1.2, (by decide +kernel)⟩ ⟨by rw [hRf]; exact Nat.le_refl _, by rw [hRl]; show 8 + (2 + 11) + 64 * (d + 1 + 1 + 1) ≤ 64 * (d + 1 + 1 + 1 + 1); omega⟩, hts _ ((k_mk (a := 364) rfl).2.2.2.2.1 rfl).1, hts _ ((k_mk (a := 364) rfl).2.2.2.2.1 rfl).2⟩ ⟨k_SB_blind, vk_recv hSB.1 hj hS, fun U hU hW => ⟨rfl, k_SB_at hU hW hS hSB⟩⟩ rfl rfl hl.1 rfl (c_F_mr hrest) k_dak20 ⟨by omega, by omega⟩) (fun v hv2 => ?_)
        have hv2 : v = some (.int (((k_sb.getD j []).getD (nI z).toNatClampNeg 0) &&& 255)) := hv2
        subst hv2
        have ez : (nI z).toNatClampNeg = z := nI_clamp (by omega)
        have eiz : iz.toNat = z := by omega
        refine hL _ List.mem_cons_self lv (.int (((k_sb.getD j []).getD (nI z).toNatClampNeg 0) &&& 255) :: st) w cu su hcu hsu hT hE (hs.setS fun r hr => ⟨⟨_, rfl, ?_⟩, hr.2.2.2.2.2.1⟩) H locs ls hP hD hS hl
        show _ = c_ev r (c_con ((k_txt j).getD iz.toNat 0))
        rw [c_ev_con, eiz, ez]
        exact k_txOk hj hzl
    · cases h
  · cases h
end KX
theorem k_mKey {l : Launch} {D : va_G} {dA : Nat → ClassId} {AA : Nat → Prop} {adK adV : Nat → Nat} {fm j d a : Nat} {k : Int32} {w : cWld} {pv : Nat → Int} (ht : c_tabsOk k_K k_P k_cl k_Z "MayBoats$Book") (hj : j < 3) (hin : c_in w a 5) (hk0 : k.toInt = k_wF j) (hp1 : pv 1 = (a : Int)) (hke : c_cell w pv 1 (4, []) (pv 3)) (hT : c_TW k_K dA w) (hD : va_D AA w.2.1)
    (hG : ∀ d', d' < d + 1 + 1 + 1 + 1 → ∀ a, ∀ ct ∈ k_P.2.1 a, c_Good l D k_cl dA AA "MayBoats$Book" k_K k_Z d' ct) :
    Met l k_M42.1 (c_ws k_Z k_M42) (k_rm (d + 1 + 1 + 1 + 1)) (va_Pc [.ref a, .ref (adK j), .int k] (fun U => c_Bp D k_cl dA AA "MayBoats$Book" k_Z w U ∧ k_SB adK adV fm AA U)) (c_Qc D k_cl dA AA k_K (k_cAK j) pv w) 0 0 AA := by
  obtain ⟨hJ, hJ2, hrw, hac, hlib, hcl, hgd, hmO, hlk, hnw⟩ := ht
  refine Met.ofW (cc := k_M42.2.1) (maxL := 8) (ret := k_M42.2.2.2.1) (by decide) rfl ?_
  intro p e s m args below meth c s₁ B hml hv
  obtain ⟨rfl, ⟨hPP, hK, hN, hAA⟩, hSB⟩ := hv
  have hts : ∀ x ∈ k_Z.2.2.1, x.before _ s = true := fun x hx => atoms_spec (ws := c_ws k_Z k_M42) B.pre x (List.mem_cons_of_mem _ hx)
  have hown : s.vm.findClass "MayBoats$Reader" = some m.cls := findClass_of_methodNamed B.named
  rw [lg_entry_eq]
  obtain ⟨a9, ce, n9, v9, u1, u2, u3, u4, u5⟩ := hke
  have ea : a9 = a := by omega
  subst ea
  have en : n9 = 4 := by
    have u3 : (4 : Int) + 0 = (n9 : Int) := u3
    omega
  subst en
  have ht5 : w.1 a9 = 5 := by
    obtain ⟨e0, -, h2⟩ := hin
    exact h2
  have hty := (hT _ u2).2.1 4 v9 u4
  dsimp only at hty
  rw [ht5, show c_ty k_K 5 4 = (3, 36, 0) by decide +kernel] at hty
  obtain ⟨ke, rfl, hke2⟩ := hty
  have hke2 : c_in w ke 36 := hke2
  have u5 : (ke : Int) = pv 3 := u5
  obtain ⟨rr, r1, r2, r3, r4⟩ : ∃ rr : Nat → Int, rr 1 = (a9 : Int) ∧ rr 2 = (adK j : Int) ∧ rr 3 = k.toInt ∧ rr 4 = pv 3 := ⟨fun i => if i = 1 then (a9 : Int) else if i = 2 then (adK j : Int) else if i = 3 then k.toInt else pv 3, rfl, rfl, rfl, rfl⟩
  have run := k_rAK hj
  unfold k_okAK at run
  have hs0 : c_sat (c_entryN (k_cA3 j)) rr (k_A0 j) (lv_args 0 [.ref a9, .ref (adK j), .int k]) [] w := by
    refine ⟨Nat.le_refl _, rr, c_agr_rf _ _, fun r hr => ?_⟩
    have q1 : r 1 = (a9 : Int) := (hr 1 (by show 1 < 5; omega)).trans r1
    have q2 : r 2 = (adK j : Int) := (hr 2 (by show 2 < 5; omega)).trans r2
    have q4 : r 4 = (ke : Int) := (hr 4 (by show 4 < 5; omega)).trans (r4.trans u5.symm)
    refine ⟨fun q hq => (by cases hq), fun q hq => ?_, fun q hq => ?_, fun f hf => (by cases hf), ⟨⟨rfl, Or.inr ⟨a9, rfl, ?_⟩⟩, ⟨rfl, Or.inr ⟨adK j, rfl, ?_⟩⟩, ⟨rfl, ⟨k, rfl, ?_⟩⟩, trivial⟩, trivial, fun q hq => ?_⟩
    · rcases List.mem_cons.mp hq with rfl | hq
      · show (0 : Int) ≤ r 1
        omega
      · have := List.mem_singleton.mp hq
        subst this
        show (0 : Int) ≤ r 4
        omega
    · rcases List.mem_cons.mp hq with rfl | hq
      · exact fun _ => ⟨a9, q1, hin⟩
      · have := List.mem_singleton.mp hq
        subst this
        exact fun _ => ⟨ke, q4, hke2⟩
    · exact (c_ev_sym r 1).trans q1
    · exact (c_ev_sym r 2).trans q2
    · exact hk0.trans (c_ev_con r _).symm
    · have := List.mem_singleton.mp hq
      subst this
      exact ⟨a9, ce, 4, .ref ke, q1, u2, c_ev_con r _, u4, Or.inr ⟨ke, rfl, (c_ev_sym r 4).trans q4⟩⟩
  have key := c_whole_ok (p := p) (l := l) (e := e) (R := (headSpec (c_ws k_Z k_M42) (k_rm (d + 1 + 1 + 1 + 1))).room) (s := s) (m := m) (args := [Value.ref a9, Value.ref (adK j), Value.int k].toArray) (below := below) (meth := meth) (c := c) (D := D) (cl := k_cl) (dA := dA) (AA := AA) (K := k_K) (O := k_cA3 j) (w0 := w) (cc := k_M42.2.1) (nL := 8) (Q := MQ below (c_Qc D k_cl dA AA k_K (k_cA3 j) rr w) [Value.ref a9, Value.ref (adK j), Value.int k].toArray s 0 0 AA) (rr := rr) (P := k_P) (b := k_bAK) (fuel := 4000) (X := k_XA j)
    (fun n0 r0 hn hag pc A x L hf hst hL => by
      obtain ⟨q, q1, q2⟩ := c_find_ok hf
      have hd := k_decB_ok k_decAK q q1 (pc, x) q2
      unfold c_stp at hst
      split at hst
      · rename_i kk hkk
        have hmem := c_annOf_mem hkk
        rcases List.mem_cons.mp hmem with hm | hm
        · cases hm
          exact k_xLen_ok (rr := rr) hj B.exec B.bytes hml hown hts hSB rfl rfl hn hag r2 hst hL
        · have hm := List.mem_singleton.mp hm
          cases hm
          exact k_xChr_ok (rr := rr) hj B.exec B.bytes hml hown hts hSB rfl rfl hn hag r2 hst hL
      · refine c_step_ok (Z := k_Z) (own := 4) (bk := "MayBoats$Book") (P := k_P) (rr := rr) (ins := x.1) (len := x.2) (Nat.lt_of_lt_of_le (by show 0 < 5; omega) hn) hn hag (by rw [B.returns]; rfl) B.notSynchronized rfl (fun ⟨ci, hci⟩ => by cases hci) (fun ci C T N hci hC => by cases hci) hJ hJ2 hac hac.2.2 hlib hcl ⟨Nat.le_refl _, Nat.le_refl _⟩ B.exec B.bytes hml hown hts hK hN hnw hAA hgd hmO hlk (fun r hr => ?_) ⟨Nat.le_refl _, Nat.le_refl _, Nat.le_refl _⟩ (fun d' hd' => hG d' hd') hst hd hL
        show (0 : Int) + 0 ≤ ((d + 1 + 1 + 1 + 1 : Nat) : Int)
        omega) (fun _ _ _ _ _ _ _ _ hh => by cases hh) hJ2 hrw (fun q hq => by cases hq) run
  refine k_Wmono (fun t ht => ?_) (key (lv_args 0 [.ref a9, .ref (adK j), .int k]) [] w 0 0 rfl rfl hT (c_ext_rf _ _ _) hs0 s.heap [] _ hPP hD va_S.rf (lv_entry _ (Nat.le_of_ble_eq_true rfl)))
  obtain ⟨o, h1, h2, ⟨⟨rv, res, w', ho, hret, hpost, hbw⟩, hF⟩, h4⟩ := ht
  obtain ⟨x, rfl, rfl⟩ : ∃ x : Int32, rv = [.int x] ∧ res = [x.toInt] := hret
  exact ⟨o, h1, h2, ⟨⟨_, _, w', ho, ⟨x, rfl, rfl⟩, k_conv (k_allD hj) r4 hpost, hbw⟩, hF⟩, h4⟩
