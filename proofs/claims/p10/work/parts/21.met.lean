/-! contracts of the machine -/
def c_rm (d : Nat) (ct : cCtr) : Room := { frames := d, cells := ct_mc ct, slots := ct_ms ct, locals := 64 * d }
def c_Bw (D : va_G) (cl : List vw_C) (dA : Nat → ClassId) (AA : Nat → Prop) (K : cTab) (w : cWld) (t : State) : Prop := va_P D cl w.2.1 t.heap ∧ va_D AA w.2.1 ∧ c_TW K dA w
def c_Qc (D : va_G) (cl : List vw_C) (dA : Nat → ClassId) (AA : Nat → Prop) (K : cTab) (ct : cCtr) (r0 : Nat → Int) (w : cWld) : Array Value → State → Outcome → State → Prop := fun _ st oc t =>
  (∃ (rv : List Value) (res : List Int) (w' : cWld), oc = .returned rv.head? ∧ c_retV (ct_ret ct) rv res ∧ c_Post ct r0 w w' res ∧ c_Bw D cl dA AA K w' t) ∧ va_F AA st t
def c_Bp (D : va_G) (cl : List vw_C) (dA : Nat → ClassId) (AA : Nat → Prop) (bk : String) (Z : cStat) (w : cWld) (U : State) : Prop := va_P D cl w.2.1 U.heap ∧ va_K D cl (c_tys dA bk) U ∧ (∀ x ∈ Z.2.2.2.1, va_Nw x U) ∧ c_AX AA U
def c_ws (Z : cStat) (M : cMth) : List Jvm.Cond := Jvm.Cond.code M.1 M.2.1 M.2.2.1 M.2.2.2.1 :: Z.2.2.1
def c_Good (l : Launch) (D : va_G) (cl : List vw_C) (dA : Nat → ClassId) (AA : Nat → Prop) (bk : String) (K : cTab) (Z : cStat) (d : Nat) (ct : cCtr) : Prop := ∀ M : cMth, Z.2.1 (ct_m ct) = some M → ∀ (w : cWld) (r0 : Nat → Int) (vals : List Value), c_Pre ct r0 vals w → c_ev r0 (ct_dep ct) ≤ (d : Int) → c_TW K dA w → va_D AA w.2.1 →
  Met l M.1 (c_ws Z M) (c_rm d ct) (va_Pc vals (c_Bp D cl dA AA bk Z w)) (c_Qc D cl dA AA K ct r0 w) (ct_mc ct) (ct_ms ct) AA
theorem c_retV_list {k : Nat} {rv : List Value} {res : List Int} (h : c_retV k rv res) : rv.head?.toList = rv := by
  unfold c_retV at h
  split at h
  · rw [h.1]; rfl
  · obtain ⟨x, h1, -⟩ := h; rw [h1]; rfl
  · obtain ⟨x, h1, -⟩ := h; rw [h1]; rfl
  · obtain ⟨x, h1, -⟩ := h; rw [h1]; rfl
section ME
variable {p : Program} {l : Launch} {e : Env} {R : Room} {s : State} {m : MethodId} {args : Array Value} {below : List Frame} {meth : Method} {c : Code} {D : va_G} {cl : List vw_C} {dA : Nat → ClassId} {AA : Nat → Prop} {K : cTab} {O : cCtr} {w0 : cWld} {cc : ByteArray} {nL : Nat} {Q : State → Prop} {n0 : Nat} {r0 : Nat → Int}
  {P : cPrg} {own : Nat} {an : cAnn} {A : cSt} {pc len : Nat} {L : List (Nat × cSt)} {Z : cStat} {bk : String}
theorem c_callU {H : Heap} {locs : List Loc} {cells slots : Nat} {ls : Array Slot} {st0 rest : List Value} {va : Array Value} {ct : cCtr} {r1 : Nat → Int} {w : cWld} (hr : va_Run p l e R s m args below meth c H locs cells slots (ct_mc ct) (ct_ms ct) (F0 m pc ls st0) rest (c_Qc D cl dA AA K ct r1 w va) AA) (hS : va_S AA s.heap H locs)
    (kk : ∀ (rv : List Value) (res : List Int) (w' : cWld) (H1 : Heap) (locs1 : List Loc), c_retV (ct_ret ct) rv res → c_Post ct r1 w w' res → va_P D cl w'.2.1 H1 → va_D AA w'.2.1 → c_TW K dA w' → va_S AA s.heap H1 locs1 → W p l e R s m args below meth c H1 locs1 (cells + ct_mc ct) (slots + ct_ms ct) Q (F0 m (pc + 3) ls (rv ++ rest))) : W p l e R s m args below meth c H locs cells slots Q (F0 m pc ls st0) := by
  intro T hT X
  obtain ⟨v, st₀, t, T', L, h0, X', hL, e1, e2, ⟨⟨rv, res, w', hv, hret, hp, hb⟩, hz, hk⟩, st⟩ := hr T hT X
  cases hv
  rw [h0] at hz hk
  rw [c_retV_list hret] at st
  obtain ⟨t2, a1, b1⟩ := kk rv res w' T'.heap (locs ++ L) hret hp (by rw [e1]; exact hb.1) hb.2.1 hb.2.2
    ⟨Nat.le_trans hS.1 (by rw [e1]; exact hz), fun q h1 h2 => by rw [e1, hk q (Nat.lt_of_lt_of_le h1 hS.1) h2]; exact hS.2.1 q h1 h2, fun q hq => by
      rcases List.mem_append.mp hq with h | h
      · exact hS.2.2 q h
      · exact hL q h⟩ T' rfl X'
  exact ⟨t2, st t2 a1, b1⟩
/-- what a method's own table says of its answer -/
def c_retT1 (k : Nat) (ret : Option FieldType) : Prop := match k with
  | 0 => ret = none
  | 1 => ret = some .int
  | 2 => ret = some .long
  | _ => ret = some .boolean
theorem c_narB {v : Int32} (h0 : 0 ≤ v.toInt) (h1 : v.toInt ≤ 1) : narrow .boolean (.int v) = .int v := by
  rcases (show v.toInt = 0 ∨ v.toInt = 1 by omega) with q | q
  · have : v = 0 := (c_eq0 v).mpr q
    subst this
    decide
  · have : v = 1 := Int32.toInt_inj.mp q
    subst this
    decide
theorem c_m_ireturn {rr : Nat → Int} (hn : c_entryN O ≤ n0) (hrr : c_agr (c_entryN O) rr r0) (hrt : c_retT1 (ct_ret O) meth.sig.returnType) (hlocks : meth.locks = false) (hQ : Q = MQ below (c_Qc D cl dA AA K O rr w0) args s (ct_mc O) (ct_ms O) AA) (hx : p.tables.exec = Jvm.exec) (hb : c.code = cc) (h : c_step K P O nL own an A pc len (.ireturn) = some L) (hd : decode cc pc = .ok (.ireturn, len)) : c_OK ((p, l, e, R, s, m, args, below, meth, c), (D, cl, dA, AA), (K, O, w0), (cc, nL, Q)) n0 r0 pc A := by
  unfold c_step at h
  dsimp only at h
  obtain ⟨hn1, g⟩ := c_len_inv h
  clear h
  subst hn1
  split at g
  · rename_i x hst
    split at g
    · rename_i hc
      rw [Bool.and_eq_true, Bool.or_eq_true] at hc
      obtain ⟨c1, c2⟩ := hc
      intro lv st w cu su hcu hsu hT hE hs H locs ls hP hD hS hl
      obtain ⟨v, ss, rfl, kk⟩ := c_topi hs hst rfl
      obtain ⟨r, -, hr⟩ := hs.at
      have hss : ss = [] := c_F2_nil (kk r hr).2
      subst hss
      obtain ⟨g1, g2, g3, g4⟩ := c_retOk_ok (res := [v.toInt]) hn hrr hT hD hs (fun r hr => by
        show [c_ev r x] = _
        rw [(kk r hr).1]) c2
      subst hcu; subst hsu; subst hQ
      refine W.widen g3 g4 ?_
      rcases c1 with c1 | c1
      · have c1 := Nat.eq_of_beq_eq_true c1
        unfold c_retT1 at hrt
        rw [c1] at hrt
        exact W.iret hx hb hrt (fun t ht _ => ⟨⟨[.int v], [v.toInt], w, rfl, by unfold c_retV; rw [c1]; exact ⟨v, rfl, rfl⟩, ⟨hE, g1, g2⟩, by rw [ht]; exact hP, hD, hT⟩, hS.F ht⟩) hS.2.2 hd hlocks
      · rw [Bool.and_eq_true] at c1
        have c3 := Nat.eq_of_beq_eq_true c1.1
        have c4 := c_in2_ok hr c1.2
        have h5 : v.toInt = c_ev r x := (kk r hr).1
        unfold c_retT1 at hrt
        rw [c3] at hrt
        exact W.zret hx hb hrt (c_narB (by omega) (by omega)) (fun t ht _ => ⟨⟨[.int v], [v.toInt], w, rfl, by unfold c_retV; rw [c3]; exact ⟨v, rfl, rfl, by omega, by omega⟩, ⟨hE, g1, g2⟩, by rw [ht]; exact hP, hD, hT⟩, hS.F ht⟩) hS.2.2 hd hlocks
    · cases g
  · cases g
theorem c_m_lreturn {rr : Nat → Int} (hn : c_entryN O ≤ n0) (hrr : c_agr (c_entryN O) rr r0) (hrt : c_retT1 (ct_ret O) meth.sig.returnType) (hlocks : meth.locks = false) (hQ : Q = MQ below (c_Qc D cl dA AA K O rr w0) args s (ct_mc O) (ct_ms O) AA) (hx : p.tables.exec = Jvm.exec) (hb : c.code = cc) (h : c_step K P O nL own an A pc len (.lreturn) = some L) (hd : decode cc pc = .ok (.lreturn, len)) : c_OK ((p, l, e, R, s, m, args, below, meth, c), (D, cl, dA, AA), (K, O, w0), (cc, nL, Q)) n0 r0 pc A := by
  unfold c_step at h
  dsimp only at h
  obtain ⟨hn1, g⟩ := c_len_inv h
  clear h
  subst hn1
  split at g
  · rename_i x hst
    split at g
    · rename_i hc
      rw [Bool.and_eq_true] at hc
      obtain ⟨c1, c2⟩ := hc
      intro lv st w cu su hcu hsu hT hE hs H locs ls hP hD hS hl
      obtain ⟨v, ss, rfl, kk⟩ := c_topl hs hst rfl
      obtain ⟨r, -, hr⟩ := hs.at
      have hss : ss = [] := c_F2_nil (kk r hr).2
      subst hss
      obtain ⟨g1, g2, g3, g4⟩ := c_retOk_ok (res := [v.toInt]) hn hrr hT hD hs (fun r hr => by
        show [c_ev r x] = _
        rw [(kk r hr).1]) c2
      subst hcu; subst hsu; subst hQ
      refine W.widen g3 g4 ?_
      have c1 := Nat.eq_of_beq_eq_true c1
      unfold c_retT1 at hrt
      rw [c1] at hrt
      exact W.lret hx hb hrt (fun t ht _ => ⟨⟨[.long v], [v.toInt], w, rfl, by unfold c_retV; rw [c1]; exact ⟨v, rfl, rfl⟩, ⟨hE, g1, g2⟩, by rw [ht]; exact hP, hD, hT⟩, hS.F ht⟩) hS.2.2 hd hlocks
    · cases g
  · cases g
theorem c_m_return {rr : Nat → Int} (hn : c_entryN O ≤ n0) (hrr : c_agr (c_entryN O) rr r0) (hrt : c_retT1 (ct_ret O) meth.sig.returnType) (hlocks : meth.locks = false) (hQ : Q = MQ below (c_Qc D cl dA AA K O rr w0) args s (ct_mc O) (ct_ms O) AA) (hx : p.tables.exec = Jvm.exec) (hb : c.code = cc) (h : c_step K P O nL own an A pc len (.return_) = some L) (hd : decode cc pc = .ok (.return_, len)) : c_OK ((p, l, e, R, s, m, args, below, meth, c), (D, cl, dA, AA), (K, O, w0), (cc, nL, Q)) n0 r0 pc A := by
  unfold c_step at h
  dsimp only at h
  obtain ⟨hn1, g⟩ := c_len_inv h
  clear h
  subst hn1
  split at g
  · rename_i hc
    rw [Bool.and_eq_true, Bool.and_eq_true] at hc
    obtain ⟨⟨c1, c0⟩, c2⟩ := hc
    intro lv st w cu su hcu hsu hT hE hs H locs ls hP hD hS hl
    obtain ⟨r, -, hr⟩ := hs.at
    have hst : c_stk A = [] := List.isEmpty_iff.mp c0
    have hF : c_F2 (c_DV r) (c_stk A) st := hr.2.2.2.2.2.1
    rw [hst] at hF
    have hss : st = [] := c_F2_nil hF
    subst hss
    obtain ⟨g1, g2, g3, g4⟩ := c_retOk_ok (res := []) hn hrr hT hD hs (fun r hr => rfl) c2
    subst hcu; subst hsu; subst hQ
    refine W.widen g3 g4 ?_
    have c1 := Nat.eq_of_beq_eq_true c1
    unfold c_retT1 at hrt
    rw [c1] at hrt
    exact W.vret hx hb hrt (fun t ht _ => ⟨⟨[], [], w, rfl, by unfold c_retV; rw [c1]; exact ⟨rfl, rfl⟩, ⟨hE, g1, g2⟩, by rw [ht]; exact hP, hD, hT⟩, hS.F ht⟩) hS.2.2 hd hlocks
  · cases g
end ME
