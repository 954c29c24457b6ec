/-! objects, returns -/
theorem c_fldOk_ok {K : cTab} {A : cSt} {ci : Nat} {f : Nat → Nat → Nat} : ∀ {N : Nat}, c_fldOk K A ci f N = true → ∀ k, k < N → f ci k % 10 ≤ 3 ∧ c_fits A (c_dflt (f ci k % 10)) (c_ty K (101 + ci) k) = true
  | 0, _, k, hk => absurd hk (Nat.not_lt_zero _)
  | N + 1, h, k, hk => by
    unfold c_fldOk at h
    rw [Bool.and_eq_true, Bool.and_eq_true] at h
    by_cases e : k = N
    · subst e; exact ⟨Nat.le_of_ble_eq_true h.1.1, h.1.2⟩
    · exact c_fldOk_ok h.2 k (by omega)
theorem c_fieldsM_ok {s ci : Nat} {f : Nat → Nat → Nat} : ∀ (N : Nat) {l : List (Nat × cLin × cAV)} {q : Nat × cLin × cAV}, q ∈ c_fieldsM s ci f N l → q ∈ l ∨ ∃ k, k < N ∧ q = (s, c_con (k : Int), c_dflt (f ci k % 10))
  | 0, _, _, h => Or.inl h
  | N + 1, l, q, h => by
    rcases c_fieldsM_ok N h with h | ⟨k, hk, rfl⟩
    · rcases List.mem_cons.mp h with rfl | h
      · exact Or.inr ⟨N, by omega, rfl⟩
      · exact Or.inl h
    · exact Or.inr ⟨k, by omega, rfl⟩
theorem c_dflt_DV {ty : FieldType} {k : Nat} (hk : k % 10 = c_tyC ty) (h3 : k % 10 ≤ 3) (r : Nat → Int) : c_DV r (c_dflt (k % 10)) (defaultValue ty) := by
  rw [hk] at h3 ⊢
  cases ty with
  | int => exact ⟨0, rfl, by show _ = c_ev r ((0, []) : cLin); rw [c_ev_nil rfl]; rfl⟩
  | long => exact ⟨0, rfl, by show _ = c_ev r ((0, []) : cLin); rw [c_ev_nil rfl]; rfl⟩
  | boolean => exact ⟨0, rfl, by show _ = c_ev r ((0, []) : cLin); rw [c_ev_nil rfl]; rfl⟩
  | object n => exact Or.inl ⟨rfl, by show c_ev r ((-1, []) : cLin) = _; rw [c_ev_nil rfl]⟩
  | array t => exact Or.inl ⟨rfl, by show c_ev r ((-1, []) : cLin) = _; rw [c_ev_nil rfl]⟩
  | _ => exact absurd h3 (by decide)
section MO
variable {p : Program} {l : Launch} {e : Env} {R : Room} {s : State} {m : MethodId} {args : Array Value} {below : List Frame} {meth : Method} {c : Code} {D : va_G} {cl : List vw_C} {dA : Nat → ClassId} {AA : Nat → Prop} {K : cTab} {O : cCtr} {w0 : cWld} {cc : ByteArray} {nL : Nat} {Q : State → Prop} {n0 : Nat} {r0 : Nat → Int}
  {P : cPrg} {own : Nat} {an : cAnn} {A : cSt} {pc len : Nat} {L : List (Nat × cSt)} {Z : cStat} {bk : String}

theorem c_m_new {i : Nat} (hn1 : 0 < n0) (hJ : c_Jnw K) (hts : ∀ w ∈ Z.2.2.1, w.before args s = true) (hA : ∀ q, s.heap.size ≤ q → AA q) (hR : ct_mc O ≤ R.cells ∧ ct_ms O ≤ R.slots) (hlk : c_lnkOk P cl Z) (hcl : c_clsOk P cl Z.2.2.1) (hown : s.vm.findClass (Z.1 own) = some m.cls) (hx : p.tables.exec = Jvm.exec) (hb : c.code = cc) (hK : va_K D cl (c_tys dA bk) s) (h : c_step K P O nL own an A pc len (.new i) = some L) (hd : decode cc pc = .ok (.new i, len)) (hL : ∀ q ∈ L, c_OK ((p, l, e, R, s, m, args, below, meth, c), (D, cl, dA, AA), (K, O, w0), (cc, nL, Q)) n0 r0 q.1 q.2) : c_OK ((p, l, e, R, s, m, args, below, meth, c), (D, cl, dA, AA), (K, O, w0), (cc, nL, Q)) n0 r0 pc A := by
  unfold c_step at h
  dsimp only at h
  obtain ⟨hn, g⟩ := c_len_inv h
  clear h
  subst hn
  split at g
  · rename_i ci N v hlnk
    split at g
    · rename_i hc
      rw [Bool.and_eq_true, Bool.and_eq_true, Bool.and_eq_true, Bool.and_eq_true, Bool.and_eq_true] at hc
      obtain ⟨⟨⟨⟨⟨c1, c2⟩, c3⟩, c5⟩, c6⟩, c7⟩ := hc
      cases g
      have c1 := Nat.le_of_ble_eq_true c1
      have c2 := Nat.le_of_ble_eq_true c2
      have c3 := of_decide_eq_true c3
      obtain ⟨C, T, q1, q2, q3, q4⟩ := (hlk _ _ _ _ _ _ hlnk : ∃ (C : String) (T : u_T), cl[ci]? = some (C, T, N) ∧ Jvm.Cond.classLink (Z.1 own) i C ∈ Z.2.2.1 ∧ Jvm.Cond.instantiable C N ∈ Z.2.2.1 ∧ Jvm.Cond.initialized C ∈ Z.2.2.1)
      obtain ⟨u1, -, ty, u3, u4⟩ := hcl ci C T N q1
      intro lv st w cu su hcu hsu hT hE hs H locs ls hP hD hS hl
      subst hcu; subst hsu
      have hget : ∀ j, j < N → ((List.range N).map (fun k => defaultValue (ty k)))[j]? = some (defaultValue (ty j)) := fun j hj => by
        rw [List.getElem?_map, List.getElem?_range hj]
        rfl
      have hkk : ∀ k, k < N → P.2.2.2 ci k % 10 = c_tyC (ty k) := fun k hk => by
        have h8 := (u4 k hk).1
        have h9 : ∀ t : FieldType, c_tyC t ≤ 9 := fun t => by cases t <;> simp [c_tyC]
        have := h9 (ty k)
        split at h8 <;> omega
      refine va_new hx hb hts u1 ty u3 hown (hts _ q2) (hts _ q3) (hts _ q4) hK hP hD hS hA q1 (fs := (List.range N).map (fun k => defaultValue (ty k))) (fun j hj => ?_) (Nat.le_trans c1 hR.1) (Nat.le_trans c2 hR.2) hd fun q H1 hP1 hD1 hS1 => ?_
      · unfold vp_V
        rw [List.getD_eq_getElem?_getD, hget j hj]
        rfl
      have hq := c_D_new hD1
      have s2 := c_wN_TW (t := 101 + ci) hT hq (ce := .inr (ci, (List.range N).map (fun k => defaultValue (ty k)))) (by unfold c_form; rw [c3]; exact ⟨_, rfl, by simp⟩) (fun j v hv => by
        have hj : j < N := by
          have h9 := (List.getElem?_eq_some_iff.mp (show ((List.range N).map (fun k => defaultValue (ty k)))[j]? = some v from hv)).1
          rw [List.length_map, List.length_range] at h9
          exact h9
        have hv2 : some (defaultValue (ty j)) = some v := (hget j hj).symm.trans hv
        cases hv2
        obtain ⟨r, -, hr⟩ := hs.at
        exact c_fits_ok hr (c_dflt_DV (hkk j hj) (c_fldOk_ok c7 j hj).1 r) (c_fldOk_ok c7 j hj).2) (c_all_ne (f := fun i : cImp => i.1) c5) (hJ _ _ _ _ (Or.inl (c_all_ne (f := fun x : Nat × Nat × Nat => x.1) c6)))
      have s1 : c_sat n0 r0 (c_newR A (101 + ci) (c_stk A) 1 N) lv (.ref q :: st) (c_wN w q (101 + ci) (.inr (ci, (List.range N).map (fun k => defaultValue (ty k))))) := hs.newR hq (fun r hr => hr.2.2.2.2.2.1)
      refine hL _ List.mem_cons_self lv _ _ _ _ rfl rfl s2 (c_wN_ext hE hq) (s1.to rfl fun r _ hr => ?_) H1 locs ls hP1 hD1 hS1 hl
      refine ⟨hr.1, hr.2.1, hr.2.2.1, hr.2.2.2.1, hr.2.2.2.2.1, hr.2.2.2.2.2.1, fun z hz => ?_⟩
      rcases c_fieldsM_ok N hz with hz | ⟨k, hk, rfl⟩
      · exact hr.2.2.2.2.2.2 z hz
      · have hrq : r A.1 = (q : Int) := by
          have h5 : c_F2 (c_DV r) ((2, c_sym A.1) :: c_stk A) (.ref q :: st) := hr.2.2.2.2.2.1
          rcases h5.1 with ⟨h6, -⟩ | ⟨x, h6, h7⟩
          · cases h6
          · cases h6
            have h7 : c_ev r (c_sym A.1) = (q : Int) := h7
            rw [c_ev_sym] at h7
            exact h7
        have h0 : A.1 ≠ 0 := by
          intro h0
          exact absurd h0 (by have := hs.1; omega)
        unfold c_mem
        split
        · rename_i h9; exact absurd h9 h0
        · refine ⟨q, _, k, defaultValue (ty k), hrq, List.mem_append_right _ (List.mem_singleton.mpr rfl), by show c_ev r (c_con _) = _; rw [c_ev_con], hget k hk, c_dflt_DV (hkk k hk) (c_fldOk_ok c7 k hk).1 r⟩
    · cases g
  · cases g

theorem c_m_aastore (hJ : c_Jfr K) (hbk : ∃ (T : u_T) (N : Nat), cl[0]? = some (bk, T, N)) (hx : p.tables.exec = Jvm.exec) (hb : c.code = cc) (hK : va_K D cl (c_tys dA bk) s) (h : c_step K P O nL own an A pc len (.aastore) = some L) (hd : decode cc pc = .ok (.aastore, len)) (hL : ∀ q ∈ L, c_OK ((p, l, e, R, s, m, args, below, meth, c), (D, cl, dA, AA), (K, O, w0), (cc, nL, Q)) n0 r0 q.1 q.2) : c_OK ((p, l, e, R, s, m, args, below, meth, c), (D, cl, dA, AA), (K, O, w0), (cc, nL, Q)) n0 r0 pc A := by
  unfold c_step at h
  dsimp only at h
  obtain ⟨hn, g⟩ := c_len_inv h
  clear h
  subst hn
  obtain ⟨a, i, o, S, x, B, hst, hx1, hok, hi, hB, rfl⟩ := c_ast_inv g
  intro lv st w cu su hcu hsu hT hE hs H locs ls hP hD hS hl
  obtain ⟨v, ix, y, ss, ce, q0, rfl, hq0, hy1, hform, hin, hlt, hdv, hv⟩ := c_ast_sem hJ hs hT hD hE hst hx1 hi hB
  obtain ⟨r, -, hr⟩ := hs.at
  rw [Bool.and_eq_true] at hok
  have hk := Nat.eq_of_beq_eq_true hok.1
  have hok2 := hok.2
  split at hok2
  · rename_i z hz
    rw [Bool.and_eq_true] at hok2
    have k1 := Nat.eq_of_beq_eq_true hok2.1
    have k2 := Nat.eq_of_beq_eq_true hok2.2
    obtain ⟨yv, cv, qv, rfl, hqv, hyv1, hfv, -⟩ := c_obj hs hT hz hdv
    unfold c_form at hfv
    rw [k1] at hfv
    obtain ⟨fs, rfl, -⟩ := hfv
    rw [k2] at hqv
    obtain ⟨T, N, hb0⟩ := hbk
    unfold c_form at hform
    rw [hk] at hform
    obtain ⟨f, rfl⟩ := hform
    obtain ⟨s1, s2, s3, s4, s5⟩ := hv (.inl (dA 6, (K.2.1 x.2).2.1, .inr (.inr (.inr (.inr (va_up f ix.toNatClampNeg (some yv))))))) (fun j => by
      show (if j < _ then some _ else none) = _
      by_cases hj : j = ix.toNatClampNeg
      · subst hj
        rw [if_pos hlt, if_pos rfl]
        simp [c_rdA, va_up, va_rf]
      · rw [if_neg hj]
        show _ = if j < _ then some _ else none
        by_cases hj2 : j < (K.2.1 x.2).2.1
        · rw [if_pos hj2, if_pos hj2]
          simp [c_rdA, va_up, hj]
        · rw [if_neg hj2, if_neg hj2]) (fun h hh => c_form_inl (q := (dA 6, (K.2.1 x.2).2.1, .inr (.inr (.inr (.inr f))))) rfl rfl (Or.inr (Or.inr ⟨_, _, rfl, rfl⟩)) hh)
    exact va_astq (r := (bk, T, N)) hx hb hK hP hD hS q0 5 qv 0 hq0 rfl hqv hb0 hin hd (fun H1 locs1 hP1 hD1 hS1 => hL _ List.mem_cons_self lv ss _ cu su (s4.trans hcu) (s5.trans hsu) s2 s3 s1 H1 locs1 ls hP1 hD1 hS1 hl)
  · cases hok2

theorem c_ids_get {n i : Nat} (h : i < n) : (c_ids n)[i]? = some (c_sym i) := by
  unfold c_ids
  rw [List.getElem?_map, List.getElem?_range h]
  rfl
theorem c_ids_len (n : Nat) : (c_ids n).length = n := by
  unfold c_ids
  rw [List.length_map, List.length_range]
/-- what a return leaves -/
theorem c_retOk_ok {lv : List (Nat × Value)} {st : List Value} {w : cWld} {rr : Nat → Int} (hn : c_entryN O ≤ n0) (hrr : c_agr (c_entryN O) rr r0) (hT : c_TW K dA w) (hD : va_D AA w.2.1) (hs : c_sat n0 r0 A lv st w) {rv : List cLin} {res : List Int} (hv : ∀ r, c_satR A r lv st w → rv.map (c_ev r) = res) (h : c_retOk K O A rv = true) :
    (ct_rdy O ≠ 0 → ∃ a : Nat, rr 1 = (a : Int) ∧ c_in w a (ct_rdy O)) ∧ (∃ d ∈ ct_post O, c_Dj O w rr res d) ∧ c_cu A ≤ ct_mc O ∧ c_su A ≤ ct_ms O := by
  unfold c_retOk at h
  rw [Bool.and_eq_true, Bool.and_eq_true, Bool.and_eq_true] at h
  obtain ⟨⟨⟨h1, h2⟩, h3⟩, h4⟩ := h
  refine ⟨fun h0 => ?_, ?_, Nat.le_of_ble_eq_true h3, Nat.le_of_ble_eq_true h4⟩
  · unfold c_rdyOk at h2
    rw [Bool.or_eq_true] at h2
    rcases h2 with h2 | h2
    · exact absurd (Nat.eq_of_beq_eq_true h2) h0
    · rw [Bool.and_eq_true, Bool.and_eq_true] at h2
      obtain ⟨⟨h3, h4⟩, h5⟩ := h2
      split at h5
      · rename_i t' ht
        have h5 := Nat.eq_of_beq_eq_true h5
        obtain ⟨r, hag, hr⟩ := hs.at
        have h6 : (0 : Int) ≤ r 1 := hr.2.1 _ (c_mem3_ok h4)
        obtain ⟨a, h7, h8⟩ := hr.2.2.1 _ (c_tagOf_ok ht) h6
        have h3 : 1 < c_entryN O := Nat.le_of_ble_eq_true h3
        refine ⟨a, ?_, by rw [h5]; exact h8⟩
        rw [← hrr 1 h3, ← hag 1 (by omega)]
        exact h7
      · cases h5
  · obtain ⟨d, d1, d2⟩ := List.any_eq_true.mp h1
    refine ⟨d, d1, ?_⟩
    unfold c_retD at d2
    split at d2
    · cases d2
    · rename_i B hl
      rw [Bool.and_eq_true] at d2
      obtain ⟨r1, hp, hn1, ha, hr1⟩ := hs.pin
      obtain ⟨vs, S', x, g1, g2, g3, g4, g5, g6, g7, g8, g9, g10, g11, g12, g13⟩ := c_loads_ok hT hD _ A _ st B hl hp
      obtain ⟨r, hag, hr⟩ := g1.at
      have hrA : c_satR A r lv st w := by
        obtain ⟨-, r2, k1, k2⟩ := hp
        exact k2 r (fun i hi => (hag i hi).trans (k1 i hi).symm)
      have hres := hv r hrA
      have hlen : rv.length = res.length := by rw [← hres, List.length_map]
      refine ⟨c_val r B.2, fun i hi => ?_, fun k z hk => ?_, fun k q hq => ?_, fun f hf => ?_, fun q hq _ => ?_⟩
      · unfold c_val
        rw [g6, List.append_assoc, List.getElem?_append_left (by rw [c_ids_len]; exact hi), c_ids_get hi]
        show c_ev r (c_sym i) = _
        rw [c_ev_sym, hag i (by omega), ha i (by omega)]
        exact hrr i hi
      · have hk2 : k < res.length := (List.getElem?_eq_some_iff.mp hk).1
        unfold c_val
        rw [g6, List.append_assoc, List.getElem?_append_right (by rw [c_ids_len]; omega), c_ids_len, Nat.add_sub_cancel_left, List.getElem?_append_left (by omega)]
        rw [← hres, List.getElem?_map] at hk
        cases hq : rv[k]? with
        | none => rw [hq] at hk; cases hk
        | some e =>
          rw [hq] at hk
          exact Option.some.inj hk
      · have := g13 r hr k q hq
        rw [List.length_append, c_ids_len, hlen] at this
        exact this
      · have := List.all_eq_true.mp d2.1 f hf
        unfold c_entS at this
        split at this
        · cases this
        · rename_i e he
          have h5 := c_ent_ok hr.1 hr.2.2.2.1 _ _ this
          rw [c_sb_ok (fun i e h => h) r he] at h5
          exact h5
      · have := List.all_eq_true.mp d2.2 q hq
        unfold c_flR at this
        split at this
        · rename_i hk3
          have hk3 := Nat.eq_of_beq_eq_true hk3
          split at this
          · rename_i s3 he
            have hv : c_val r B.2 q.1 = r s3 := by
              unfold c_val
              rw [he]
              exact c_ev_sym r s3
            rw [hk3, hv]
            exact hr.2.1 (s3, 3) (c_mem3_ok this)
          · cases this
        · unfold c_flS at this
          split at this
          · cases this
          · rename_i e he
            have hv : c_val r B.2 q.1 = c_ev r e := by unfold c_val; rw [he]
            unfold c_flagIs at this
            split at this
            · rename_i hk
              rw [hk, hv]
              exact c_nz_ok hr this
            · rename_i hk
              rw [hk, hv]
              exact c_n32_ok hr this
            · cases this
    
end MO
