/-! arrays -/
theorem c_ald_inv {K : cTab} {A : cSt} {nx : Nat} {ok : Nat → Bool} {L : List (Nat × cSt)} (h : c_ald K A nx ok = some L) : ∃ i o S x B, c_stk A = (0, i) :: o :: S ∧ c_ref A o = some x ∧ ok (K.2.1 x.2).1 = true ∧ c_in3 A 0 (((K.2.1 x.2).2.1 : Int) - 1) i = true ∧ c_load K A x.1 i S = some B ∧ L = [(nx, B)] := by
  unfold c_ald at h
  split at h
  · rename_i i o S hst
    split at h
    · cases h
    · rename_i x hx
      split at h
      · rename_i hc
        rw [Bool.and_eq_true] at hc
        obtain ⟨B, hB, rfl⟩ := c_seq_inv h
        exact ⟨i, o, S, x, B, hst, hx, hc.1, hc.2, hB, rfl⟩
      · cases h
  · cases h
theorem c_ast_inv {K : cTab} {O : cCtr} {A : cSt} {nx : Nat} {ok : Nat → cAV → Bool} {L : List (Nat × cSt)} (h : c_ast K O A nx ok = some L) : ∃ a i o S x B, c_stk A = a :: (0, i) :: o :: S ∧ c_ref A o = some x ∧ ok (K.2.1 x.2).1 a = true ∧ c_in3 A 0 (((K.2.1 x.2).2.1 : Int) - 1) i = true ∧ c_sto2 K (ct_eff O) A x.1 i a (K.2.1 x.2).2.1 = some B ∧ L = [(nx, c_setS B S)] := by
  unfold c_ast at h
  split at h
  · rename_i a i o S hst
    split at h
    · cases h
    · rename_i x hx
      split at h
      · rename_i hc
        rw [Bool.and_eq_true] at hc
        obtain ⟨B, hB, rfl⟩ := c_seq_inv h
        obtain ⟨B', hB', rfl⟩ := c_pop_inv hB
        exact ⟨a, i, o, S, x, B', hst, hx, hc.1, hc.2, hB', rfl⟩
      · cases h
  · cases h
section MA
variable {p : Program} {l : Launch} {e : Env} {R : Room} {s : State} {m : MethodId} {args : Array Value} {below : List Frame} {meth : Method} {c : Code} {D : va_G} {cl : List vw_C} {dA : Nat → ClassId} {AA : Nat → Prop} {K : cTab} {O : cCtr} {w0 : cWld} {cc : ByteArray} {nL : Nat} {Q : State → Prop} {n0 : Nat} {r0 : Nat → Int}
  {P : cPrg} {own : Nat} {an : cAnn} {A : cSt} {pc len : Nat} {L : List (Nat × cSt)} {Z : cStat} {bk : String}
/-- what a load from an array has -/
theorem c_ald_sem {lv : List (Nat × Value)} {st : List Value} {w : cWld} {i : cLin} {o : cAV} {S : List cAV} {x : Nat × Nat} {B : cSt} (hs : c_sat n0 r0 A lv st w) (hT : c_TW K dA w) (hD : va_D AA w.2.1) (hst : c_stk A = (0, i) :: o :: S) (hx : c_ref A o = some x) (hi : c_in3 A 0 (((K.2.1 x.2).2.1 : Int) - 1) i = true) (hB : c_load K A x.1 i S = some B) :
    ∃ (ix : Int32) (y : Nat) (ss : List Value) (ce : va_E) (q0 : Nat), st = .int ix :: .ref y :: ss ∧ w.2.1[q0]? = some (y, ce) ∧ c_form dA (K.2.1 x.2) ce ∧ vp_in ix (K.2.1 x.2).2.1 ∧ ix.toNatClampNeg < (K.2.1 x.2).2.1 ∧ ∀ v, c_rd ce ix.toNatClampNeg = some v → c_sat n0 r0 B lv (v :: ss) w ∧ c_cu B = c_cu A ∧ c_su B = c_su A := by
  obtain ⟨u, ov, ss, rfl, kk⟩ := c_top2 hs hst
  obtain ⟨r, -, hr⟩ := hs.at
  obtain ⟨ix, rfl, h1⟩ := c_DVi (kk r hr).1 rfl
  obtain ⟨y, ce, q0, rfl, hq0, hy1, hy2, hy3⟩ := c_obj hs hT hx (fun r hr => (kk r hr).2.1)
  have h2 := c_in3_ok hr hi
  have h1 : ix.toInt = c_ev r i := h1
  have h3 := c_clamp (x := ix) (by omega)
  refine ⟨ix, y, ss, ce, q0, rfl, hq0, hy2, c_vin (by omega) (by omega), by omega, fun v hv => ?_⟩
  refine c_load_ok hs hT hD (c_ref_ok hx).1 (x := y) (j := ix.toNatClampNeg) (fun r _ hr => ⟨hy3 r hr, ?_⟩) (c_mem_of_at hq0) hv (fun r hr => (kk r hr).2.2) hB
  obtain ⟨z, hz, hz2⟩ := c_DVi (kk r hr).1 rfl
  cases hz
  have hz2 : ix.toInt = c_ev r i := hz2
  omega
theorem c_ast_sem (hJ : c_Jfr K) {lv : List (Nat × Value)} {st : List Value} {w : cWld} {i : cLin} {a o : cAV} {S : List cAV} {x : Nat × Nat} {B : cSt} (hs : c_sat n0 r0 A lv st w) (hT : c_TW K dA w) (hD : va_D AA w.2.1) (hE : c_ext (ct_eff O) (ct_pros O) w0 w) (hst : c_stk A = a :: (0, i) :: o :: S) (hx : c_ref A o = some x) (hi : c_in3 A 0 (((K.2.1 x.2).2.1 : Int) - 1) i = true) (hB : c_sto2 K (ct_eff O) A x.1 i a (K.2.1 x.2).2.1 = some B) :
    ∃ (v : Value) (ix : Int32) (y : Nat) (ss : List Value) (ce : va_E) (q0 : Nat), st = v :: .int ix :: .ref y :: ss ∧ w.2.1[q0]? = some (y, ce) ∧ w.1 y = x.2 ∧ c_form dA (K.2.1 x.2) ce ∧ vp_in ix (K.2.1 x.2).2.1 ∧ ix.toNatClampNeg < (K.2.1 x.2).2.1 ∧ (∀ r, c_satR A r lv st w → c_DV r a v) ∧
      ∀ ce', c_wr ce ce' ix.toNatClampNeg v → (∀ h, c_form dA h ce → c_form dA h ce') → c_sat n0 r0 (c_setS B S) lv ss (w.1, w.2.1.set q0 (y, ce'), w.2.2) ∧ c_TW K dA (w.1, w.2.1.set q0 (y, ce'), w.2.2) ∧ c_ext (ct_eff O) (ct_pros O) w0 (w.1, w.2.1.set q0 (y, ce'), w.2.2) ∧ c_cu B = c_cu A ∧ c_su B = c_su A := by
  obtain ⟨v, u, ov, ss, rfl, kk⟩ := c_top3 hs hst
  obtain ⟨r, -, hr⟩ := hs.at
  obtain ⟨ix, rfl, h1⟩ := c_DVi (kk r hr).2.1 rfl
  obtain ⟨y, ce, q0, rfl, hq0, hy1, hy2, hy3⟩ := c_obj hs hT hx (fun r hr => (kk r hr).2.2.1)
  have h2 := c_in3_ok hr hi
  have h1 : ix.toInt = c_ev r i := h1
  have h3 := c_clamp (x := ix) (by omega)
  refine ⟨v, ix, y, ss, ce, q0, rfl, hq0, hy1, hy2, c_vin (by omega) (by omega), by omega, fun r hr => (kk r hr).1, fun ce' hw hf => ?_⟩
  have hix : ∀ r, c_satR A r lv (v :: .int ix :: .ref y :: ss) w → c_ev r i = ix.toInt := fun r hr => by
    obtain ⟨z, hz, hz2⟩ := c_DVi (kk r hr).2.1 rfl
    cases hz
    exact hz2.symm
  have key : ∀ {A' : cSt} {i' : cLin}, c_sat n0 r0 A' lv (v :: .int ix :: .ref y :: ss) w → c_stk A' = c_stk A → c_cu A' = c_cu A → c_su A' = c_su A → (∀ r, c_satR A' r lv (v :: .int ix :: .ref y :: ss) w → c_satR A r lv (v :: .int ix :: .ref y :: ss) w ∧ c_ev r i' = ix.toInt) → c_store K (ct_eff O) A' x.1 i' a = some B →
      c_sat n0 r0 (c_setS B S) lv ss (w.1, w.2.1.set q0 (y, ce'), w.2.2) ∧ c_TW K dA (w.1, w.2.1.set q0 (y, ce'), w.2.2) ∧ c_ext (ct_eff O) (ct_pros O) w0 (w.1, w.2.1.set q0 (y, ce'), w.2.2) ∧ c_cu B = c_cu A ∧ c_su B = c_su A := by
    intro A' i' hs' e1 e2 e3 hA hB
    obtain ⟨s1, s2, s3, s4, s5⟩ := c_store_ok hJ hs' hT hD hE (c_ref_ok hx).1 (x := y) (j := ix.toNatClampNeg) (v := v) (fun r _ hr => ⟨hy3 r (hA r hr).1, by rw [(hA r hr).2]; omega, (kk r (hA r hr).1).1⟩) hq0 hw hf hB
    refine ⟨s1.setS fun r hr => ?_, s2, s3, s4.trans e2, s5.trans e3⟩
    have hF : c_F2 (c_DV r) (c_stk B) _ := hr.2.2.2.2.2.1
    rw [c_store_stk hB, e1, hst] at hF
    exact hF.2.2.2
  have reg : c_sat n0 r0 (c_regA A i (K.2.1 x.2).2.1) lv (v :: .int ix :: .ref y :: ss) w := hs.new ix.toInt rfl fun r _ hz hr => ⟨c_envOk_cons (by rw [hz]; omega) (by rw [hz]; omega) hr.1, hr.2.1, hr.2.2.1, fun f hf => by
    rcases List.mem_cons.mp hf with rfl | hf
    · rw [c_ev_sub, c_ev_sym, hz, hix r hr]; omega
    · rcases List.mem_cons.mp hf with rfl | hf
      · rw [c_ev_sub, c_ev_sym, hz, hix r hr]; omega
      · exact hr.2.2.2.1 f hf, hr.2.2.2.2⟩
  have regA : ∀ r, c_satR (c_regA A i (K.2.1 x.2).2.1) r lv (v :: .int ix :: .ref y :: ss) w → c_satR A r lv (v :: .int ix :: .ref y :: ss) w ∧ c_ev r (c_sym A.1) = ix.toInt := fun r hr => by
    have h0 : c_satR A r lv (v :: .int ix :: .ref y :: ss) w := ⟨fun q hq => hr.1 q (List.mem_cons_of_mem _ hq), hr.2.1, hr.2.2.1, fun f hf => hr.2.2.2.1 f (List.mem_cons_of_mem _ (List.mem_cons_of_mem _ hf)), hr.2.2.2.2⟩
    refine ⟨h0, ?_⟩
    have f1 := hr.2.2.2.1 _ List.mem_cons_self
    have f2 := hr.2.2.2.1 _ (List.mem_cons_of_mem _ List.mem_cons_self)
    rw [c_ev_sub] at f1 f2
    have := hix r h0
    omega
  unfold c_sto2 at hB
  split at hB
  · split at hB
    · exact key hs rfl rfl rfl (fun r hr => ⟨hr, hix r hr⟩) hB
    · exact key reg rfl rfl rfl regA hB
  · exact key reg rfl rfl rfl regA hB
theorem c_form_inl {h : cShp} {q q' : ClassId × vp_A} (e1 : q.1 = q'.1) (e2 : q.2.1 = q'.2.1) (hk : (∃ f g, q.2.2 = .inl f ∧ q'.2.2 = .inl g) ∨ (∃ f g, q.2.2 = .inr (.inl f) ∧ q'.2.2 = .inr (.inl g)) ∨ ∃ f g, q.2.2 = .inr (.inr (.inr (.inr f))) ∧ q'.2.2 = .inr (.inr (.inr (.inr g)))) (hf : c_form dA h (.inl q)) : c_form dA h (.inl q') := by
  obtain ⟨cA, n, z⟩ := q
  obtain ⟨cA', n', z'⟩ := q'
  dsimp only at e1 e2 hk
  subst e1; subst e2
  unfold c_form at hf ⊢
  split at hf
  · obtain ⟨fs, h1, -⟩ := hf; cases h1
  all_goals
    obtain ⟨f0, h1⟩ := hf
    cases h1
    rcases hk with ⟨f, g, k1, k2⟩ | ⟨f, g, k1, k2⟩ | ⟨f, g, k1, k2⟩
    · first | (cases k1; subst k2; exact ⟨g, rfl⟩) | cases k1
    · first | (cases k1; subst k2; exact ⟨g, rfl⟩) | cases k1
    · first | (cases k1; subst k2; exact ⟨g, rfl⟩) | cases k1

theorem c_m_iaload (hx : p.tables.exec = Jvm.exec) (hb : c.code = cc) (hK : va_K D cl (c_tys dA bk) s) (h : c_step K P O nL own an A pc len (.iaload) = some L) (hd : decode cc pc = .ok (.iaload, len)) (hL : ∀ q ∈ L, c_OK ((p, l, e, R, s, m, args, below, meth, c), (D, cl, dA, AA), (K, O, w0), (cc, nL, Q)) n0 r0 q.1 q.2) : c_OK ((p, l, e, R, s, m, args, below, meth, c), (D, cl, dA, AA), (K, O, w0), (cc, nL, Q)) n0 r0 pc A := by
  unfold c_step at h
  dsimp only at h
  obtain ⟨hn, g⟩ := c_len_inv h
  clear h
  subst hn
  obtain ⟨i, o, S, x, B, hst, hx1, hok, hi, hB, rfl⟩ := c_ald_inv g
  intro lv st w cu su hcu hsu hT hE hs H locs ls hP hD hS hl
  obtain ⟨ix, y, ss, ce, q0, rfl, hq0, hform, hin, hlt, hv⟩ := c_ald_sem hs hT hD hst hx1 hi hB
  have hk := Nat.eq_of_beq_eq_true hok
  unfold c_form at hform
  rw [hk] at hform
  obtain ⟨f, rfl⟩ := hform
  obtain ⟨s1, s2, s3⟩ := hv _ (if_pos hlt)
  exact va_iald hx hb hK hP q0 0 hq0 rfl hin hd (hL _ List.mem_cons_self lv _ w cu su (s2.trans hcu) (s3.trans hsu) hT hE s1 H locs ls hP hD hS hl)

theorem c_m_laload (hx : p.tables.exec = Jvm.exec) (hb : c.code = cc) (hK : va_K D cl (c_tys dA bk) s) (h : c_step K P O nL own an A pc len (.laload) = some L) (hd : decode cc pc = .ok (.laload, len)) (hL : ∀ q ∈ L, c_OK ((p, l, e, R, s, m, args, below, meth, c), (D, cl, dA, AA), (K, O, w0), (cc, nL, Q)) n0 r0 q.1 q.2) : c_OK ((p, l, e, R, s, m, args, below, meth, c), (D, cl, dA, AA), (K, O, w0), (cc, nL, Q)) n0 r0 pc A := by
  unfold c_step at h
  dsimp only at h
  obtain ⟨hn, g⟩ := c_len_inv h
  clear h
  subst hn
  obtain ⟨i, o, S, x, B, hst, hx1, hok, hi, hB, rfl⟩ := c_ald_inv g
  intro lv st w cu su hcu hsu hT hE hs H locs ls hP hD hS hl
  obtain ⟨ix, y, ss, ce, q0, rfl, hq0, hform, hin, hlt, hv⟩ := c_ald_sem hs hT hD hst hx1 hi hB
  have hk := Nat.eq_of_beq_eq_true hok
  unfold c_form at hform
  rw [hk] at hform
  obtain ⟨f, rfl⟩ := hform
  obtain ⟨s1, s2, s3⟩ := hv _ (if_pos hlt)
  exact va_lald hx hb hK hP q0 1 hq0 rfl hin hd (hL _ List.mem_cons_self lv _ w cu su (s2.trans hcu) (s3.trans hsu) hT hE s1 H locs ls hP hD hS hl)

theorem c_m_saload (hx : p.tables.exec = Jvm.exec) (hb : c.code = cc) (hK : va_K D cl (c_tys dA bk) s) (h : c_step K P O nL own an A pc len (.saload) = some L) (hd : decode cc pc = .ok (.saload, len)) (hL : ∀ q ∈ L, c_OK ((p, l, e, R, s, m, args, below, meth, c), (D, cl, dA, AA), (K, O, w0), (cc, nL, Q)) n0 r0 q.1 q.2) : c_OK ((p, l, e, R, s, m, args, below, meth, c), (D, cl, dA, AA), (K, O, w0), (cc, nL, Q)) n0 r0 pc A := by
  unfold c_step at h
  dsimp only at h
  obtain ⟨hn, g⟩ := c_len_inv h
  clear h
  subst hn
  obtain ⟨i, o, S, x, B, hst, hx1, hok, hi, hB, rfl⟩ := c_ald_inv g
  intro lv st w cu su hcu hsu hT hE hs H locs ls hP hD hS hl
  obtain ⟨ix, y, ss, ce, q0, rfl, hq0, hform, hin, hlt, hv⟩ := c_ald_sem hs hT hD hst hx1 hi hB
  have hk := Nat.eq_of_beq_eq_true hok
  unfold c_form at hform
  rw [hk] at hform
  obtain ⟨f, rfl⟩ := hform
  obtain ⟨s1, s2, s3⟩ := hv _ (if_pos hlt)
  exact va_sald hx hb hK hP q0 3 hq0 rfl hin hd (hL _ List.mem_cons_self lv _ w cu su (s2.trans hcu) (s3.trans hsu) hT hE s1 H locs ls hP hD hS hl)

theorem c_m_baload (hx : p.tables.exec = Jvm.exec) (hb : c.code = cc) (hK : va_K D cl (c_tys dA bk) s) (h : c_step K P O nL own an A pc len (.baload) = some L) (hd : decode cc pc = .ok (.baload, len)) (hL : ∀ q ∈ L, c_OK ((p, l, e, R, s, m, args, below, meth, c), (D, cl, dA, AA), (K, O, w0), (cc, nL, Q)) n0 r0 q.1 q.2) : c_OK ((p, l, e, R, s, m, args, below, meth, c), (D, cl, dA, AA), (K, O, w0), (cc, nL, Q)) n0 r0 pc A := by
  unfold c_step at h
  dsimp only at h
  obtain ⟨hn, g⟩ := c_len_inv h
  clear h
  subst hn
  obtain ⟨i, o, S, x, B, hst, hx1, hok, hi, hB, rfl⟩ := c_ald_inv g
  intro lv st w cu su hcu hsu hT hE hs H locs ls hP hD hS hl
  obtain ⟨ix, y, ss, ce, q0, rfl, hq0, hform, hin, hlt, hv⟩ := c_ald_sem hs hT hD hst hx1 hi hB
  rw [Bool.or_eq_true] at hok
  rcases hok with hok | hok
  · have hk := Nat.eq_of_beq_eq_true hok
    unfold c_form at hform
    rw [hk] at hform
    obtain ⟨f, rfl⟩ := hform
    obtain ⟨s1, s2, s3⟩ := hv _ (if_pos hlt)
    exact va_bald hx hb hK hP q0 2 hq0 rfl hin hd (hL _ List.mem_cons_self lv _ w cu su (s2.trans hcu) (s3.trans hsu) hT hE s1 H locs ls hP hD hS hl)
  · have hk := Nat.eq_of_beq_eq_true hok
    unfold c_form at hform
    rw [hk] at hform
    obtain ⟨f, rfl⟩ := hform
    obtain ⟨s1, s2, s3⟩ := hv _ (if_pos hlt)
    exact va_zald hx hb hK hP q0 4 hq0 rfl hin hd (hL _ List.mem_cons_self lv _ w cu su (s2.trans hcu) (s3.trans hsu) hT hE s1 H locs ls hP hD hS hl)

theorem c_m_aaload (hx : p.tables.exec = Jvm.exec) (hb : c.code = cc) (hK : va_K D cl (c_tys dA bk) s) (h : c_step K P O nL own an A pc len (.aaload) = some L) (hd : decode cc pc = .ok (.aaload, len)) (hL : ∀ q ∈ L, c_OK ((p, l, e, R, s, m, args, below, meth, c), (D, cl, dA, AA), (K, O, w0), (cc, nL, Q)) n0 r0 q.1 q.2) : c_OK ((p, l, e, R, s, m, args, below, meth, c), (D, cl, dA, AA), (K, O, w0), (cc, nL, Q)) n0 r0 pc A := by
  unfold c_step at h
  dsimp only at h
  obtain ⟨hn, g⟩ := c_len_inv h
  clear h
  subst hn
  obtain ⟨i, o, S, x, B, hst, hx1, hok, hi, hB, rfl⟩ := c_ald_inv g
  intro lv st w cu su hcu hsu hT hE hs H locs ls hP hD hS hl
  obtain ⟨ix, y, ss, ce, q0, rfl, hq0, hform, hin, hlt, hv⟩ := c_ald_sem hs hT hD hst hx1 hi hB
  rw [Bool.or_eq_true] at hok
  rcases hok with hok | hok
  · have hk := Nat.eq_of_beq_eq_true hok
    unfold c_form at hform
    rw [hk] at hform
    obtain ⟨f, rfl⟩ := hform
    obtain ⟨s1, s2, s3⟩ := hv _ (if_pos hlt)
    exact va_aldq hx hb hK hP q0 5 hq0 rfl hin hd (hL _ List.mem_cons_self lv _ w cu su (s2.trans hcu) (s3.trans hsu) hT hE s1 H locs ls hP hD hS hl)
  · have hk := Nat.eq_of_beq_eq_true hok
    unfold c_form at hform
    rw [hk] at hform
    obtain ⟨f, rfl⟩ := hform
    obtain ⟨s1, s2, s3⟩ := hv _ (if_pos hlt)
    exact W.aald (v := va_rf (f ix.toNatClampNeg)) (ty := .array .long) hx hb (hP q0 _ hq0) ((hK.2 6 _ rfl).1 _ (fun j => va_rf (f j))) rfl (fun q => by cases q) (by show ¬ (ix < 0 ∨ (arrV _ _ _).slots.size ≤ _); rw [arrV_size]; exact hin) (by show (arrV _ _ _).slots[_]? = _; rw [arrV_read _ _ hlt]) rfl rfl hd (hL _ List.mem_cons_self lv _ w cu su (s2.trans hcu) (s3.trans hsu) hT hE s1 H locs ls hP hD hS hl)

theorem c_m_iastore (hJ : c_Jfr K) (hx : p.tables.exec = Jvm.exec) (hb : c.code = cc) (hK : va_K D cl (c_tys dA bk) s) (h : c_step K P O nL own an A pc len (.iastore) = some L) (hd : decode cc pc = .ok (.iastore, len)) (hL : ∀ q ∈ L, c_OK ((p, l, e, R, s, m, args, below, meth, c), (D, cl, dA, AA), (K, O, w0), (cc, nL, Q)) n0 r0 q.1 q.2) : c_OK ((p, l, e, R, s, m, args, below, meth, c), (D, cl, dA, AA), (K, O, w0), (cc, nL, Q)) n0 r0 pc A := by
  unfold c_step at h
  dsimp only at h
  obtain ⟨hn, g⟩ := c_len_inv h
  clear h
  subst hn
  obtain ⟨a, i, o, S, x, B, hst, hx1, hok, hi, hB, rfl⟩ := c_ast_inv g
  intro lv st w cu su hcu hsu hT hE hs H locs ls hP hD hS hl
  obtain ⟨v, ix, y, ss, ce, q0, rfl, hq0, hy1, hform, hin, hlt, hdv, hv⟩ := c_ast_sem hJ hs hT hD hE hst hx1 hi hB
  obtain ⟨r, -, hr⟩ := hs.at
  rw [Bool.and_eq_true] at hok
  have hk := Nat.eq_of_beq_eq_true hok.1
  obtain ⟨z, rfl, -⟩ := c_DVi (hdv r hr) (Nat.eq_of_beq_eq_true hok.2)
  unfold c_form at hform
  rw [hk] at hform
  obtain ⟨f, rfl⟩ := hform
  obtain ⟨s1, s2, s3, s4, s5⟩ := hv (.inl (dA 1, (K.2.1 x.2).2.1, .inl (upd f ix.toNatClampNeg z))) (fun j => by
    show (if j < _ then some _ else none) = _
    by_cases hj : j = ix.toNatClampNeg
    · subst hj
      rw [if_pos hlt, if_pos rfl]
      simp [c_rdA, upd]
    · rw [if_neg hj]
      show _ = if j < _ then some _ else none
      by_cases hj2 : j < (K.2.1 x.2).2.1
      · rw [if_pos hj2, if_pos hj2]
        simp [c_rdA, upd, hj]
      · rw [if_neg hj2, if_neg hj2]) (fun h hh => c_form_inl (q := (dA 1, (K.2.1 x.2).2.1, .inl f)) rfl rfl (Or.inl ⟨_, _, rfl, rfl⟩) hh)
  exact va_iast hx hb hK hP hD hS q0 0 hq0 rfl hin hd (fun H1 locs1 hP1 hD1 hS1 => hL _ List.mem_cons_self lv ss _ cu su (s4.trans hcu) (s5.trans hsu) s2 s3 s1 H1 locs1 ls hP1 hD1 hS1 hl)

theorem c_m_lastore (hJ : c_Jfr K) (hx : p.tables.exec = Jvm.exec) (hb : c.code = cc) (hK : va_K D cl (c_tys dA bk) s) (h : c_step K P O nL own an A pc len (.lastore) = some L) (hd : decode cc pc = .ok (.lastore, len)) (hL : ∀ q ∈ L, c_OK ((p, l, e, R, s, m, args, below, meth, c), (D, cl, dA, AA), (K, O, w0), (cc, nL, Q)) n0 r0 q.1 q.2) : c_OK ((p, l, e, R, s, m, args, below, meth, c), (D, cl, dA, AA), (K, O, w0), (cc, nL, Q)) n0 r0 pc A := by
  unfold c_step at h
  dsimp only at h
  obtain ⟨hn, g⟩ := c_len_inv h
  clear h
  subst hn
  obtain ⟨a, i, o, S, x, B, hst, hx1, hok, hi, hB, rfl⟩ := c_ast_inv g
  intro lv st w cu su hcu hsu hT hE hs H locs ls hP hD hS hl
  obtain ⟨v, ix, y, ss, ce, q0, rfl, hq0, hy1, hform, hin, hlt, hdv, hv⟩ := c_ast_sem hJ hs hT hD hE hst hx1 hi hB
  obtain ⟨r, -, hr⟩ := hs.at
  rw [Bool.and_eq_true] at hok
  have hk := Nat.eq_of_beq_eq_true hok.1
  obtain ⟨z, rfl, -⟩ := c_DVl (hdv r hr) (Nat.eq_of_beq_eq_true hok.2)
  unfold c_form at hform
  rw [hk] at hform
  obtain ⟨f, rfl⟩ := hform
  obtain ⟨s1, s2, s3, s4, s5⟩ := hv (.inl (dA 2, (K.2.1 x.2).2.1, .inr (.inl (vp_updL f ix.toNatClampNeg z)))) (fun j => by
    show (if j < _ then some _ else none) = _
    by_cases hj : j = ix.toNatClampNeg
    · subst hj
      rw [if_pos hlt, if_pos rfl]
      simp [c_rdA, vp_updL]
    · rw [if_neg hj]
      show _ = if j < _ then some _ else none
      by_cases hj2 : j < (K.2.1 x.2).2.1
      · rw [if_pos hj2, if_pos hj2]
        simp [c_rdA, vp_updL, hj]
      · rw [if_neg hj2, if_neg hj2]) (fun h hh => c_form_inl (q := (dA 2, (K.2.1 x.2).2.1, .inr (.inl f))) rfl rfl (Or.inr (Or.inl ⟨_, _, rfl, rfl⟩)) hh)
  exact va_last hx hb hK hP hD hS q0 1 hq0 rfl hin hd (fun H1 locs1 hP1 hD1 hS1 => hL _ List.mem_cons_self lv ss _ cu su (s4.trans hcu) (s5.trans hsu) s2 s3 s1 H1 locs1 ls hP1 hD1 hS1 hl)

theorem c_m_sastore (hJ : c_Jfr K) (hx : p.tables.exec = Jvm.exec) (hb : c.code = cc) (hK : va_K D cl (c_tys dA bk) s) (h : c_step K P O nL own an A pc len (.sastore) = some L) (hd : decode cc pc = .ok (.sastore, len)) (hL : ∀ q ∈ L, c_OK ((p, l, e, R, s, m, args, below, meth, c), (D, cl, dA, AA), (K, O, w0), (cc, nL, Q)) n0 r0 q.1 q.2) : c_OK ((p, l, e, R, s, m, args, below, meth, c), (D, cl, dA, AA), (K, O, w0), (cc, nL, Q)) n0 r0 pc A := by
  unfold c_step at h
  dsimp only at h
  obtain ⟨hn, g⟩ := c_len_inv h
  clear h
  subst hn
  obtain ⟨a, i, o, S, x, B, hst, hx1, hok, hi, hB, rfl⟩ := c_ast_inv g
  intro lv st w cu su hcu hsu hT hE hs H locs ls hP hD hS hl
  obtain ⟨v, ix, y, ss, ce, q0, rfl, hq0, hy1, hform, hin, hlt, hdv, hv⟩ := c_ast_sem hJ hs hT hD hE hst hx1 hi hB
  obtain ⟨r, -, hr⟩ := hs.at
  rw [Bool.and_eq_true, Bool.and_eq_true] at hok
  have hk := Nat.eq_of_beq_eq_true hok.1.1
  obtain ⟨z, rfl, hz⟩ := c_DVi (hdv r hr) (Nat.eq_of_beq_eq_true hok.1.2)
  have hrg := c_in2_ok hr hok.2
  have hnar : vp_nar .short z = z := by
    rw [vp_nar_short]
    apply Int32.toInt_inj.mp
    rw [Int16.toInt_toInt32, Int32.toInt_toInt16]
    exact Int.bmod_eq_of_le (by omega) (by omega)
  unfold c_form at hform
  rw [hk] at hform
  obtain ⟨f, rfl⟩ := hform
  obtain ⟨s1, s2, s3, s4, s5⟩ := hv (.inl (dA 4, (K.2.1 x.2).2.1, .inl (upd f ix.toNatClampNeg (vp_nar .short z)))) (fun j => by
    show (if j < _ then some _ else none) = _
    by_cases hj : j = ix.toNatClampNeg
    · subst hj
      rw [if_pos hlt, if_pos rfl]
      simp [c_rdA, upd, hnar]
    · rw [if_neg hj]
      show _ = if j < _ then some _ else none
      by_cases hj2 : j < (K.2.1 x.2).2.1
      · rw [if_pos hj2, if_pos hj2]
        simp [c_rdA, upd, hnar, hj]
      · rw [if_neg hj2, if_neg hj2]) (fun h hh => c_form_inl (q := (dA 4, (K.2.1 x.2).2.1, .inl f)) rfl rfl (Or.inl ⟨_, _, rfl, rfl⟩) hh)
  exact va_sast hx hb hK hP hD hS q0 3 hq0 rfl hin hd (fun H1 locs1 hP1 hD1 hS1 => hL _ List.mem_cons_self lv ss _ cu su (s4.trans hcu) (s5.trans hsu) s2 s3 s1 H1 locs1 ls hP1 hD1 hS1 hl)

theorem c_m_bastore (hJ : c_Jfr K) (hx : p.tables.exec = Jvm.exec) (hb : c.code = cc) (hK : va_K D cl (c_tys dA bk) s) (h : c_step K P O nL own an A pc len (.bastore) = some L) (hd : decode cc pc = .ok (.bastore, len)) (hL : ∀ q ∈ L, c_OK ((p, l, e, R, s, m, args, below, meth, c), (D, cl, dA, AA), (K, O, w0), (cc, nL, Q)) n0 r0 q.1 q.2) : c_OK ((p, l, e, R, s, m, args, below, meth, c), (D, cl, dA, AA), (K, O, w0), (cc, nL, Q)) n0 r0 pc A := by
  unfold c_step at h
  dsimp only at h
  obtain ⟨hn, g⟩ := c_len_inv h
  clear h
  subst hn
  obtain ⟨a, i, o, S, x, B, hst, hx1, hok, hi, hB, rfl⟩ := c_ast_inv g
  intro lv st w cu su hcu hsu hT hE hs H locs ls hP hD hS hl
  obtain ⟨v, ix, y, ss, ce, q0, rfl, hq0, hy1, hform, hin, hlt, hdv, hv⟩ := c_ast_sem hJ hs hT hD hE hst hx1 hi hB
  obtain ⟨r, -, hr⟩ := hs.at
  rw [Bool.and_eq_true, Bool.or_eq_true] at hok
  obtain ⟨z, rfl, hz⟩ := c_DVi (hdv r hr) (Nat.eq_of_beq_eq_true hok.1)
  rcases hok.2 with hk2 | hk2
  · rw [Bool.and_eq_true] at hk2
    have hk := Nat.eq_of_beq_eq_true hk2.1
    have hrg := c_in2_ok hr hk2.2
    have hnar : vp_nar .byte z = z := by
      rw [vp_nar_byte]
      apply Int32.toInt_inj.mp
      rw [Int8.toInt_toInt32, Int32.toInt_toInt8]
      exact Int.bmod_eq_of_le (by omega) (by omega)
    unfold c_form at hform
    rw [hk] at hform
    obtain ⟨f, rfl⟩ := hform
    obtain ⟨s1, s2, s3, s4, s5⟩ := hv (.inl (dA 3, (K.2.1 x.2).2.1, .inl (upd f ix.toNatClampNeg (vp_nar .byte z)))) (fun j => by
      show (if j < _ then some _ else none) = _
      by_cases hj : j = ix.toNatClampNeg
      · subst hj
        rw [if_pos hlt, if_pos rfl]
        simp [c_rdA, upd, hnar]
      · rw [if_neg hj]
        show _ = if j < _ then some _ else none
        by_cases hj2 : j < (K.2.1 x.2).2.1
        · rw [if_pos hj2, if_pos hj2]
          simp [c_rdA, upd, hnar, hj]
        · rw [if_neg hj2, if_neg hj2]) (fun h hh => c_form_inl (q := (dA 3, (K.2.1 x.2).2.1, .inl f)) rfl rfl (Or.inl ⟨_, _, rfl, rfl⟩) hh)
    exact va_bast hx hb hK hP hD hS q0 2 hq0 rfl hin hd (fun H1 locs1 hP1 hD1 hS1 => hL _ List.mem_cons_self lv ss _ cu su (s4.trans hcu) (s5.trans hsu) s2 s3 s1 H1 locs1 ls hP1 hD1 hS1 hl)
  · rw [Bool.and_eq_true] at hk2
    have hk := Nat.eq_of_beq_eq_true hk2.1
    have hrg := c_in2_ok hr hk2.2
    have hnar : vp_nar .boolean z = z := by
      rcases (show z.toInt = 0 ∨ z.toInt = 1 by omega) with q | q
      · have : z = 0 := (c_eq0 z).mpr q
        subst this
        decide
      · have : z = 1 := Int32.toInt_inj.mp q
        subst this
        decide
    unfold c_form at hform
    rw [hk] at hform
    obtain ⟨f, rfl⟩ := hform
    obtain ⟨s1, s2, s3, s4, s5⟩ := hv (.inl (dA 5, (K.2.1 x.2).2.1, .inl (upd f ix.toNatClampNeg (vp_nar .boolean z)))) (fun j => by
      show (if j < _ then some _ else none) = _
      by_cases hj : j = ix.toNatClampNeg
      · subst hj
        rw [if_pos hlt, if_pos rfl]
        simp [c_rdA, upd, hnar]
      · rw [if_neg hj]
        show _ = if j < _ then some _ else none
        by_cases hj2 : j < (K.2.1 x.2).2.1
        · rw [if_pos hj2, if_pos hj2]
          simp [c_rdA, upd, hnar, hj]
        · rw [if_neg hj2, if_neg hj2]) (fun h hh => c_form_inl (q := (dA 5, (K.2.1 x.2).2.1, .inl f)) rfl rfl (Or.inl ⟨_, _, rfl, rfl⟩) hh)
    exact va_zast hx hb hK hP hD hS q0 4 hq0 rfl hin hd (fun H1 locs1 hP1 hD1 hS1 => hL _ List.mem_cons_self lv ss _ cu su (s4.trans hcu) (s5.trans hsu) s2 s3 s1 H1 locs1 ls hP1 hD1 hS1 hl)

theorem c_m_arraylength (hx : p.tables.exec = Jvm.exec) (hb : c.code = cc) (hK : va_K D cl (c_tys dA bk) s) (h : c_step K P O nL own an A pc len (.arraylength) = some L) (hd : decode cc pc = .ok (.arraylength, len)) (hL : ∀ q ∈ L, c_OK ((p, l, e, R, s, m, args, below, meth, c), (D, cl, dA, AA), (K, O, w0), (cc, nL, Q)) n0 r0 q.1 q.2) : c_OK ((p, l, e, R, s, m, args, below, meth, c), (D, cl, dA, AA), (K, O, w0), (cc, nL, Q)) n0 r0 pc A := by
  unfold c_step at h
  dsimp only at h
  obtain ⟨hn, g⟩ := c_len_inv h
  clear h
  subst hn
  split at g
  · rename_i o S hst
    split at g
    · rename_i x hx1
      split at g
      · rename_i hc
        rw [Bool.and_eq_true, Bool.and_eq_true] at hc
        obtain ⟨⟨c1, c2⟩, c3⟩ := hc
        have c1 := Nat.le_of_ble_eq_true c1
        have c2 := Nat.le_of_ble_eq_true c2
        have c3 := Nat.le_of_ble_eq_true c3
        cases g
        intro lv st w cu su hcu hsu hT hE hs H locs ls hP hD hS hl
        obtain ⟨v, ss, rfl, kk⟩ := c_top1 hs hst
        obtain ⟨y, ce, q0, rfl, hq0, hy1, hform, hy3⟩ := c_obj hs hT hx1 (fun r hr => (kk r hr).1)
        have hlen : ∃ (cA : ClassId) (xa : vp_A) (t0 : Nat) (ty : FieldType), ce = .inl (cA, xa) ∧ xa.1 = (K.2.1 x.2).2.1 ∧ (c_tys dA bk)[t0]? = some (cA, ty) := by
          unfold c_form at hform
          rcases (show (K.2.1 x.2).1 = 1 ∨ (K.2.1 x.2).1 = 2 ∨ (K.2.1 x.2).1 = 3 ∨ (K.2.1 x.2).1 = 4 ∨ (K.2.1 x.2).1 = 5 ∨ (K.2.1 x.2).1 = 6 ∨ (K.2.1 x.2).1 = 7 by omega) with q | q | q | q | q | q | q <;> rw [q] at hform <;> obtain ⟨f, rfl⟩ := hform
          · exact ⟨_, _, 0, _, rfl, rfl, rfl⟩
          · exact ⟨_, _, 1, _, rfl, rfl, rfl⟩
          · exact ⟨_, _, 2, _, rfl, rfl, rfl⟩
          · exact ⟨_, _, 3, _, rfl, rfl, rfl⟩
          · exact ⟨_, _, 4, _, rfl, rfl, rfl⟩
          · exact ⟨_, _, 5, _, rfl, rfl, rfl⟩
          · exact ⟨_, _, 6, _, rfl, rfl, rfl⟩
        obtain ⟨cA, xa, t0, ty, rfl, hx2, ht0⟩ := hlen
        refine va_alen hx hb hK hP q0 t0 hq0 ht0 rfl hd (hL _ List.mem_cons_self lv (.int (Int32.ofNat xa.1) :: ss) w cu su hcu hsu hT hE (hs.setS fun r hr => ⟨⟨_, rfl, ?_⟩, (kk r hr).2⟩) H locs ls hP hD hS hl)
        show _ = c_ev r (c_con _)
        rw [c_ev_con, hx2]
        exact nI_toInt (by omega)
      · cases g
    · cases g
  · cases g

end MA
