/-! making cells -/
/-- the words on array classes -/
def c_acOk (cl : List vw_C) (Z : cStat) (bk : String) : Prop := (∀ ty : FieldType, ty = .int ∨ ty = .long ∨ ty = .byte ∨ ty = .short ∨ ty = .boolean → Jvm.Cond.arrayClass ty ∈ Z.2.2.1) ∧ bk = "MayBoats$Book" ∧ ∃ (T : u_T) (N : Nat), cl[0]? = some (bk, T, N)
section MN
variable {p : Program} {l : Launch} {e : Env} {R : Room} {s : State} {m : MethodId} {args : Array Value} {below : List Frame} {meth : Method} {c : Code} {D : va_G} {cl : List vw_C} {dA : Nat → ClassId} {AA : Nat → Prop} {K : cTab} {O : cCtr} {w0 : cWld} {cc : ByteArray} {nL : Nat} {Q : State → Prop} {n0 : Nat} {r0 : Nat → Int}
  {P : cPrg} {own : Nat} {an : cAnn} {A : cSt} {pc len : Nat} {L : List (Nat × cSt)} {Z : cStat} {bk : String}
theorem c_newA_sem (hJ : c_Jnw K) {lv : List (Nat × Value)} {st : List Value} {w : cWld} {n : Int} {S : List cAV} {t kind : Nat} (hs : c_sat n0 r0 A lv st w) (hT : c_TW K dA w) (hE : c_ext (ct_eff O) (ct_pros O) w0 w) (hst : c_stk A = (0, (n, [])) :: S) (hk : (K.2.1 t).1 = kind) (hn : n = ((K.2.1 t).2.1 : Int)) (hN : (K.2.1 t).2.1 ≤ 100000) {za : cAV} (hz : c_zeroOk K A t (K.2.1 t).2.1 za = true) (hj : c_jt K A t = true) {ce : va_E} (hf : c_form dA (K.2.1 t) ce) {zv : Value} (hd : ∀ r, c_DV r za zv) (hrd : ∀ j v, c_rd ce j = some v → j < (K.2.1 t).2.1 ∧ v = zv) (hz0 : c_zv zv := by first | exact Or.inl rfl | exact Or.inr (Or.inl rfl) | exact Or.inr (Or.inr rfl)) :
    ∃ (x : Int32) (ss : List Value), st = .int x :: ss ∧ ¬ x < 0 ∧ x.toNatClampNeg = (K.2.1 t).2.1 ∧ ∀ q, (∀ y ∈ w.2.1, y.1 ≠ q) → c_sat n0 r0 (c_newR A t S 1 (K.2.1 t).2.1) lv (.ref q :: ss) (c_wN w q t ce) ∧ c_TW K dA (c_wN w q t ce) ∧ c_ext (ct_eff O) (ct_pros O) w0 (c_wN w q t ce) := by
  obtain ⟨x, ss, rfl, kk⟩ := c_topi hs hst rfl
  obtain ⟨r, -, hr⟩ := hs.at
  have h1 : x.toInt = c_ev r ((n, []) : cLin) := (kk r hr).1
  rw [c_ev_nil rfl] at h1
  have h1 : x.toInt = n := h1
  obtain ⟨z1, z2⟩ := c_zeroOk_ok hr (hd r) hz
  refine ⟨x, ss, rfl, ?_, ?_, fun q hq => ⟨hs.newR hq (fun r hr => (kk r hr).2), c_wN_TW hT hq hf (fun j v hv => ?_) z1 (c_jt_ok hJ hr hj _ _ (Or.inr (fun j v hv => by rw [(hrd j v hv).2]; exact hz0))), c_wN_ext hE hq⟩⟩
  · intro h
    have := Int32.lt_iff_toInt_lt.mp h
    have h0 : (0 : Int32).toInt = 0 := by decide
    omega
  · have := c_clamp (x := x) (by omega)
    omega
  · obtain ⟨g1, rfl⟩ := hrd j v hv
    exact z2 j g1

theorem c_m_newarray_int (hJ : c_Jnw K) (hac : c_acOk cl Z bk) (hts : ∀ w ∈ Z.2.2.1, w.before args s = true) (hA : ∀ q, s.heap.size ≤ q → AA q) (hR : ct_mc O ≤ R.cells ∧ ct_ms O ≤ R.slots) (hx : p.tables.exec = Jvm.exec) (hb : c.code = cc) (hK : va_K D cl (c_tys dA bk) s) (h : c_step K P O nL own an A pc len (.newarray .int) = some L) (hd : decode cc pc = .ok (.newarray .int, len)) (hL : ∀ q ∈ L, c_OK ((p, l, e, R, s, m, args, below, meth, c), (D, cl, dA, AA), (K, O, w0), (cc, nL, Q)) n0 r0 q.1 q.2) : c_OK ((p, l, e, R, s, m, args, below, meth, c), (D, cl, dA, AA), (K, O, w0), (cc, nL, Q)) n0 r0 pc A := by
  unfold c_step at h
  dsimp only at h
  obtain ⟨hn, g⟩ := c_len_inv h
  clear h
  subst hn
  obtain ⟨n, S, t, hst, hk, hn, hN, hz, hj, hc1, hc2, rfl⟩ := c_newA_inv g
  intro lv st w cu su hcu hsu hT hE hs H locs ls hP hD hS hl
  obtain ⟨x, ss, rfl, hx0, hx1, kk⟩ := c_newA_sem (dA := dA) (ce := .inl (dA 1, (K.2.1 t).2.1, .inl (fun _ => 0))) (zv := .int 0) hJ hs hT hE hst hk hn hN hz hj (by unfold c_form; rw [hk]; exact ⟨_, rfl⟩) (fun r => ⟨0, rfl, by rw [show (c_dflt _).2 = ((0, []) : cLin) from rfl, c_ev_nil rfl]; rfl⟩) (fun j v hv => by
    by_cases hj : j < (K.2.1 t).2.1
    · refine ⟨hj, ?_⟩
      have hv : (if j < (K.2.1 t).2.1 then some _ else none) = some v := hv
      rw [if_pos hj] at hv
      exact (Option.some.inj hv).symm
    · have hv : (if j < (K.2.1 t).2.1 then some _ else none) = some v := hv
      rw [if_neg hj] at hv
      cases hv)
  subst hcu; subst hsu
  refine va_newa hx hb (hts _ (hac.1 _ (by simp [newarray.typeOf]))) (ty := .int) rfl hK hP hD hS hA (a0 := ((K.2.1 t).2.1, .inl (fun _ => 0))) (fun cA => rfl) hx0 hx1 (Nat.le_trans (Nat.mul_le_mul hN (show componentBytes .int ≤ 8 by decide)) (by decide)) (Nat.le_trans hc1 hR.1) (Nat.le_trans hc2 hR.2) hd fun q cA H1 hK1 hP1 hD1 hS1 => ?_
  have hcA : cA = dA 1 := by
    have e1 : s.vm.findClass ("[" ++ (.int : FieldType).toString) = some (dA 1) := (hK.2 0 _ rfl).2
    have e2 : s.vm.findClass ("[" ++ (.int : FieldType).toString) = some cA := (hK1.2 7 _ rfl).2
    exact Option.some.inj (e2.symm.trans e1)
  subst hcA
  obtain ⟨s1, s2, s3⟩ := kk q (c_D_new hD1)
  exact hL _ List.mem_cons_self lv _ (c_wN w q t _) _ _ rfl rfl s2 s3 s1 H1 locs ls hP1 hD1 hS1 hl

theorem c_m_newarray_long (hJ : c_Jnw K) (hac : c_acOk cl Z bk) (hts : ∀ w ∈ Z.2.2.1, w.before args s = true) (hA : ∀ q, s.heap.size ≤ q → AA q) (hR : ct_mc O ≤ R.cells ∧ ct_ms O ≤ R.slots) (hx : p.tables.exec = Jvm.exec) (hb : c.code = cc) (hK : va_K D cl (c_tys dA bk) s) (h : c_step K P O nL own an A pc len (.newarray .long) = some L) (hd : decode cc pc = .ok (.newarray .long, len)) (hL : ∀ q ∈ L, c_OK ((p, l, e, R, s, m, args, below, meth, c), (D, cl, dA, AA), (K, O, w0), (cc, nL, Q)) n0 r0 q.1 q.2) : c_OK ((p, l, e, R, s, m, args, below, meth, c), (D, cl, dA, AA), (K, O, w0), (cc, nL, Q)) n0 r0 pc A := by
  unfold c_step at h
  dsimp only at h
  obtain ⟨hn, g⟩ := c_len_inv h
  clear h
  subst hn
  obtain ⟨n, S, t, hst, hk, hn, hN, hz, hj, hc1, hc2, rfl⟩ := c_newA_inv g
  intro lv st w cu su hcu hsu hT hE hs H locs ls hP hD hS hl
  obtain ⟨x, ss, rfl, hx0, hx1, kk⟩ := c_newA_sem (dA := dA) (ce := .inl (dA 2, (K.2.1 t).2.1, .inr (.inl (fun _ => 0)))) (zv := .long 0) hJ hs hT hE hst hk hn hN hz hj (by unfold c_form; rw [hk]; exact ⟨_, rfl⟩) (fun r => ⟨0, rfl, by rw [show (c_dflt _).2 = ((0, []) : cLin) from rfl, c_ev_nil rfl]; rfl⟩) (fun j v hv => by
    by_cases hj : j < (K.2.1 t).2.1
    · refine ⟨hj, ?_⟩
      have hv : (if j < (K.2.1 t).2.1 then some _ else none) = some v := hv
      rw [if_pos hj] at hv
      exact (Option.some.inj hv).symm
    · have hv : (if j < (K.2.1 t).2.1 then some _ else none) = some v := hv
      rw [if_neg hj] at hv
      cases hv)
  subst hcu; subst hsu
  refine va_newa hx hb (hts _ (hac.1 _ (by simp [newarray.typeOf]))) (ty := .long) rfl hK hP hD hS hA (a0 := ((K.2.1 t).2.1, .inr (.inl (fun _ => 0)))) (fun cA => rfl) hx0 hx1 (Nat.le_trans (Nat.mul_le_mul hN (show componentBytes .long ≤ 8 by decide)) (by decide)) (Nat.le_trans hc1 hR.1) (Nat.le_trans hc2 hR.2) hd fun q cA H1 hK1 hP1 hD1 hS1 => ?_
  have hcA : cA = dA 2 := by
    have e1 : s.vm.findClass ("[" ++ (.long : FieldType).toString) = some (dA 2) := (hK.2 1 _ rfl).2
    have e2 : s.vm.findClass ("[" ++ (.long : FieldType).toString) = some cA := (hK1.2 7 _ rfl).2
    exact Option.some.inj (e2.symm.trans e1)
  subst hcA
  obtain ⟨s1, s2, s3⟩ := kk q (c_D_new hD1)
  exact hL _ List.mem_cons_self lv _ (c_wN w q t _) _ _ rfl rfl s2 s3 s1 H1 locs ls hP1 hD1 hS1 hl

theorem c_m_newarray_byte (hJ : c_Jnw K) (hac : c_acOk cl Z bk) (hts : ∀ w ∈ Z.2.2.1, w.before args s = true) (hA : ∀ q, s.heap.size ≤ q → AA q) (hR : ct_mc O ≤ R.cells ∧ ct_ms O ≤ R.slots) (hx : p.tables.exec = Jvm.exec) (hb : c.code = cc) (hK : va_K D cl (c_tys dA bk) s) (h : c_step K P O nL own an A pc len (.newarray .byte) = some L) (hd : decode cc pc = .ok (.newarray .byte, len)) (hL : ∀ q ∈ L, c_OK ((p, l, e, R, s, m, args, below, meth, c), (D, cl, dA, AA), (K, O, w0), (cc, nL, Q)) n0 r0 q.1 q.2) : c_OK ((p, l, e, R, s, m, args, below, meth, c), (D, cl, dA, AA), (K, O, w0), (cc, nL, Q)) n0 r0 pc A := by
  unfold c_step at h
  dsimp only at h
  obtain ⟨hn, g⟩ := c_len_inv h
  clear h
  subst hn
  obtain ⟨n, S, t, hst, hk, hn, hN, hz, hj, hc1, hc2, rfl⟩ := c_newA_inv g
  intro lv st w cu su hcu hsu hT hE hs H locs ls hP hD hS hl
  obtain ⟨x, ss, rfl, hx0, hx1, kk⟩ := c_newA_sem (dA := dA) (ce := .inl (dA 3, (K.2.1 t).2.1, .inl (fun _ => 0))) (zv := .int 0) hJ hs hT hE hst hk hn hN hz hj (by unfold c_form; rw [hk]; exact ⟨_, rfl⟩) (fun r => ⟨0, rfl, by rw [show (c_dflt _).2 = ((0, []) : cLin) from rfl, c_ev_nil rfl]; rfl⟩) (fun j v hv => by
    by_cases hj : j < (K.2.1 t).2.1
    · refine ⟨hj, ?_⟩
      have hv : (if j < (K.2.1 t).2.1 then some _ else none) = some v := hv
      rw [if_pos hj] at hv
      exact (Option.some.inj hv).symm
    · have hv : (if j < (K.2.1 t).2.1 then some _ else none) = some v := hv
      rw [if_neg hj] at hv
      cases hv)
  subst hcu; subst hsu
  refine va_newa hx hb (hts _ (hac.1 _ (by simp [newarray.typeOf]))) (ty := .byte) rfl hK hP hD hS hA (a0 := ((K.2.1 t).2.1, .inl (fun _ => 0))) (fun cA => rfl) hx0 hx1 (Nat.le_trans (Nat.mul_le_mul hN (show componentBytes .byte ≤ 8 by decide)) (by decide)) (Nat.le_trans hc1 hR.1) (Nat.le_trans hc2 hR.2) hd fun q cA H1 hK1 hP1 hD1 hS1 => ?_
  have hcA : cA = dA 3 := by
    have e1 : s.vm.findClass ("[" ++ (.byte : FieldType).toString) = some (dA 3) := (hK.2 2 _ rfl).2
    have e2 : s.vm.findClass ("[" ++ (.byte : FieldType).toString) = some cA := (hK1.2 7 _ rfl).2
    exact Option.some.inj (e2.symm.trans e1)
  subst hcA
  obtain ⟨s1, s2, s3⟩ := kk q (c_D_new hD1)
  exact hL _ List.mem_cons_self lv _ (c_wN w q t _) _ _ rfl rfl s2 s3 s1 H1 locs ls hP1 hD1 hS1 hl

theorem c_m_newarray_short (hJ : c_Jnw K) (hac : c_acOk cl Z bk) (hts : ∀ w ∈ Z.2.2.1, w.before args s = true) (hA : ∀ q, s.heap.size ≤ q → AA q) (hR : ct_mc O ≤ R.cells ∧ ct_ms O ≤ R.slots) (hx : p.tables.exec = Jvm.exec) (hb : c.code = cc) (hK : va_K D cl (c_tys dA bk) s) (h : c_step K P O nL own an A pc len (.newarray .short) = some L) (hd : decode cc pc = .ok (.newarray .short, len)) (hL : ∀ q ∈ L, c_OK ((p, l, e, R, s, m, args, below, meth, c), (D, cl, dA, AA), (K, O, w0), (cc, nL, Q)) n0 r0 q.1 q.2) : c_OK ((p, l, e, R, s, m, args, below, meth, c), (D, cl, dA, AA), (K, O, w0), (cc, nL, Q)) n0 r0 pc A := by
  unfold c_step at h
  dsimp only at h
  obtain ⟨hn, g⟩ := c_len_inv h
  clear h
  subst hn
  obtain ⟨n, S, t, hst, hk, hn, hN, hz, hj, hc1, hc2, rfl⟩ := c_newA_inv g
  intro lv st w cu su hcu hsu hT hE hs H locs ls hP hD hS hl
  obtain ⟨x, ss, rfl, hx0, hx1, kk⟩ := c_newA_sem (dA := dA) (ce := .inl (dA 4, (K.2.1 t).2.1, .inl (fun _ => 0))) (zv := .int 0) hJ hs hT hE hst hk hn hN hz hj (by unfold c_form; rw [hk]; exact ⟨_, rfl⟩) (fun r => ⟨0, rfl, by rw [show (c_dflt _).2 = ((0, []) : cLin) from rfl, c_ev_nil rfl]; rfl⟩) (fun j v hv => by
    by_cases hj : j < (K.2.1 t).2.1
    · refine ⟨hj, ?_⟩
      have hv : (if j < (K.2.1 t).2.1 then some _ else none) = some v := hv
      rw [if_pos hj] at hv
      exact (Option.some.inj hv).symm
    · have hv : (if j < (K.2.1 t).2.1 then some _ else none) = some v := hv
      rw [if_neg hj] at hv
      cases hv)
  subst hcu; subst hsu
  refine va_newa hx hb (hts _ (hac.1 _ (by simp [newarray.typeOf]))) (ty := .short) rfl hK hP hD hS hA (a0 := ((K.2.1 t).2.1, .inl (fun _ => 0))) (fun cA => rfl) hx0 hx1 (Nat.le_trans (Nat.mul_le_mul hN (show componentBytes .short ≤ 8 by decide)) (by decide)) (Nat.le_trans hc1 hR.1) (Nat.le_trans hc2 hR.2) hd fun q cA H1 hK1 hP1 hD1 hS1 => ?_
  have hcA : cA = dA 4 := by
    have e1 : s.vm.findClass ("[" ++ (.short : FieldType).toString) = some (dA 4) := (hK.2 3 _ rfl).2
    have e2 : s.vm.findClass ("[" ++ (.short : FieldType).toString) = some cA := (hK1.2 7 _ rfl).2
    exact Option.some.inj (e2.symm.trans e1)
  subst hcA
  obtain ⟨s1, s2, s3⟩ := kk q (c_D_new hD1)
  exact hL _ List.mem_cons_self lv _ (c_wN w q t _) _ _ rfl rfl s2 s3 s1 H1 locs ls hP1 hD1 hS1 hl

theorem c_m_newarray_boolean (hJ : c_Jnw K) (hac : c_acOk cl Z bk) (hts : ∀ w ∈ Z.2.2.1, w.before args s = true) (hA : ∀ q, s.heap.size ≤ q → AA q) (hR : ct_mc O ≤ R.cells ∧ ct_ms O ≤ R.slots) (hx : p.tables.exec = Jvm.exec) (hb : c.code = cc) (hK : va_K D cl (c_tys dA bk) s) (h : c_step K P O nL own an A pc len (.newarray .boolean) = some L) (hd : decode cc pc = .ok (.newarray .boolean, len)) (hL : ∀ q ∈ L, c_OK ((p, l, e, R, s, m, args, below, meth, c), (D, cl, dA, AA), (K, O, w0), (cc, nL, Q)) n0 r0 q.1 q.2) : c_OK ((p, l, e, R, s, m, args, below, meth, c), (D, cl, dA, AA), (K, O, w0), (cc, nL, Q)) n0 r0 pc A := by
  unfold c_step at h
  dsimp only at h
  obtain ⟨hn, g⟩ := c_len_inv h
  clear h
  subst hn
  obtain ⟨n, S, t, hst, hk, hn, hN, hz, hj, hc1, hc2, rfl⟩ := c_newA_inv g
  intro lv st w cu su hcu hsu hT hE hs H locs ls hP hD hS hl
  obtain ⟨x, ss, rfl, hx0, hx1, kk⟩ := c_newA_sem (dA := dA) (ce := .inl (dA 5, (K.2.1 t).2.1, .inl (fun _ => 0))) (zv := .int 0) hJ hs hT hE hst hk hn hN hz hj (by unfold c_form; rw [hk]; exact ⟨_, rfl⟩) (fun r => ⟨0, rfl, by rw [show (c_dflt _).2 = ((0, []) : cLin) from rfl, c_ev_nil rfl]; rfl⟩) (fun j v hv => by
    by_cases hj : j < (K.2.1 t).2.1
    · refine ⟨hj, ?_⟩
      have hv : (if j < (K.2.1 t).2.1 then some _ else none) = some v := hv
      rw [if_pos hj] at hv
      exact (Option.some.inj hv).symm
    · have hv : (if j < (K.2.1 t).2.1 then some _ else none) = some v := hv
      rw [if_neg hj] at hv
      cases hv)
  subst hcu; subst hsu
  refine va_newa hx hb (hts _ (hac.1 _ (by simp [newarray.typeOf]))) (ty := .boolean) rfl hK hP hD hS hA (a0 := ((K.2.1 t).2.1, .inl (fun _ => 0))) (fun cA => rfl) hx0 hx1 (Nat.le_trans (Nat.mul_le_mul hN (show componentBytes .boolean ≤ 8 by decide)) (by decide)) (Nat.le_trans hc1 hR.1) (Nat.le_trans hc2 hR.2) hd fun q cA H1 hK1 hP1 hD1 hS1 => ?_
  have hcA : cA = dA 5 := by
    have e1 : s.vm.findClass ("[" ++ (.boolean : FieldType).toString) = some (dA 5) := (hK.2 4 _ rfl).2
    have e2 : s.vm.findClass ("[" ++ (.boolean : FieldType).toString) = some cA := (hK1.2 7 _ rfl).2
    exact Option.some.inj (e2.symm.trans e1)
  subst hcA
  obtain ⟨s1, s2, s3⟩ := kk q (c_D_new hD1)
  exact hL _ List.mem_cons_self lv _ (c_wN w q t _) _ _ rfl rfl s2 s3 s1 H1 locs ls hP1 hD1 hS1 hl

theorem c_Xi_book {AA : Nat → Prop} {U : State} (h : c_Xi AA U) : va_AO "MayBoats$Book" U := by
  obtain ⟨adK, adV, fm, h1, h2, h5, h6, h7, h8⟩ := h
  exact h7
theorem c_m_anewarray {i : Nat} (hJ : c_Jnw K) (hac : c_acOk cl Z bk) (hts : ∀ w ∈ Z.2.2.1, w.before args s = true) (hA : ∀ q, s.heap.size ≤ q → AA q) (hXi : c_Xi AA s) (hR : ct_mc O ≤ R.cells ∧ ct_ms O ≤ R.slots) (hlk : c_lnkOk P cl Z) (hown : s.vm.findClass (Z.1 own) = some m.cls) (hx : p.tables.exec = Jvm.exec) (hb : c.code = cc) (hK : va_K D cl (c_tys dA bk) s) (h : c_step K P O nL own an A pc len (.anewarray i) = some L) (hd : decode cc pc = .ok (.anewarray i, len)) (hL : ∀ q ∈ L, c_OK ((p, l, e, R, s, m, args, below, meth, c), (D, cl, dA, AA), (K, O, w0), (cc, nL, Q)) n0 r0 q.1 q.2) : c_OK ((p, l, e, R, s, m, args, below, meth, c), (D, cl, dA, AA), (K, O, w0), (cc, nL, Q)) n0 r0 pc A := by
  unfold c_step at h
  dsimp only at h
  obtain ⟨hn, g⟩ := c_len_inv h
  clear h
  subst hn
  split at g
  · rename_i b v hlnk
    obtain ⟨n, S, t, hst, hk, hn, hN, hz, hj, hc1, hc2, rfl⟩ := c_newA_inv g
    intro lv st w cu su hcu hsu hT hE hs H locs ls hP hD hS hl
    obtain ⟨x, ss, rfl, hx0, hx1, kk⟩ := c_newA_sem (dA := dA) (ce := .inl (dA 6, (K.2.1 t).2.1, .inr (.inr (.inr (.inr (fun _ => none)))))) (zv := .null) hJ hs hT hE hst hk hn hN hz hj (by unfold c_form; rw [hk]; exact ⟨_, rfl⟩) (fun r => Or.inl ⟨rfl, by rw [show (c_dflt _).2 = ((-1, []) : cLin) from rfl, c_ev_nil rfl]⟩) (fun j v hv => by
      by_cases hj : j < (K.2.1 t).2.1
      · refine ⟨hj, ?_⟩
        have hv : (if j < (K.2.1 t).2.1 then some _ else none) = some v := hv
        rw [if_pos hj] at hv
        exact (Option.some.inj hv).symm
      · have hv : (if j < (K.2.1 t).2.1 then some _ else none) = some v := hv
        rw [if_neg hj] at hv
        cases hv)
    subst hcu; subst hsu
    obtain ⟨C, T, q1, q2, -⟩ := (hlk _ _ _ _ _ _ hlnk : ∃ (C : String) (T : u_T), cl[0]? = some (C, T, b) ∧ Jvm.Cond.classLink (Z.1 own) i C ∈ Z.2.2.1 ∧ Jvm.Cond.instantiable C b ∈ Z.2.2.1 ∧ Jvm.Cond.initialized C ∈ Z.2.2.1)
    obtain ⟨T', N', q3⟩ := hac.2.2
    have hC : C = bk := by
      rw [q1] at q3
      cases q3
      rfl
    subst hC
    refine va_newq hx hb hown (hts _ q2) (by rw [hac.2.1]; exact c_Xi_book hXi) hK hP hD hS hA hx0 hx1 (by omega) (Nat.le_trans hc1 hR.1) (Nat.le_trans hc2 hR.2) hd fun q cA H1 hK1 hP1 hD1 hS1 => ?_
    have hcA : cA = dA 6 := by
      obtain ⟨k1, c1, a1, a2, a3, a4⟩ := (hK.2 5 _ rfl).2
      obtain ⟨k2, c2, b1, b2, b3, b4⟩ := (hK1.2 7 _ rfl).2
      exact Option.some.inj (b4.symm.trans a4)
    subst hcA
    obtain ⟨s1, s2, s3⟩ := kk q (c_D_new hD1)
    exact hL _ List.mem_cons_self lv _ (c_wN w q t _) _ _ rfl rfl s2 s3 s1 H1 locs ls hP1 hD1 hS1 hl
  · cases g

end MN
