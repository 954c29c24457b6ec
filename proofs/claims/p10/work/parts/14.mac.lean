/-! the machine does what the checker says: instructions without the heap -/
/-- name, code, locals, answer, how it is called (0 virtual, 1 static, 2 constructor) -/
abbrev cMth : Type := MethodName × ByteArray × Nat × Option FieldType × Nat
/-- names of classes; methods; the words that hold at every entry; words on nest mates; their host -/
abbrev cStat : Type := (Nat → String) × (Nat → Option cMth) × List Jvm.Cond × List Jvm.Cond × String
def c_lk (cl : List vw_C) (Z : cStat) (own idx k a b : Nat) (v : Int) : Prop := match k with
  | 0 => ∃ (C : String) (T : u_T) (N : Nat), cl[a]? = some (C, T, N) ∧ b < N ∧ Jvm.Cond.fieldLink (Z.1 own) idx (T b).1 (T b).2.1 (T b).2.2.1 ∈ Z.2.2.1
  | 1 => ∃ M : cMth, Z.2.1 a = some M ∧ Jvm.Cond.methodLink (Z.1 own) idx M.1 ∈ Z.2.2.1 ∧ M.2.2.2.2 = b
  | 2 => ∃ M : cMth, Z.2.1 a = some M ∧ Jvm.Cond.methodLinkNest (Z.1 own) idx M.1 Z.2.2.2.2 ∈ Z.2.2.2.1 ∧ M.2.2.2.2 = b
  | 3 => ∃ (C : String) (T : u_T), cl[a]? = some (C, T, b) ∧ Jvm.Cond.classLink (Z.1 own) idx C ∈ Z.2.2.1 ∧ Jvm.Cond.instantiable C b ∈ Z.2.2.1 ∧ Jvm.Cond.initialized C ∈ Z.2.2.1
  | 4 => Jvm.Cond.constant (Z.1 own) idx (Int32.ofInt v) ∈ Z.2.2.1
  | 9 => Jvm.Cond.constantLong (Z.1 own) idx (Int64.ofInt v) ∈ Z.2.2.1
  | 5 => Jvm.Cond.methodLink (Z.1 own) idx Lib.objectInit ∈ Z.2.2.1
  | 6 => Jvm.Cond.methodLink (Z.1 own) idx arraycopyName ∈ Z.2.2.1
  | 7 => ∃ (C : String) (T : u_T) (N : Nat), cl[0]? = some (C, T, N) ∧ Jvm.Cond.classLink (Z.1 own) idx C ∈ Z.2.2.1
  | _ => True
def c_lnkOk (P : cPrg) (cl : List vw_C) (Z : cStat) : Prop := ∀ (own idx k a b : Nat) (v : Int), P.1 own idx = some (k, a, b, v) → c_lk cl Z own idx k a b v
theorem c_sgn (x y : Int64) : (0 < (lg_cmp x y).toInt ∧ 0 < x.toInt - y.toInt) ∨ ((lg_cmp x y).toInt = 0 ∧ x.toInt - y.toInt = 0) ∨ ((lg_cmp x y).toInt < 0 ∧ x.toInt - y.toInt < 0) := by
  unfold lg_cmp
  by_cases h1 : x > y
  · rw [if_pos h1]
    left
    have : y.toInt < x.toInt := Int64.lt_iff_toInt_lt.mp h1
    exact ⟨by decide, by omega⟩
  · rw [if_neg h1]
    by_cases h2 : x = y
    · rw [if_pos h2]
      right; left
      rw [h2]
      exact ⟨by decide, by omega⟩
    · rw [if_neg h2]
      right; right
      have h3 : ¬ y.toInt < x.toInt := fun q => h1 (Int64.lt_iff_toInt_lt.mpr q)
      have h4 : x.toInt ≠ y.toInt := fun q => h2 (Int64.toInt_inj.mp q)
      exact ⟨by decide, by omega⟩
section MS
variable {p : Program} {l : Launch} {e : Env} {R : Room} {s : State} {m : MethodId} {args : Array Value} {below : List Frame} {meth : Method} {c : Code} {D : va_G} {cl : List vw_C} {dA : Nat → ClassId} {AA : Nat → Prop} {K : cTab} {O : cCtr} {w0 : cWld} {cc : ByteArray} {nL : Nat} {Q : State → Prop} {n0 : Nat} {r0 : Nat → Int}
  {P : cPrg} {own : Nat} {an : cAnn} {A : cSt} {pc len : Nat} {L : List (Nat × cSt)} {Z : cStat}

theorem c_m_iadd  (hx : p.tables.exec = Jvm.exec) (hb : c.code = cc) (h : c_step K P O nL own an A pc len (.iadd) = some L) (hd : decode cc pc = .ok (.iadd, len)) (hL : ∀ q ∈ L, c_OK ((p, l, e, R, s, m, args, below, meth, c), (D, cl, dA, AA), (K, O, w0), (cc, nL, Q)) n0 r0 q.1 q.2) : c_OK ((p, l, e, R, s, m, args, below, meth, c), (D, cl, dA, AA), (K, O, w0), (cc, nL, Q)) n0 r0 pc A := by
  unfold c_step at h
  dsimp only at h
  obtain ⟨hn, g⟩ := c_len_inv h
  clear h
  subst hn
  have h := g
  clear g
  obtain ⟨b, a, S, B, hst, ha, hb', hf, rfl⟩ := c_bin_inv h
  cases hf
  intro lv st w cu su hcu hsu hT hE hs H locs ls hP hD hS hl
  obtain ⟨x, y, ss, rfl, k⟩ := c_topi2 hs hst ha hb'
  refine lv_iadd hx hb hd (hL _ List.mem_cons_self lv _ w cu su ((c_norm_cu ..).1.trans hcu) ((c_norm_cu ..).2.trans hsu) hT hE (hs.norm0 (x + y) (fun r hr h1 h2 => ?_) (fun r hr => (k r hr).2.2)) H locs ls hP hD hS hl)
  rw [c_ev_add] at h1 h2 ⊢
  rw [Int32.toInt_add, (k r hr).1, (k r hr).2.1, c_bm32 h1 h2]

theorem c_m_isub  (hx : p.tables.exec = Jvm.exec) (hb : c.code = cc) (h : c_step K P O nL own an A pc len (.isub) = some L) (hd : decode cc pc = .ok (.isub, len)) (hL : ∀ q ∈ L, c_OK ((p, l, e, R, s, m, args, below, meth, c), (D, cl, dA, AA), (K, O, w0), (cc, nL, Q)) n0 r0 q.1 q.2) : c_OK ((p, l, e, R, s, m, args, below, meth, c), (D, cl, dA, AA), (K, O, w0), (cc, nL, Q)) n0 r0 pc A := by
  unfold c_step at h
  dsimp only at h
  obtain ⟨hn, g⟩ := c_len_inv h
  clear h
  subst hn
  have h := g
  clear g
  obtain ⟨b, a, S, B, hst, ha, hb', hf, rfl⟩ := c_bin_inv h
  cases hf
  intro lv st w cu su hcu hsu hT hE hs H locs ls hP hD hS hl
  obtain ⟨x, y, ss, rfl, k⟩ := c_topi2 hs hst ha hb'
  refine lv_isub hx hb hd (hL _ List.mem_cons_self lv _ w cu su ((c_norm_cu ..).1.trans hcu) ((c_norm_cu ..).2.trans hsu) hT hE (hs.norm0 (x - y) (fun r hr h1 h2 => ?_) (fun r hr => (k r hr).2.2)) H locs ls hP hD hS hl)
  rw [c_ev_sub] at h1 h2 ⊢
  rw [Int32.toInt_sub, (k r hr).1, (k r hr).2.1, c_bm32 h1 h2]

theorem c_m_ladd  (hx : p.tables.exec = Jvm.exec) (hb : c.code = cc) (h : c_step K P O nL own an A pc len (.ladd) = some L) (hd : decode cc pc = .ok (.ladd, len)) (hL : ∀ q ∈ L, c_OK ((p, l, e, R, s, m, args, below, meth, c), (D, cl, dA, AA), (K, O, w0), (cc, nL, Q)) n0 r0 q.1 q.2) : c_OK ((p, l, e, R, s, m, args, below, meth, c), (D, cl, dA, AA), (K, O, w0), (cc, nL, Q)) n0 r0 pc A := by
  unfold c_step at h
  dsimp only at h
  obtain ⟨hn, g⟩ := c_len_inv h
  clear h
  subst hn
  have h := g
  clear g
  obtain ⟨b, a, S, B, hst, ha, hb', hf, rfl⟩ := c_bin_inv h
  cases hf
  intro lv st w cu su hcu hsu hT hE hs H locs ls hP hD hS hl
  obtain ⟨x, y, ss, rfl, k⟩ := c_topl2 hs hst ha hb'
  refine lv_ladd hx hb hd (hL _ List.mem_cons_self lv _ w cu su ((c_norm_cu ..).1.trans hcu) ((c_norm_cu ..).2.trans hsu) hT hE (hs.norm1 (x + y) (fun r hr h1 h2 => ?_) (fun r hr => (k r hr).2.2)) H locs ls hP hD hS hl)
  rw [c_ev_add] at h1 h2 ⊢
  rw [Int64.toInt_add, (k r hr).1, (k r hr).2.1, c_bm64 h1 h2]

theorem c_m_lsub  (hx : p.tables.exec = Jvm.exec) (hb : c.code = cc) (h : c_step K P O nL own an A pc len (.lsub) = some L) (hd : decode cc pc = .ok (.lsub, len)) (hL : ∀ q ∈ L, c_OK ((p, l, e, R, s, m, args, below, meth, c), (D, cl, dA, AA), (K, O, w0), (cc, nL, Q)) n0 r0 q.1 q.2) : c_OK ((p, l, e, R, s, m, args, below, meth, c), (D, cl, dA, AA), (K, O, w0), (cc, nL, Q)) n0 r0 pc A := by
  unfold c_step at h
  dsimp only at h
  obtain ⟨hn, g⟩ := c_len_inv h
  clear h
  subst hn
  have h := g
  clear g
  obtain ⟨b, a, S, B, hst, ha, hb', hf, rfl⟩ := c_bin_inv h
  cases hf
  intro lv st w cu su hcu hsu hT hE hs H locs ls hP hD hS hl
  obtain ⟨x, y, ss, rfl, k⟩ := c_topl2 hs hst ha hb'
  refine lv_lsub hx hb hd (hL _ List.mem_cons_self lv _ w cu su ((c_norm_cu ..).1.trans hcu) ((c_norm_cu ..).2.trans hsu) hT hE (hs.norm1 (x - y) (fun r hr h1 h2 => ?_) (fun r hr => (k r hr).2.2)) H locs ls hP hD hS hl)
  rw [c_ev_sub] at h1 h2 ⊢
  rw [Int64.toInt_sub, (k r hr).1, (k r hr).2.1, c_bm64 h1 h2]

theorem c_m_imul  (hx : p.tables.exec = Jvm.exec) (hb : c.code = cc) (h : c_step K P O nL own an A pc len (.imul) = some L) (hd : decode cc pc = .ok (.imul, len)) (hL : ∀ q ∈ L, c_OK ((p, l, e, R, s, m, args, below, meth, c), (D, cl, dA, AA), (K, O, w0), (cc, nL, Q)) n0 r0 q.1 q.2) : c_OK ((p, l, e, R, s, m, args, below, meth, c), (D, cl, dA, AA), (K, O, w0), (cc, nL, Q)) n0 r0 pc A := by
  unfold c_step at h
  dsimp only at h
  obtain ⟨hn, g⟩ := c_len_inv h
  clear h
  subst hn
  have h := g
  clear g
  obtain ⟨b, a, S, B, hst, ha, hb', hf, rfl⟩ := c_bin_inv h
  cases hf
  intro lv st w cu su hcu hsu hT hE hs H locs ls hP hD hS hl
  obtain ⟨x, y, ss, rfl, k⟩ := c_topi2 hs hst ha hb'
  refine lv_imul hx hb hd (hL _ List.mem_cons_self lv _ w cu su ((c_mulx_cu ..).1.trans hcu) ((c_mulx_cu ..).2.trans hsu) hT hE (hs.mulx0 x y k) H locs ls hP hD hS hl)

theorem c_m_lmul  (hx : p.tables.exec = Jvm.exec) (hb : c.code = cc) (h : c_step K P O nL own an A pc len (.lmul) = some L) (hd : decode cc pc = .ok (.lmul, len)) (hL : ∀ q ∈ L, c_OK ((p, l, e, R, s, m, args, below, meth, c), (D, cl, dA, AA), (K, O, w0), (cc, nL, Q)) n0 r0 q.1 q.2) : c_OK ((p, l, e, R, s, m, args, below, meth, c), (D, cl, dA, AA), (K, O, w0), (cc, nL, Q)) n0 r0 pc A := by
  unfold c_step at h
  dsimp only at h
  obtain ⟨hn, g⟩ := c_len_inv h
  clear h
  subst hn
  have h := g
  clear g
  obtain ⟨b, a, S, B, hst, ha, hb', hf, rfl⟩ := c_bin_inv h
  cases hf
  intro lv st w cu su hcu hsu hT hE hs H locs ls hP hD hS hl
  obtain ⟨x, y, ss, rfl, k⟩ := c_topl2 hs hst ha hb'
  refine lv_lmul hx hb hd (hL _ List.mem_cons_self lv _ w cu su ((c_mulx_cu ..).1.trans hcu) ((c_mulx_cu ..).2.trans hsu) hT hE (hs.mulx1 x y k) H locs ls hP hD hS hl)

theorem c_m_iand0 (hx : p.tables.exec = Jvm.exec) (hb : c.code = cc) (h : c_bin A (pc + 1) 0 (fun x y S => some (c_andx A x y S)) = some L) (hd : decode cc pc = .ok (.iand, 1)) (hL : ∀ q ∈ L, c_OK ((p, l, e, R, s, m, args, below, meth, c), (D, cl, dA, AA), (K, O, w0), (cc, nL, Q)) n0 r0 q.1 q.2) : c_OK ((p, l, e, R, s, m, args, below, meth, c), (D, cl, dA, AA), (K, O, w0), (cc, nL, Q)) n0 r0 pc A := by
  obtain ⟨b, a, S, B, hst, ha, hb', hf, rfl⟩ := c_bin_inv h
  cases hf
  intro lv st w cu su hcu hsu hT hE hs H locs ls hP hD hS hl
  obtain ⟨x, y, ss, rfl, k⟩ := c_topi2 hs hst ha hb'
  refine lv_iand hx hb hd (hL _ List.mem_cons_self lv _ w cu su ((c_andx_cu ..).1.trans hcu) ((c_andx_cu ..).2.trans hsu) hT hE (hs.andx x y k) H locs ls hP hD hS hl)

theorem c_m_ior  (hx : p.tables.exec = Jvm.exec) (hb : c.code = cc) (h : c_step K P O nL own an A pc len (.ior) = some L) (hd : decode cc pc = .ok (.ior, len)) (hL : ∀ q ∈ L, c_OK ((p, l, e, R, s, m, args, below, meth, c), (D, cl, dA, AA), (K, O, w0), (cc, nL, Q)) n0 r0 q.1 q.2) : c_OK ((p, l, e, R, s, m, args, below, meth, c), (D, cl, dA, AA), (K, O, w0), (cc, nL, Q)) n0 r0 pc A := by
  unfold c_step at h
  dsimp only at h
  obtain ⟨hn, g⟩ := c_len_inv h
  clear h
  subst hn
  have h := g
  clear g
  obtain ⟨b, a, S, B, hst, ha, hb', hf, rfl⟩ := c_bin_inv h
  cases hf
  intro lv st w cu su hcu hsu hT hE hs H locs ls hP hD hS hl
  obtain ⟨x, y, ss, rfl, k⟩ := c_topi2 hs hst ha hb'
  refine lv_ior hx hb hd (hL _ List.mem_cons_self lv _ w cu su ((c_orx_cu ..).1.trans hcu) ((c_orx_cu ..).2.trans hsu) hT hE (hs.orx x y k) H locs ls hP hD hS hl)

theorem c_m_ishl  (hx : p.tables.exec = Jvm.exec) (hb : c.code = cc) (h : c_step K P O nL own an A pc len (.ishl) = some L) (hd : decode cc pc = .ok (.ishl, len)) (hL : ∀ q ∈ L, c_OK ((p, l, e, R, s, m, args, below, meth, c), (D, cl, dA, AA), (K, O, w0), (cc, nL, Q)) n0 r0 q.1 q.2) : c_OK ((p, l, e, R, s, m, args, below, meth, c), (D, cl, dA, AA), (K, O, w0), (cc, nL, Q)) n0 r0 pc A := by
  unfold c_step at h
  dsimp only at h
  obtain ⟨hn, g⟩ := c_len_inv h
  clear h
  subst hn
  have h := g
  clear g
  obtain ⟨b, a, S, B, hst, ha, hb', hf, rfl⟩ := c_bin_inv h
  cases hf
  intro lv st w cu su hcu hsu hT hE hs H locs ls hP hD hS hl
  obtain ⟨x, y, ss, rfl, k⟩ := c_topi2 hs hst ha hb'
  refine lv_ishl hx hb hd (hL _ List.mem_cons_self lv _ w cu su ((c_shlx_cu ..).1.trans hcu) ((c_shlx_cu ..).2.trans hsu) hT hE (hs.shlx x y k) H locs ls hP hD hS hl)

theorem c_m_ixor  (hx : p.tables.exec = Jvm.exec) (hb : c.code = cc) (h : c_step K P O nL own an A pc len (.ixor) = some L) (hd : decode cc pc = .ok (.ixor, len)) (hL : ∀ q ∈ L, c_OK ((p, l, e, R, s, m, args, below, meth, c), (D, cl, dA, AA), (K, O, w0), (cc, nL, Q)) n0 r0 q.1 q.2) : c_OK ((p, l, e, R, s, m, args, below, meth, c), (D, cl, dA, AA), (K, O, w0), (cc, nL, Q)) n0 r0 pc A := by
  unfold c_step at h
  dsimp only at h
  obtain ⟨hn, g⟩ := c_len_inv h
  clear h
  subst hn
  have h := g
  clear g
  obtain ⟨b, a, S, B, hst, ha, hb', hf, rfl⟩ := c_bin_inv h
  cases hf
  intro lv st w cu su hcu hsu hT hE hs H locs ls hP hD hS hl
  obtain ⟨x, y, ss, rfl, k⟩ := c_topi2 hs hst ha hb'
  refine lv_ixor hx hb hd (hL _ List.mem_cons_self lv _ w cu su (hcu) (hsu) hT hE (hs.fr0 _ (c_i32 _).1 (c_i32 _).2 (fun r hr => (k r hr).2.2)) H locs ls hP hD hS hl)

theorem c_m_ishr  (hx : p.tables.exec = Jvm.exec) (hb : c.code = cc) (h : c_step K P O nL own an A pc len (.ishr) = some L) (hd : decode cc pc = .ok (.ishr, len)) (hL : ∀ q ∈ L, c_OK ((p, l, e, R, s, m, args, below, meth, c), (D, cl, dA, AA), (K, O, w0), (cc, nL, Q)) n0 r0 q.1 q.2) : c_OK ((p, l, e, R, s, m, args, below, meth, c), (D, cl, dA, AA), (K, O, w0), (cc, nL, Q)) n0 r0 pc A := by
  unfold c_step at h
  dsimp only at h
  obtain ⟨hn, g⟩ := c_len_inv h
  clear h
  subst hn
  have h := g
  clear g
  obtain ⟨b, a, S, B, hst, ha, hb', hf, rfl⟩ := c_bin_inv h
  cases hf
  intro lv st w cu su hcu hsu hT hE hs H locs ls hP hD hS hl
  obtain ⟨x, y, ss, rfl, k⟩ := c_topi2 hs hst ha hb'
  refine lv_ishr hx hb hd (hL _ List.mem_cons_self lv _ w cu su (hcu) (hsu) hT hE (hs.fr0 _ (c_i32 _).1 (c_i32 _).2 (fun r hr => (k r hr).2.2)) H locs ls hP hD hS hl)

theorem c_m_lxor  (hx : p.tables.exec = Jvm.exec) (hb : c.code = cc) (h : c_step K P O nL own an A pc len (.lxor) = some L) (hd : decode cc pc = .ok (.lxor, len)) (hL : ∀ q ∈ L, c_OK ((p, l, e, R, s, m, args, below, meth, c), (D, cl, dA, AA), (K, O, w0), (cc, nL, Q)) n0 r0 q.1 q.2) : c_OK ((p, l, e, R, s, m, args, below, meth, c), (D, cl, dA, AA), (K, O, w0), (cc, nL, Q)) n0 r0 pc A := by
  unfold c_step at h
  dsimp only at h
  obtain ⟨hn, g⟩ := c_len_inv h
  clear h
  subst hn
  have h := g
  clear g
  obtain ⟨b, a, S, B, hst, ha, hb', hf, rfl⟩ := c_bin_inv h
  cases hf
  intro lv st w cu su hcu hsu hT hE hs H locs ls hP hD hS hl
  obtain ⟨x, y, ss, rfl, k⟩ := c_topl2 hs hst ha hb'
  refine lv_lxor hx hb hd (hL _ List.mem_cons_self lv _ w cu su (hcu) (hsu) hT hE (hs.fr1 _ (c_i64 _).1 (c_i64 _).2 (fun r hr => (k r hr).2.2)) H locs ls hP hD hS hl)

theorem c_m_idiv  (hx : p.tables.exec = Jvm.exec) (hb : c.code = cc) (h : c_step K P O nL own an A pc len (.idiv) = some L) (hd : decode cc pc = .ok (.idiv, len)) (hL : ∀ q ∈ L, c_OK ((p, l, e, R, s, m, args, below, meth, c), (D, cl, dA, AA), (K, O, w0), (cc, nL, Q)) n0 r0 q.1 q.2) : c_OK ((p, l, e, R, s, m, args, below, meth, c), (D, cl, dA, AA), (K, O, w0), (cc, nL, Q)) n0 r0 pc A := by
  unfold c_step at h
  dsimp only at h
  obtain ⟨hn, g⟩ := c_len_inv h
  clear h
  subst hn
  have h := g
  clear g
  obtain ⟨b, a, S, B, hst, ha, hb', hf, rfl⟩ := c_bin_inv h
  split at hf
  · rename_i hnz
    cases hf
    intro lv st w cu su hcu hsu hT hE hs H locs ls hP hD hS hl
    obtain ⟨x, y, ss, rfl, k⟩ := c_topi2 hs hst ha hb'
    obtain ⟨r, -, hr⟩ := hs.at
    have hne : ¬ y = 0 := by
      rw [c_eq0, (k r hr).2.1]
      exact c_nz_ok hr hnz
    exact lv_idiv hx hb hd hne (hL _ List.mem_cons_self lv _ w cu su hcu hsu hT hE (hs.fr0 _ (c_i32 _).1 (c_i32 _).2 (fun r hr => (k r hr).2.2)) H locs ls hP hD hS hl)
  · cases hf

theorem c_m_irem  (hx : p.tables.exec = Jvm.exec) (hb : c.code = cc) (h : c_step K P O nL own an A pc len (.irem) = some L) (hd : decode cc pc = .ok (.irem, len)) (hL : ∀ q ∈ L, c_OK ((p, l, e, R, s, m, args, below, meth, c), (D, cl, dA, AA), (K, O, w0), (cc, nL, Q)) n0 r0 q.1 q.2) : c_OK ((p, l, e, R, s, m, args, below, meth, c), (D, cl, dA, AA), (K, O, w0), (cc, nL, Q)) n0 r0 pc A := by
  unfold c_step at h
  dsimp only at h
  obtain ⟨hn, g⟩ := c_len_inv h
  clear h
  subst hn
  have h := g
  clear g
  obtain ⟨b, a, S, B, hst, ha, hb', hf, rfl⟩ := c_bin_inv h
  split at hf
  · rename_i hnz
    cases hf
    intro lv st w cu su hcu hsu hT hE hs H locs ls hP hD hS hl
    obtain ⟨x, y, ss, rfl, k⟩ := c_topi2 hs hst ha hb'
    obtain ⟨r, -, hr⟩ := hs.at
    have hne : ¬ y = 0 := by
      rw [c_eq0, (k r hr).2.1]
      exact c_nz_ok hr hnz
    exact lv_irem hx hb hd hne (hL _ List.mem_cons_self lv _ w cu su hcu hsu hT hE (hs.fr0 _ (c_i32 _).1 (c_i32 _).2 (fun r hr => (k r hr).2.2)) H locs ls hP hD hS hl)
  · cases hf

theorem c_m_ldiv  (hx : p.tables.exec = Jvm.exec) (hb : c.code = cc) (h : c_step K P O nL own an A pc len (.ldiv) = some L) (hd : decode cc pc = .ok (.ldiv, len)) (hL : ∀ q ∈ L, c_OK ((p, l, e, R, s, m, args, below, meth, c), (D, cl, dA, AA), (K, O, w0), (cc, nL, Q)) n0 r0 q.1 q.2) : c_OK ((p, l, e, R, s, m, args, below, meth, c), (D, cl, dA, AA), (K, O, w0), (cc, nL, Q)) n0 r0 pc A := by
  unfold c_step at h
  dsimp only at h
  obtain ⟨hn, g⟩ := c_len_inv h
  clear h
  subst hn
  have h := g
  clear g
  obtain ⟨b, a, S, B, hst, ha, hb', hf, rfl⟩ := c_bin_inv h
  split at hf
  · rename_i hnz
    cases hf
    intro lv st w cu su hcu hsu hT hE hs H locs ls hP hD hS hl
    obtain ⟨x, y, ss, rfl, k⟩ := c_topl2 hs hst ha hb'
    obtain ⟨r, -, hr⟩ := hs.at
    have hne : ¬ y = 0 := by
      rw [c_eq0l, (k r hr).2.1]
      exact c_nz_ok hr hnz
    exact lv_ldiv hx hb hd hne (hL _ List.mem_cons_self lv _ w cu su hcu hsu hT hE (hs.fr1 _ (c_i64 _).1 (c_i64 _).2 (fun r hr => (k r hr).2.2)) H locs ls hP hD hS hl)
  · cases hf

theorem c_m_lrem  (hx : p.tables.exec = Jvm.exec) (hb : c.code = cc) (h : c_step K P O nL own an A pc len (.lrem) = some L) (hd : decode cc pc = .ok (.lrem, len)) (hL : ∀ q ∈ L, c_OK ((p, l, e, R, s, m, args, below, meth, c), (D, cl, dA, AA), (K, O, w0), (cc, nL, Q)) n0 r0 q.1 q.2) : c_OK ((p, l, e, R, s, m, args, below, meth, c), (D, cl, dA, AA), (K, O, w0), (cc, nL, Q)) n0 r0 pc A := by
  unfold c_step at h
  dsimp only at h
  obtain ⟨hn, g⟩ := c_len_inv h
  clear h
  subst hn
  have h := g
  clear g
  obtain ⟨b, a, S, B, hst, ha, hb', hf, rfl⟩ := c_bin_inv h
  split at hf
  · rename_i hnz
    cases hf
    intro lv st w cu su hcu hsu hT hE hs H locs ls hP hD hS hl
    obtain ⟨x, y, ss, rfl, k⟩ := c_topl2 hs hst ha hb'
    obtain ⟨r, -, hr⟩ := hs.at
    have hne : ¬ y = 0 := by
      rw [c_eq0l, (k r hr).2.1]
      exact c_nz_ok hr hnz
    exact lv_lrem hx hb hd hne (hL _ List.mem_cons_self lv _ w cu su hcu hsu hT hE (hs.fr1 _ (c_i64 _).1 (c_i64 _).2 (fun r hr => (k r hr).2.2)) H locs ls hP hD hS hl)
  · cases hf

theorem c_m_ineg  (hx : p.tables.exec = Jvm.exec) (hb : c.code = cc) (h : c_step K P O nL own an A pc len (.ineg) = some L) (hd : decode cc pc = .ok (.ineg, len)) (hL : ∀ q ∈ L, c_OK ((p, l, e, R, s, m, args, below, meth, c), (D, cl, dA, AA), (K, O, w0), (cc, nL, Q)) n0 r0 q.1 q.2) : c_OK ((p, l, e, R, s, m, args, below, meth, c), (D, cl, dA, AA), (K, O, w0), (cc, nL, Q)) n0 r0 pc A := by
  unfold c_step at h
  dsimp only at h
  obtain ⟨hn, g⟩ := c_len_inv h
  clear h
  subst hn
  have h := g
  clear g
  obtain ⟨a, S, B, hst, ha, hf, rfl⟩ := c_un_inv h
  cases hf
  intro lv st w cu su hcu hsu hT hE hs H locs ls hP hD hS hl
  obtain ⟨x, ss, rfl, k⟩ := c_topi hs hst ha
  refine lv_ineg hx hb hd (hL _ List.mem_cons_self lv _ w cu su ((c_norm_cu ..).1.trans hcu) ((c_norm_cu ..).2.trans hsu) hT hE (hs.norm0 (-x) (fun r hr h1 h2 => ?_) (fun r hr => (k r hr).2)) H locs ls hP hD hS hl)
  rw [c_ev_mul] at h1 h2 ⊢
  rw [Int32.toInt_neg, (k r hr).1, show -c_ev r a.2 = -1 * c_ev r a.2 by omega, c_bm32 h1 h2]

theorem c_m_lneg  (hx : p.tables.exec = Jvm.exec) (hb : c.code = cc) (h : c_step K P O nL own an A pc len (.lneg) = some L) (hd : decode cc pc = .ok (.lneg, len)) (hL : ∀ q ∈ L, c_OK ((p, l, e, R, s, m, args, below, meth, c), (D, cl, dA, AA), (K, O, w0), (cc, nL, Q)) n0 r0 q.1 q.2) : c_OK ((p, l, e, R, s, m, args, below, meth, c), (D, cl, dA, AA), (K, O, w0), (cc, nL, Q)) n0 r0 pc A := by
  unfold c_step at h
  dsimp only at h
  obtain ⟨hn, g⟩ := c_len_inv h
  clear h
  subst hn
  have h := g
  clear g
  obtain ⟨a, S, B, hst, ha, hf, rfl⟩ := c_un_inv h
  cases hf
  intro lv st w cu su hcu hsu hT hE hs H locs ls hP hD hS hl
  obtain ⟨x, ss, rfl, k⟩ := c_topl hs hst ha
  refine lv_lneg hx hb hd (hL _ List.mem_cons_self lv _ w cu su ((c_norm_cu ..).1.trans hcu) ((c_norm_cu ..).2.trans hsu) hT hE (hs.norm1 (-x) (fun r hr h1 h2 => ?_) (fun r hr => (k r hr).2)) H locs ls hP hD hS hl)
  rw [c_ev_mul] at h1 h2 ⊢
  rw [Int64.toInt_neg, (k r hr).1, show -c_ev r a.2 = -1 * c_ev r a.2 by omega, c_bm64 h1 h2]

theorem c_m_i2l  (hx : p.tables.exec = Jvm.exec) (hb : c.code = cc) (h : c_step K P O nL own an A pc len (.i2l) = some L) (hd : decode cc pc = .ok (.i2l, len)) (hL : ∀ q ∈ L, c_OK ((p, l, e, R, s, m, args, below, meth, c), (D, cl, dA, AA), (K, O, w0), (cc, nL, Q)) n0 r0 q.1 q.2) : c_OK ((p, l, e, R, s, m, args, below, meth, c), (D, cl, dA, AA), (K, O, w0), (cc, nL, Q)) n0 r0 pc A := by
  unfold c_step at h
  dsimp only at h
  obtain ⟨hn, g⟩ := c_len_inv h
  clear h
  subst hn
  have h := g
  clear g
  obtain ⟨a, S, B, hst, ha, hf, rfl⟩ := c_un_inv h
  cases hf
  intro lv st w cu su hcu hsu hT hE hs H locs ls hP hD hS hl
  obtain ⟨x, ss, rfl, k⟩ := c_topi hs hst ha
  refine lv_i2l (v := x.toInt64) hx hb hd rfl (hL _ List.mem_cons_self lv (.long x.toInt64 :: ss) w cu su (hcu) (hsu) hT hE (hs.setS fun r hr => ⟨⟨x.toInt64, rfl, by rw [Int32.toInt_toInt64]; exact (k r hr).1⟩, (k r hr).2⟩) H locs ls hP hD hS hl)

theorem c_m_l2i  (hx : p.tables.exec = Jvm.exec) (hb : c.code = cc) (h : c_step K P O nL own an A pc len (.l2i) = some L) (hd : decode cc pc = .ok (.l2i, len)) (hL : ∀ q ∈ L, c_OK ((p, l, e, R, s, m, args, below, meth, c), (D, cl, dA, AA), (K, O, w0), (cc, nL, Q)) n0 r0 q.1 q.2) : c_OK ((p, l, e, R, s, m, args, below, meth, c), (D, cl, dA, AA), (K, O, w0), (cc, nL, Q)) n0 r0 pc A := by
  unfold c_step at h
  dsimp only at h
  obtain ⟨hn, g⟩ := c_len_inv h
  clear h
  subst hn
  have h := g
  clear g
  obtain ⟨a, S, B, hst, ha, hf, rfl⟩ := c_un_inv h
  cases hf
  intro lv st w cu su hcu hsu hT hE hs H locs ls hP hD hS hl
  obtain ⟨x, ss, rfl, k⟩ := c_topl hs hst ha
  refine lv_l2i (v := x.toInt32) hx hb hd rfl (hL _ List.mem_cons_self lv _ w cu su ((c_cutx_cu ..).1.trans hcu) ((c_cutx_cu ..).2.trans hsu) hT hE (hs.cutx x.toInt32 (fun r hr h1 h2 => ?_) (c_i32 _).1 (c_i32 _).2 (fun r hr => (k r hr).2)) H locs ls hP hD hS hl)
  rw [Int64.toInt_toInt32, (k r hr).1]
  exact c_bm32 h1 h2

theorem c_m_i2b  (hx : p.tables.exec = Jvm.exec) (hb : c.code = cc) (h : c_step K P O nL own an A pc len (.i2b) = some L) (hd : decode cc pc = .ok (.i2b, len)) (hL : ∀ q ∈ L, c_OK ((p, l, e, R, s, m, args, below, meth, c), (D, cl, dA, AA), (K, O, w0), (cc, nL, Q)) n0 r0 q.1 q.2) : c_OK ((p, l, e, R, s, m, args, below, meth, c), (D, cl, dA, AA), (K, O, w0), (cc, nL, Q)) n0 r0 pc A := by
  unfold c_step at h
  dsimp only at h
  obtain ⟨hn, g⟩ := c_len_inv h
  clear h
  subst hn
  have h := g
  clear g
  obtain ⟨a, S, B, hst, ha, hf, rfl⟩ := c_un_inv h
  cases hf
  intro lv st w cu su hcu hsu hT hE hs H locs ls hP hD hS hl
  obtain ⟨x, ss, rfl, k⟩ := c_topi hs hst ha
  refine lv_i2b (v := x.toInt8.toInt32) hx hb hd rfl (hL _ List.mem_cons_self lv _ w cu su ((c_cutx_cu ..).1.trans hcu) ((c_cutx_cu ..).2.trans hsu) hT hE (hs.cutx x.toInt8.toInt32 (fun r hr h1 h2 => ?_) (by rw [Int8.toInt_toInt32]; exact x.toInt8.le_toInt) (by rw [Int8.toInt_toInt32]; have := x.toInt8.toInt_lt; omega) (fun r hr => (k r hr).2)) H locs ls hP hD hS hl)
  rw [Int8.toInt_toInt32, Int32.toInt_toInt8, (k r hr).1]
  exact Int.bmod_eq_of_le (by omega) (by omega)

theorem c_m_i2s  (hx : p.tables.exec = Jvm.exec) (hb : c.code = cc) (h : c_step K P O nL own an A pc len (.i2s) = some L) (hd : decode cc pc = .ok (.i2s, len)) (hL : ∀ q ∈ L, c_OK ((p, l, e, R, s, m, args, below, meth, c), (D, cl, dA, AA), (K, O, w0), (cc, nL, Q)) n0 r0 q.1 q.2) : c_OK ((p, l, e, R, s, m, args, below, meth, c), (D, cl, dA, AA), (K, O, w0), (cc, nL, Q)) n0 r0 pc A := by
  unfold c_step at h
  dsimp only at h
  obtain ⟨hn, g⟩ := c_len_inv h
  clear h
  subst hn
  have h := g
  clear g
  obtain ⟨a, S, B, hst, ha, hf, rfl⟩ := c_un_inv h
  cases hf
  intro lv st w cu su hcu hsu hT hE hs H locs ls hP hD hS hl
  obtain ⟨x, ss, rfl, k⟩ := c_topi hs hst ha
  refine lv_i2s (v := x.toInt16.toInt32) hx hb hd rfl (hL _ List.mem_cons_self lv _ w cu su ((c_cutx_cu ..).1.trans hcu) ((c_cutx_cu ..).2.trans hsu) hT hE (hs.cutx x.toInt16.toInt32 (fun r hr h1 h2 => ?_) (by rw [Int16.toInt_toInt32]; exact x.toInt16.le_toInt) (by rw [Int16.toInt_toInt32]; have := x.toInt16.toInt_lt; omega) (fun r hr => (k r hr).2)) H locs ls hP hD hS hl)
  rw [Int16.toInt_toInt32, Int32.toInt_toInt16, (k r hr).1]
  exact Int.bmod_eq_of_le (by omega) (by omega)

theorem c_m_lcmp  (hx : p.tables.exec = Jvm.exec) (hb : c.code = cc) (h : c_step K P O nL own an A pc len (.lcmp) = some L) (hd : decode cc pc = .ok (.lcmp, len)) (hL : ∀ q ∈ L, c_OK ((p, l, e, R, s, m, args, below, meth, c), (D, cl, dA, AA), (K, O, w0), (cc, nL, Q)) n0 r0 q.1 q.2) : c_OK ((p, l, e, R, s, m, args, below, meth, c), (D, cl, dA, AA), (K, O, w0), (cc, nL, Q)) n0 r0 pc A := by
  unfold c_step at h
  dsimp only at h
  obtain ⟨hn, g⟩ := c_len_inv h
  clear h
  subst hn
  have h := g
  clear g
  obtain ⟨b, a, S, B, hst, ha, hb', hf, rfl⟩ := c_bin_inv h
  cases hf
  intro lv st w cu su hcu hsu hT hE hs H locs ls hP hD hS hl
  obtain ⟨x, y, ss, rfl, k⟩ := c_topl2 hs hst ha hb'
  refine W.lcmp hx hb hd (hL _ List.mem_cons_self lv (.int (lg_cmp x y) :: ss) w cu su hcu hsu hT hE (hs.setS fun r hr => ⟨⟨lg_cmp x y, rfl, ?_⟩, (k r hr).2.2⟩) H locs ls hP hD hS hl)
  show (0 < (lg_cmp x y).toInt ∧ 0 < c_ev r (c_sub a.2 b.2)) ∨ ((lg_cmp x y).toInt = 0 ∧ c_ev r (c_sub a.2 b.2) = 0) ∨ ((lg_cmp x y).toInt < 0 ∧ c_ev r (c_sub a.2 b.2) < 0)
  rw [c_ev_sub, ← (k r hr).1, ← (k r hr).2.1]
  exact c_sgn x y

theorem c_m_iconst {i : Int} (hx : p.tables.exec = Jvm.exec) (hb : c.code = cc) (h : c_step K P O nL own an A pc len (.iconst i) = some L) (hd : decode cc pc = .ok (.iconst i, len)) (hL : ∀ q ∈ L, c_OK ((p, l, e, R, s, m, args, below, meth, c), (D, cl, dA, AA), (K, O, w0), (cc, nL, Q)) n0 r0 q.1 q.2) : c_OK ((p, l, e, R, s, m, args, below, meth, c), (D, cl, dA, AA), (K, O, w0), (cc, nL, Q)) n0 r0 pc A := by
  unfold c_step at h
  dsimp only at h
  obtain ⟨hn, g⟩ := c_len_inv h
  clear h
  subst hn
  have h := g
  clear g
  split at h
  · rename_i hi
    cases h
    intro lv st w cu su hcu hsu hT hE hs H locs ls hP hD hS hl
    refine lv_iconst (v := Int32.ofInt i) hx hb hd rfl (hL _ List.mem_cons_self lv (.int _ :: st) w cu su hcu hsu hT hE (hs.setS fun r hr => ⟨⟨_, rfl, ?_⟩, hr.2.2.2.2.2.1⟩) H locs ls hP hD hS hl)
    show _ = c_ev r (c_con i)
    rw [c_ev_con]
    exact c_oi32 hi.1 hi.2
  · cases h

theorem c_m_bipush {i : Int} (hx : p.tables.exec = Jvm.exec) (hb : c.code = cc) (h : c_step K P O nL own an A pc len (.bipush i) = some L) (hd : decode cc pc = .ok (.bipush i, len)) (hL : ∀ q ∈ L, c_OK ((p, l, e, R, s, m, args, below, meth, c), (D, cl, dA, AA), (K, O, w0), (cc, nL, Q)) n0 r0 q.1 q.2) : c_OK ((p, l, e, R, s, m, args, below, meth, c), (D, cl, dA, AA), (K, O, w0), (cc, nL, Q)) n0 r0 pc A := by
  unfold c_step at h
  dsimp only at h
  obtain ⟨hn, g⟩ := c_len_inv h
  clear h
  subst hn
  have h := g
  clear g
  split at h
  · rename_i hi
    cases h
    intro lv st w cu su hcu hsu hT hE hs H locs ls hP hD hS hl
    refine lv_bipush (v := (Int8.ofInt i).toInt32) hx hb hd rfl (hL _ List.mem_cons_self lv (.int _ :: st) w cu su hcu hsu hT hE (hs.setS fun r hr => ⟨⟨_, rfl, ?_⟩, hr.2.2.2.2.2.1⟩) H locs ls hP hD hS hl)
    show _ = c_ev r (c_con i)
    rw [c_ev_con]
    exact c_bi i hi.1 hi.2
  · cases h

theorem c_m_sipush {i : Int} (hx : p.tables.exec = Jvm.exec) (hb : c.code = cc) (h : c_step K P O nL own an A pc len (.sipush i) = some L) (hd : decode cc pc = .ok (.sipush i, len)) (hL : ∀ q ∈ L, c_OK ((p, l, e, R, s, m, args, below, meth, c), (D, cl, dA, AA), (K, O, w0), (cc, nL, Q)) n0 r0 q.1 q.2) : c_OK ((p, l, e, R, s, m, args, below, meth, c), (D, cl, dA, AA), (K, O, w0), (cc, nL, Q)) n0 r0 pc A := by
  unfold c_step at h
  dsimp only at h
  obtain ⟨hn, g⟩ := c_len_inv h
  clear h
  subst hn
  have h := g
  clear g
  split at h
  · rename_i hi
    cases h
    intro lv st w cu su hcu hsu hT hE hs H locs ls hP hD hS hl
    refine lv_sipush (v := (Int16.ofInt i).toInt32) hx hb hd rfl (hL _ List.mem_cons_self lv (.int _ :: st) w cu su hcu hsu hT hE (hs.setS fun r hr => ⟨⟨_, rfl, ?_⟩, hr.2.2.2.2.2.1⟩) H locs ls hP hD hS hl)
    show _ = c_ev r (c_con i)
    rw [c_ev_con]
    exact c_si i hi.1 hi.2
  · cases h

theorem c_m_lconst {i : Fin 2} (hx : p.tables.exec = Jvm.exec) (hb : c.code = cc) (h : c_step K P O nL own an A pc len (.lconst i) = some L) (hd : decode cc pc = .ok (.lconst i, len)) (hL : ∀ q ∈ L, c_OK ((p, l, e, R, s, m, args, below, meth, c), (D, cl, dA, AA), (K, O, w0), (cc, nL, Q)) n0 r0 q.1 q.2) : c_OK ((p, l, e, R, s, m, args, below, meth, c), (D, cl, dA, AA), (K, O, w0), (cc, nL, Q)) n0 r0 pc A := by
  unfold c_step at h
  dsimp only at h
  obtain ⟨hn, g⟩ := c_len_inv h
  clear h
  subst hn
  have h := g
  clear g
  cases h
  intro lv st w cu su hcu hsu hT hE hs H locs ls hP hD hS hl
  refine lv_lconst (v := Int64.ofNat (i : Nat)) hx hb hd rfl (hL _ List.mem_cons_self lv (.long _ :: st) w cu su hcu hsu hT hE (hs.setS fun r hr => ⟨⟨_, rfl, ?_⟩, hr.2.2.2.2.2.1⟩) H locs ls hP hD hS hl)
  show _ = c_ev r (c_con ((i : Nat) : Int))
  rw [c_ev_con]
  exact lN_toInt (by omega)

theorem c_m_ldc {i : Nat} (hx : p.tables.exec = Jvm.exec) (hb : c.code = cc) (hlk : c_lnkOk P cl Z) (hown : s.vm.findClass (Z.1 own) = some m.cls) (hts : ∀ w ∈ Z.2.2.1, w.before args s = true) (h : c_step K P O nL own an A pc len (.ldc i) = some L) (hd : decode cc pc = .ok (.ldc i, len)) (hL : ∀ q ∈ L, c_OK ((p, l, e, R, s, m, args, below, meth, c), (D, cl, dA, AA), (K, O, w0), (cc, nL, Q)) n0 r0 q.1 q.2) : c_OK ((p, l, e, R, s, m, args, below, meth, c), (D, cl, dA, AA), (K, O, w0), (cc, nL, Q)) n0 r0 pc A := by
  unfold c_step at h
  dsimp only at h
  obtain ⟨hn, g⟩ := c_len_inv h
  clear h
  subst hn
  have h := g
  clear g
  split at h
  · rename_i hk
    split at h
    · rename_i hi
      cases h
      intro lv st w cu su hcu hsu hT hE hs H locs ls hP hD hS hl
      have hw : Jvm.Cond.constant (Z.1 own) i (Int32.ofInt _) ∈ Z.2.2.1 := hlk _ _ _ _ _ _ hk
      refine lv_ldc hx hb hown (hts _ hw) hd (hL _ List.mem_cons_self lv (.int _ :: st) w cu su hcu hsu hT hE (hs.setS fun r hr => ⟨⟨_, rfl, ?_⟩, hr.2.2.2.2.2.1⟩) H locs ls hP hD hS hl)
      show _ = c_ev r (c_con _)
      rw [c_ev_con]
      exact c_oi32 hi.1 hi.2
    · cases h
  · cases h

theorem c_m_ldc_w {i : Nat} (hx : p.tables.exec = Jvm.exec) (hb : c.code = cc) (hlk : c_lnkOk P cl Z) (hown : s.vm.findClass (Z.1 own) = some m.cls) (hts : ∀ w ∈ Z.2.2.1, w.before args s = true) (h : c_step K P O nL own an A pc len (.ldc_w i) = some L) (hd : decode cc pc = .ok (.ldc_w i, len)) (hL : ∀ q ∈ L, c_OK ((p, l, e, R, s, m, args, below, meth, c), (D, cl, dA, AA), (K, O, w0), (cc, nL, Q)) n0 r0 q.1 q.2) : c_OK ((p, l, e, R, s, m, args, below, meth, c), (D, cl, dA, AA), (K, O, w0), (cc, nL, Q)) n0 r0 pc A := by
  unfold c_step at h
  dsimp only at h
  obtain ⟨hn, g⟩ := c_len_inv h
  clear h
  subst hn
  have h := g
  clear g
  split at h
  · rename_i hk
    split at h
    · rename_i hi
      cases h
      intro lv st w cu su hcu hsu hT hE hs H locs ls hP hD hS hl
      have hw : Jvm.Cond.constant (Z.1 own) i (Int32.ofInt _) ∈ Z.2.2.1 := hlk _ _ _ _ _ _ hk
      refine lv_ldcw hx hb hown (hts _ hw) hd (hL _ List.mem_cons_self lv (.int _ :: st) w cu su hcu hsu hT hE (hs.setS fun r hr => ⟨⟨_, rfl, ?_⟩, hr.2.2.2.2.2.1⟩) H locs ls hP hD hS hl)
      show _ = c_ev r (c_con _)
      rw [c_ev_con]
      exact c_oi32 hi.1 hi.2
    · cases h
  · cases h

theorem c_m_ldc2_w {i : Nat} (hx : p.tables.exec = Jvm.exec) (hb : c.code = cc) (hlk : c_lnkOk P cl Z) (hown : s.vm.findClass (Z.1 own) = some m.cls) (hts : ∀ w ∈ Z.2.2.1, w.before args s = true) (h : c_step K P O nL own an A pc len (.ldc2_w i) = some L) (hd : decode cc pc = .ok (.ldc2_w i, len)) (hL : ∀ q ∈ L, c_OK ((p, l, e, R, s, m, args, below, meth, c), (D, cl, dA, AA), (K, O, w0), (cc, nL, Q)) n0 r0 q.1 q.2) : c_OK ((p, l, e, R, s, m, args, below, meth, c), (D, cl, dA, AA), (K, O, w0), (cc, nL, Q)) n0 r0 pc A := by
  unfold c_step at h
  dsimp only at h
  obtain ⟨hn, g⟩ := c_len_inv h
  clear h
  subst hn
  have h := g
  clear g
  split at h
  · rename_i hk
    split at h
    · rename_i hi
      cases h
      intro lv st w cu su hcu hsu hT hE hs H locs ls hP hD hS hl
      have hw : Jvm.Cond.constantLong (Z.1 own) i (Int64.ofInt _) ∈ Z.2.2.1 := hlk _ _ _ _ _ _ hk
      refine lv_ldc2 hx hb hown (hts _ hw) hd (hL _ List.mem_cons_self lv (.long _ :: st) w cu su hcu hsu hT hE (hs.setS fun r hr => ⟨⟨_, rfl, ?_⟩, hr.2.2.2.2.2.1⟩) H locs ls hP hD hS hl)
      show _ = c_ev r (c_con _)
      rw [c_ev_con, Int64.toInt_ofInt]
      exact c_bm64 hi.1 hi.2
    · cases h
  · cases h

theorem c_getl_inv {A : cSt} {nx k i : Nat} {L : List (Nat × cSt)} (h : c_getl A nx k i = some L) : ∃ a, c_locGet i (c_loc A) = some a ∧ a.1 = k ∧ L = [(nx, c_setS A (a :: c_stk A))] := by
  unfold c_getl at h
  split at h
  · rename_i a ha
    split at h
    · rename_i hk
      cases h
      exact ⟨a, ha, Nat.eq_of_beq_eq_true hk, rfl⟩
    · cases h
  · cases h
theorem c_putl_inv {A : cSt} {nx k i nL : Nat} {L : List (Nat × cSt)} (h : c_putl A nL nx k i = some L) : ∃ a S, c_stk A = a :: S ∧ a.1 = k ∧ ((k = 1 ∧ i + 1 < nL ∧ L = [(nx, c_setL (c_setS A S) (c_lset2 i a (c_loc A)))]) ∨ (k ≠ 1 ∧ i < nL ∧ L = [(nx, c_setL (c_setS A S) (c_lset1 i a (c_loc A)))])) := by
  unfold c_putl at h
  split at h
  · rename_i a S ha
    split at h
    · rename_i hk
      refine ⟨a, S, ha, Nat.eq_of_beq_eq_true hk, ?_⟩
      split at h
      · rename_i h1
        split at h
        · rename_i h2
          cases h
          exact Or.inl ⟨Nat.eq_of_beq_eq_true h1, Nat.le_of_ble_eq_true h2, rfl⟩
        · cases h
      · rename_i h1
        split at h
        · rename_i h2
          cases h
          exact Or.inr ⟨fun q => h1 (by rw [q]; rfl), Nat.le_of_ble_eq_true h2, rfl⟩
        · cases h
    · cases h
  · cases h

theorem c_loc_at {n0 : Nat} {r0 : Nat → Int} {A : cSt} {lv : List (Nat × Value)} {st : List Value} {w : cWld} {ls : Array Slot} {nL i : Nat} {a : cAV} (hs : c_sat n0 r0 A lv st w) (hl : lv_has ls nL lv) (h : c_locGet i (c_loc A) = some a) : ∃ v, ls[i]? = some (.val v) ∧ ∀ r, c_satR A r lv st w → c_DV r a v := by
  obtain ⟨r, -, hr⟩ := hs.at
  obtain ⟨k, v, h1, h2, -⟩ := c_locGet_ok (r := r) hr.2.2.2.2.1 h
  refine ⟨v, lv_at hl k h1, fun r' hr' => ?_⟩
  have hF : c_F2 (c_lr r') (c_loc A) lv := hr'.2.2.2.2.1
  obtain ⟨b, h3, h4⟩ := c_F2_get hF h2
  rw [h1] at h3
  cases h3
  exact h4.2

theorem c_m_iload_n {i : Fin 4} (hx : p.tables.exec = Jvm.exec) (hb : c.code = cc) (h : c_step K P O nL own an A pc len (.iload_n i) = some L) (hd : decode cc pc = .ok (.iload_n i, len)) (hL : ∀ q ∈ L, c_OK ((p, l, e, R, s, m, args, below, meth, c), (D, cl, dA, AA), (K, O, w0), (cc, nL, Q)) n0 r0 q.1 q.2) : c_OK ((p, l, e, R, s, m, args, below, meth, c), (D, cl, dA, AA), (K, O, w0), (cc, nL, Q)) n0 r0 pc A := by
  unfold c_step at h
  dsimp only at h
  obtain ⟨hn, g⟩ := c_len_inv h
  clear h
  subst hn
  have h := g
  clear g
  obtain ⟨a, ha, hk, rfl⟩ := c_getl_inv h
  intro lv st w cu su hcu hsu hT hE hs H locs ls hP hD hS hl
  obtain ⟨v, hv, k⟩ := c_loc_at hs hl ha
  obtain ⟨r, -, hr⟩ := hs.at
  obtain ⟨x, rfl, -⟩ := c_DVi (k r hr) hk
  exact lv_iload_n hx hb hd rfl hv (hL _ List.mem_cons_self lv (_ :: st) w cu su hcu hsu hT hE (hs.setS fun r hr => ⟨k r hr, hr.2.2.2.2.2.1⟩) H locs ls hP hD hS hl)

theorem c_m_iload {i : Nat} (hx : p.tables.exec = Jvm.exec) (hb : c.code = cc) (h : c_step K P O nL own an A pc len (.iload i) = some L) (hd : decode cc pc = .ok (.iload i, len)) (hL : ∀ q ∈ L, c_OK ((p, l, e, R, s, m, args, below, meth, c), (D, cl, dA, AA), (K, O, w0), (cc, nL, Q)) n0 r0 q.1 q.2) : c_OK ((p, l, e, R, s, m, args, below, meth, c), (D, cl, dA, AA), (K, O, w0), (cc, nL, Q)) n0 r0 pc A := by
  unfold c_step at h
  dsimp only at h
  obtain ⟨hn, g⟩ := c_len_inv h
  clear h
  subst hn
  have h := g
  clear g
  obtain ⟨a, ha, hk, rfl⟩ := c_getl_inv h
  intro lv st w cu su hcu hsu hT hE hs H locs ls hP hD hS hl
  obtain ⟨v, hv, k⟩ := c_loc_at hs hl ha
  obtain ⟨r, -, hr⟩ := hs.at
  obtain ⟨x, rfl, -⟩ := c_DVi (k r hr) hk
  exact lv_iload hx hb hd hv (hL _ List.mem_cons_self lv (_ :: st) w cu su hcu hsu hT hE (hs.setS fun r hr => ⟨k r hr, hr.2.2.2.2.2.1⟩) H locs ls hP hD hS hl)

theorem c_m_lload_n {i : Fin 4} (hx : p.tables.exec = Jvm.exec) (hb : c.code = cc) (h : c_step K P O nL own an A pc len (.lload_n i) = some L) (hd : decode cc pc = .ok (.lload_n i, len)) (hL : ∀ q ∈ L, c_OK ((p, l, e, R, s, m, args, below, meth, c), (D, cl, dA, AA), (K, O, w0), (cc, nL, Q)) n0 r0 q.1 q.2) : c_OK ((p, l, e, R, s, m, args, below, meth, c), (D, cl, dA, AA), (K, O, w0), (cc, nL, Q)) n0 r0 pc A := by
  unfold c_step at h
  dsimp only at h
  obtain ⟨hn, g⟩ := c_len_inv h
  clear h
  subst hn
  have h := g
  clear g
  obtain ⟨a, ha, hk, rfl⟩ := c_getl_inv h
  intro lv st w cu su hcu hsu hT hE hs H locs ls hP hD hS hl
  obtain ⟨v, hv, k⟩ := c_loc_at hs hl ha
  obtain ⟨r, -, hr⟩ := hs.at
  obtain ⟨x, rfl, -⟩ := c_DVl (k r hr) hk
  exact lv_lload_n hx hb hd rfl hv (hL _ List.mem_cons_self lv (_ :: st) w cu su hcu hsu hT hE (hs.setS fun r hr => ⟨k r hr, hr.2.2.2.2.2.1⟩) H locs ls hP hD hS hl)

theorem c_m_lload {i : Nat} (hx : p.tables.exec = Jvm.exec) (hb : c.code = cc) (h : c_step K P O nL own an A pc len (.lload i) = some L) (hd : decode cc pc = .ok (.lload i, len)) (hL : ∀ q ∈ L, c_OK ((p, l, e, R, s, m, args, below, meth, c), (D, cl, dA, AA), (K, O, w0), (cc, nL, Q)) n0 r0 q.1 q.2) : c_OK ((p, l, e, R, s, m, args, below, meth, c), (D, cl, dA, AA), (K, O, w0), (cc, nL, Q)) n0 r0 pc A := by
  unfold c_step at h
  dsimp only at h
  obtain ⟨hn, g⟩ := c_len_inv h
  clear h
  subst hn
  have h := g
  clear g
  obtain ⟨a, ha, hk, rfl⟩ := c_getl_inv h
  intro lv st w cu su hcu hsu hT hE hs H locs ls hP hD hS hl
  obtain ⟨v, hv, k⟩ := c_loc_at hs hl ha
  obtain ⟨r, -, hr⟩ := hs.at
  obtain ⟨x, rfl, -⟩ := c_DVl (k r hr) hk
  exact lv_lload hx hb hd hv (hL _ List.mem_cons_self lv (_ :: st) w cu su hcu hsu hT hE (hs.setS fun r hr => ⟨k r hr, hr.2.2.2.2.2.1⟩) H locs ls hP hD hS hl)

theorem c_m_aload_n {i : Fin 4} (hx : p.tables.exec = Jvm.exec) (hb : c.code = cc) (h : c_step K P O nL own an A pc len (.aload_n i) = some L) (hd : decode cc pc = .ok (.aload_n i, len)) (hL : ∀ q ∈ L, c_OK ((p, l, e, R, s, m, args, below, meth, c), (D, cl, dA, AA), (K, O, w0), (cc, nL, Q)) n0 r0 q.1 q.2) : c_OK ((p, l, e, R, s, m, args, below, meth, c), (D, cl, dA, AA), (K, O, w0), (cc, nL, Q)) n0 r0 pc A := by
  unfold c_step at h
  dsimp only at h
  obtain ⟨hn, g⟩ := c_len_inv h
  clear h
  subst hn
  have h := g
  clear g
  obtain ⟨a, ha, hk, rfl⟩ := c_getl_inv h
  intro lv st w cu su hcu hsu hT hE hs H locs ls hP hD hS hl
  obtain ⟨v, hv, k⟩ := c_loc_at hs hl ha
  obtain ⟨r, -, hr⟩ := hs.at
  rcases c_DVr (k r hr) hk with ⟨rfl, -⟩ | ⟨x, rfl, -⟩
  · exact lv_aload_nN hx hb hd rfl hv (hL _ List.mem_cons_self lv (_ :: st) w cu su hcu hsu hT hE (hs.setS fun r hr => ⟨k r hr, hr.2.2.2.2.2.1⟩) H locs ls hP hD hS hl)
  · exact lv_aload_n hx hb hd rfl hv (hL _ List.mem_cons_self lv (_ :: st) w cu su hcu hsu hT hE (hs.setS fun r hr => ⟨k r hr, hr.2.2.2.2.2.1⟩) H locs ls hP hD hS hl)

theorem c_m_aload {i : Nat} (hx : p.tables.exec = Jvm.exec) (hb : c.code = cc) (h : c_step K P O nL own an A pc len (.aload i) = some L) (hd : decode cc pc = .ok (.aload i, len)) (hL : ∀ q ∈ L, c_OK ((p, l, e, R, s, m, args, below, meth, c), (D, cl, dA, AA), (K, O, w0), (cc, nL, Q)) n0 r0 q.1 q.2) : c_OK ((p, l, e, R, s, m, args, below, meth, c), (D, cl, dA, AA), (K, O, w0), (cc, nL, Q)) n0 r0 pc A := by
  unfold c_step at h
  dsimp only at h
  obtain ⟨hn, g⟩ := c_len_inv h
  clear h
  subst hn
  have h := g
  clear g
  obtain ⟨a, ha, hk, rfl⟩ := c_getl_inv h
  intro lv st w cu su hcu hsu hT hE hs H locs ls hP hD hS hl
  obtain ⟨v, hv, k⟩ := c_loc_at hs hl ha
  obtain ⟨r, -, hr⟩ := hs.at
  rcases c_DVr (k r hr) hk with ⟨rfl, -⟩ | ⟨x, rfl, -⟩
  · exact lv_aloadN hx hb hd hv (hL _ List.mem_cons_self lv (_ :: st) w cu su hcu hsu hT hE (hs.setS fun r hr => ⟨k r hr, hr.2.2.2.2.2.1⟩) H locs ls hP hD hS hl)
  · exact lv_aload hx hb hd hv (hL _ List.mem_cons_self lv (_ :: st) w cu su hcu hsu hT hE (hs.setS fun r hr => ⟨k r hr, hr.2.2.2.2.2.1⟩) H locs ls hP hD hS hl)

theorem c_m_istore_n {i : Fin 4} (hx : p.tables.exec = Jvm.exec) (hb : c.code = cc) (h : c_step K P O nL own an A pc len (.istore_n i) = some L) (hd : decode cc pc = .ok (.istore_n i, len)) (hL : ∀ q ∈ L, c_OK ((p, l, e, R, s, m, args, below, meth, c), (D, cl, dA, AA), (K, O, w0), (cc, nL, Q)) n0 r0 q.1 q.2) : c_OK ((p, l, e, R, s, m, args, below, meth, c), (D, cl, dA, AA), (K, O, w0), (cc, nL, Q)) n0 r0 pc A := by
  unfold c_step at h
  dsimp only at h
  obtain ⟨hn, g⟩ := c_len_inv h
  clear h
  subst hn
  have h := g
  clear g
  obtain ⟨a, S, hst, hk, hc⟩ := c_putl_inv h
  rcases hc with ⟨h1, hi, rfl⟩ | ⟨h1, hi, rfl⟩
  · exact absurd h1 (by decide)
  · intro lv st w cu su hcu hsu hT hE hs H locs ls hP hD hS hl
    obtain ⟨v, ss, rfl, k⟩ := c_top1 hs hst
    obtain ⟨r, -, hr⟩ := hs.at
    obtain ⟨x, rfl, -⟩ := c_DVi (k r hr).1 hk
    refine lv_istore_n (lv' := (_, .int x) :: lv.filter _) hx hb hd rfl hl hi rfl (fun ls' hl' => hL _ List.mem_cons_self _ _ w cu su hcu hsu hT hE (hs.setL (fun r hr => c_lset1_ok hr.2.2.2.2.1 (k r hr).1) (fun r hr => (k r hr).2)) H locs ls' hP hD hS hl')

theorem c_m_istore {i : Nat} (hx : p.tables.exec = Jvm.exec) (hb : c.code = cc) (h : c_step K P O nL own an A pc len (.istore i) = some L) (hd : decode cc pc = .ok (.istore i, len)) (hL : ∀ q ∈ L, c_OK ((p, l, e, R, s, m, args, below, meth, c), (D, cl, dA, AA), (K, O, w0), (cc, nL, Q)) n0 r0 q.1 q.2) : c_OK ((p, l, e, R, s, m, args, below, meth, c), (D, cl, dA, AA), (K, O, w0), (cc, nL, Q)) n0 r0 pc A := by
  unfold c_step at h
  dsimp only at h
  obtain ⟨hn, g⟩ := c_len_inv h
  clear h
  subst hn
  have h := g
  clear g
  obtain ⟨a, S, hst, hk, hc⟩ := c_putl_inv h
  rcases hc with ⟨h1, hi, rfl⟩ | ⟨h1, hi, rfl⟩
  · exact absurd h1 (by decide)
  · intro lv st w cu su hcu hsu hT hE hs H locs ls hP hD hS hl
    obtain ⟨v, ss, rfl, k⟩ := c_top1 hs hst
    obtain ⟨r, -, hr⟩ := hs.at
    obtain ⟨x, rfl, -⟩ := c_DVi (k r hr).1 hk
    refine lv_istore (lv' := (_, .int x) :: lv.filter _) hx hb hd hl hi rfl (fun ls' hl' => hL _ List.mem_cons_self _ _ w cu su hcu hsu hT hE (hs.setL (fun r hr => c_lset1_ok hr.2.2.2.2.1 (k r hr).1) (fun r hr => (k r hr).2)) H locs ls' hP hD hS hl')

theorem c_m_lstore_n {i : Fin 4} (hx : p.tables.exec = Jvm.exec) (hb : c.code = cc) (h : c_step K P O nL own an A pc len (.lstore_n i) = some L) (hd : decode cc pc = .ok (.lstore_n i, len)) (hL : ∀ q ∈ L, c_OK ((p, l, e, R, s, m, args, below, meth, c), (D, cl, dA, AA), (K, O, w0), (cc, nL, Q)) n0 r0 q.1 q.2) : c_OK ((p, l, e, R, s, m, args, below, meth, c), (D, cl, dA, AA), (K, O, w0), (cc, nL, Q)) n0 r0 pc A := by
  unfold c_step at h
  dsimp only at h
  obtain ⟨hn, g⟩ := c_len_inv h
  clear h
  subst hn
  have h := g
  clear g
  obtain ⟨a, S, hst, hk, hc⟩ := c_putl_inv h
  rcases hc with ⟨h1, hi, rfl⟩ | ⟨h1, hi, rfl⟩
  · intro lv st w cu su hcu hsu hT hE hs H locs ls hP hD hS hl
    obtain ⟨v, ss, rfl, k⟩ := c_top1 hs hst
    obtain ⟨r, -, hr⟩ := hs.at
    obtain ⟨x, rfl, -⟩ := c_DVl (k r hr).1 hk
    refine lv_lstore_n (lv' := (_, .long x) :: lv.filter _) hx hb hd rfl hl hi rfl (fun ls' hl' => hL _ List.mem_cons_self _ _ w cu su hcu hsu hT hE (hs.setL (fun r hr => c_lset2_ok hr.2.2.2.2.1 (k r hr).1) (fun r hr => (k r hr).2)) H locs ls' hP hD hS hl')
  · exact absurd rfl h1

theorem c_m_lstore {i : Nat} (hx : p.tables.exec = Jvm.exec) (hb : c.code = cc) (h : c_step K P O nL own an A pc len (.lstore i) = some L) (hd : decode cc pc = .ok (.lstore i, len)) (hL : ∀ q ∈ L, c_OK ((p, l, e, R, s, m, args, below, meth, c), (D, cl, dA, AA), (K, O, w0), (cc, nL, Q)) n0 r0 q.1 q.2) : c_OK ((p, l, e, R, s, m, args, below, meth, c), (D, cl, dA, AA), (K, O, w0), (cc, nL, Q)) n0 r0 pc A := by
  unfold c_step at h
  dsimp only at h
  obtain ⟨hn, g⟩ := c_len_inv h
  clear h
  subst hn
  have h := g
  clear g
  obtain ⟨a, S, hst, hk, hc⟩ := c_putl_inv h
  rcases hc with ⟨h1, hi, rfl⟩ | ⟨h1, hi, rfl⟩
  · intro lv st w cu su hcu hsu hT hE hs H locs ls hP hD hS hl
    obtain ⟨v, ss, rfl, k⟩ := c_top1 hs hst
    obtain ⟨r, -, hr⟩ := hs.at
    obtain ⟨x, rfl, -⟩ := c_DVl (k r hr).1 hk
    refine lv_lstore (lv' := (_, .long x) :: lv.filter _) hx hb hd hl hi rfl (fun ls' hl' => hL _ List.mem_cons_self _ _ w cu su hcu hsu hT hE (hs.setL (fun r hr => c_lset2_ok hr.2.2.2.2.1 (k r hr).1) (fun r hr => (k r hr).2)) H locs ls' hP hD hS hl')
  · exact absurd rfl h1

theorem c_m_astore_n {i : Fin 4} (hx : p.tables.exec = Jvm.exec) (hb : c.code = cc) (h : c_step K P O nL own an A pc len (.astore_n i) = some L) (hd : decode cc pc = .ok (.astore_n i, len)) (hL : ∀ q ∈ L, c_OK ((p, l, e, R, s, m, args, below, meth, c), (D, cl, dA, AA), (K, O, w0), (cc, nL, Q)) n0 r0 q.1 q.2) : c_OK ((p, l, e, R, s, m, args, below, meth, c), (D, cl, dA, AA), (K, O, w0), (cc, nL, Q)) n0 r0 pc A := by
  unfold c_step at h
  dsimp only at h
  obtain ⟨hn, g⟩ := c_len_inv h
  clear h
  subst hn
  have h := g
  clear g
  obtain ⟨a, S, hst, hk, hc⟩ := c_putl_inv h
  rcases hc with ⟨h1, hi, rfl⟩ | ⟨h1, hi, rfl⟩
  · exact absurd h1 (by decide)
  · intro lv st w cu su hcu hsu hT hE hs H locs ls hP hD hS hl
    obtain ⟨v, ss, rfl, k⟩ := c_top1 hs hst
    obtain ⟨r, -, hr⟩ := hs.at
    rcases c_DVr (k r hr).1 hk with ⟨rfl, -⟩ | ⟨x, rfl, -⟩
    · refine lv_astore_nN (lv' := (_, .null) :: lv.filter _) hx hb hd rfl hl hi rfl (fun ls' hl' => hL _ List.mem_cons_self _ _ w cu su hcu hsu hT hE (hs.setL (fun r hr => c_lset1_ok hr.2.2.2.2.1 (k r hr).1) (fun r hr => (k r hr).2)) H locs ls' hP hD hS hl')
    · refine lv_astore_n (lv' := (_, .ref x) :: lv.filter _) hx hb hd rfl hl hi rfl (fun ls' hl' => hL _ List.mem_cons_self _ _ w cu su hcu hsu hT hE (hs.setL (fun r hr => c_lset1_ok hr.2.2.2.2.1 (k r hr).1) (fun r hr => (k r hr).2)) H locs ls' hP hD hS hl')

theorem c_m_astore {i : Nat} (hx : p.tables.exec = Jvm.exec) (hb : c.code = cc) (h : c_step K P O nL own an A pc len (.astore i) = some L) (hd : decode cc pc = .ok (.astore i, len)) (hL : ∀ q ∈ L, c_OK ((p, l, e, R, s, m, args, below, meth, c), (D, cl, dA, AA), (K, O, w0), (cc, nL, Q)) n0 r0 q.1 q.2) : c_OK ((p, l, e, R, s, m, args, below, meth, c), (D, cl, dA, AA), (K, O, w0), (cc, nL, Q)) n0 r0 pc A := by
  unfold c_step at h
  dsimp only at h
  obtain ⟨hn, g⟩ := c_len_inv h
  clear h
  subst hn
  have h := g
  clear g
  obtain ⟨a, S, hst, hk, hc⟩ := c_putl_inv h
  rcases hc with ⟨h1, hi, rfl⟩ | ⟨h1, hi, rfl⟩
  · exact absurd h1 (by decide)
  · intro lv st w cu su hcu hsu hT hE hs H locs ls hP hD hS hl
    obtain ⟨v, ss, rfl, k⟩ := c_top1 hs hst
    obtain ⟨r, -, hr⟩ := hs.at
    rcases c_DVr (k r hr).1 hk with ⟨rfl, -⟩ | ⟨x, rfl, -⟩
    · refine lv_astoreN (lv' := (_, .null) :: lv.filter _) hx hb hd hl hi rfl (fun ls' hl' => hL _ List.mem_cons_self _ _ w cu su hcu hsu hT hE (hs.setL (fun r hr => c_lset1_ok hr.2.2.2.2.1 (k r hr).1) (fun r hr => (k r hr).2)) H locs ls' hP hD hS hl')
    · refine lv_astore (lv' := (_, .ref x) :: lv.filter _) hx hb hd hl hi rfl (fun ls' hl' => hL _ List.mem_cons_self _ _ w cu su hcu hsu hT hE (hs.setL (fun r hr => c_lset1_ok hr.2.2.2.2.1 (k r hr).1) (fun r hr => (k r hr).2)) H locs ls' hP hD hS hl')

theorem c_m_iinc {i : Nat} {v : Int} (hx : p.tables.exec = Jvm.exec) (hb : c.code = cc) (h : c_step K P O nL own an A pc len (.iinc i v) = some L) (hd : decode cc pc = .ok (.iinc i v, len)) (hL : ∀ q ∈ L, c_OK ((p, l, e, R, s, m, args, below, meth, c), (D, cl, dA, AA), (K, O, w0), (cc, nL, Q)) n0 r0 q.1 q.2) : c_OK ((p, l, e, R, s, m, args, below, meth, c), (D, cl, dA, AA), (K, O, w0), (cc, nL, Q)) n0 r0 pc A := by
  unfold c_step at h
  dsimp only at h
  obtain ⟨hn, g⟩ := c_len_inv h
  clear h
  subst hn
  have h := g
  clear g
  split at h
  · rename_i e' hg
    split at h
    · rename_i hi
      split at h
      · rename_i a S hst
        cases h
        intro lv st w cu su hcu hsu hT hE hs H locs ls hP hD hS hl
        obtain ⟨r, -, hr⟩ := hs.at
        obtain ⟨k, u, k1, k2, k3⟩ := c_locGet_ok (r := r) hr.2.2.2.2.1 hg
        obtain ⟨x, rfl, -⟩ := c_DVi k3 rfl
        have kx : ∀ r, c_satR A r lv st w → x.toInt = c_ev r e' := fun r' hr' => by
          have hF : c_F2 (c_lr r') (c_loc A) lv := hr'.2.2.2.2.1
          obtain ⟨b, h3, h4⟩ := c_F2_get hF k2
          rw [k1] at h3
          cases h3
          obtain ⟨y, hy, hy2⟩ := c_DVi h4.2 rfl
          cases hy
          exact hy2
        have hn := hs.norm0 (S := c_stk A) (ss := st) (e := c_addc e' v) (x + Int32.ofInt v) (fun r hr h1 h2 => by
          rw [c_ev_addc] at h1 h2 ⊢
          rw [Int32.toInt_add, kx r hr, c_oi32 hi.1 hi.2.1, c_bm32 h1 h2]) (fun r hr => hr.2.2.2.2.2.1)
        obtain ⟨u', ss', hu, kk⟩ := c_top1 hn hst
        cases hu
        have hloc : c_loc (c_norm A 0 (c_addc e' v) (c_stk A)) = c_loc A := by unfold c_norm; split <;> rfl
        refine lv_iinc (k := k) (v := x + Int32.ofInt v) (lv' := (_, .int (x + Int32.ofInt v)) :: lv.filter _) hx hb hd hl k1 rfl hi.2.2 rfl (fun ls' hl' => hL _ List.mem_cons_self _ _ w cu su ((c_norm_cu ..).1.trans hcu) ((c_norm_cu ..).2.trans hsu) hT hE (hn.setL (fun r hr => ?_) (fun r hr => (kk r hr).2)) H locs ls' hP hD hS hl')
        have hF : c_F2 (c_lr r) (c_loc (c_norm A 0 (c_addc e' v) (c_stk A))) lv := hr.2.2.2.2.1
        rw [hloc] at hF
        exact c_lset1_ok hF (kk r hr).1
      · cases h
    · cases h
  · cases h

theorem c_cat1 {r : Nat → Int} {a : cAV} {v : Value} (h : c_DV r a v) (ha : ¬ a.1 = 1) : v.category = 1 := by
  have h2 := c_DV_cat h
  have : (a.1 == 1) = false := by
    cases hq : a.1 == 1 with
    | false => rfl
    | true => exact absurd (beq_iff_eq.mp hq) ha
  rw [this] at h2
  rcases lv_cat v with h3 | h3
  · exact h3
  · rw [h3] at h2; cases h2
theorem c_cat2 {r : Nat → Int} {a : cAV} {v : Value} (h : c_DV r a v) (ha : a.1 = 1) : v.category = 2 := by
  obtain ⟨x, rfl, -⟩ := c_DVl h ha
  rfl

theorem c_m_dup  (hx : p.tables.exec = Jvm.exec) (hb : c.code = cc) (h : c_step K P O nL own an A pc len (.dup) = some L) (hd : decode cc pc = .ok (.dup, len)) (hL : ∀ q ∈ L, c_OK ((p, l, e, R, s, m, args, below, meth, c), (D, cl, dA, AA), (K, O, w0), (cc, nL, Q)) n0 r0 q.1 q.2) : c_OK ((p, l, e, R, s, m, args, below, meth, c), (D, cl, dA, AA), (K, O, w0), (cc, nL, Q)) n0 r0 pc A := by
  unfold c_step at h
  dsimp only at h
  obtain ⟨hn, g⟩ := c_len_inv h
  clear h
  subst hn
  have h := g
  clear g
  split at h
  · rename_i a S hst
    split at h
    · cases h
    · rename_i ha
      have ha : ¬ a.1 = 1 := fun q => ha (by rw [q]; rfl)
      cases h
      intro lv st w cu su hcu hsu hT hE hs H locs ls hP hD hS hl
      obtain ⟨v, ss, rfl, k⟩ := c_top1 hs hst
      obtain ⟨r, -, hr⟩ := hs.at
      exact lv_dup hx hb hd (c_cat1 (k r hr).1 ha) (hL _ List.mem_cons_self lv (v :: v :: ss) w cu su hcu hsu hT hE (hs.setS fun r hr => ⟨(k r hr).1, (k r hr).1, (k r hr).2⟩) H locs ls hP hD hS hl)
  · cases h

theorem c_m_pop  (hx : p.tables.exec = Jvm.exec) (hb : c.code = cc) (h : c_step K P O nL own an A pc len (.pop) = some L) (hd : decode cc pc = .ok (.pop, len)) (hL : ∀ q ∈ L, c_OK ((p, l, e, R, s, m, args, below, meth, c), (D, cl, dA, AA), (K, O, w0), (cc, nL, Q)) n0 r0 q.1 q.2) : c_OK ((p, l, e, R, s, m, args, below, meth, c), (D, cl, dA, AA), (K, O, w0), (cc, nL, Q)) n0 r0 pc A := by
  unfold c_step at h
  dsimp only at h
  obtain ⟨hn, g⟩ := c_len_inv h
  clear h
  subst hn
  have h := g
  clear g
  split at h
  · rename_i a S hst
    split at h
    · cases h
    · rename_i ha
      have ha : ¬ a.1 = 1 := fun q => ha (by rw [q]; rfl)
      cases h
      intro lv st w cu su hcu hsu hT hE hs H locs ls hP hD hS hl
      obtain ⟨v, ss, rfl, k⟩ := c_top1 hs hst
      obtain ⟨r, -, hr⟩ := hs.at
      exact lv_pop hx hb hd (c_cat1 (k r hr).1 ha) (hL _ List.mem_cons_self lv _ w cu su hcu hsu hT hE (hs.setS fun r hr => (k r hr).2) H locs ls hP hD hS hl)
  · cases h

theorem c_m_pop2  (hx : p.tables.exec = Jvm.exec) (hb : c.code = cc) (h : c_step K P O nL own an A pc len (.pop2) = some L) (hd : decode cc pc = .ok (.pop2, len)) (hL : ∀ q ∈ L, c_OK ((p, l, e, R, s, m, args, below, meth, c), (D, cl, dA, AA), (K, O, w0), (cc, nL, Q)) n0 r0 q.1 q.2) : c_OK ((p, l, e, R, s, m, args, below, meth, c), (D, cl, dA, AA), (K, O, w0), (cc, nL, Q)) n0 r0 pc A := by
  unfold c_step at h
  dsimp only at h
  obtain ⟨hn, g⟩ := c_len_inv h
  clear h
  subst hn
  have h := g
  clear g
  split at h
  · rename_i a S hst
    split at h
    · rename_i ha
      have ha := Nat.eq_of_beq_eq_true ha
      cases h
      intro lv st w cu su hcu hsu hT hE hs H locs ls hP hD hS hl
      obtain ⟨v, ss, rfl, k⟩ := c_top1 hs hst
      obtain ⟨r, -, hr⟩ := hs.at
      exact lv_pop2_2 hx hb hd (c_cat2 (k r hr).1 ha) (hL _ List.mem_cons_self lv _ w cu su hcu hsu hT hE (hs.setS fun r hr => (k r hr).2) H locs ls hP hD hS hl)
    · cases h
  · cases h

theorem c_m_dup2  (hx : p.tables.exec = Jvm.exec) (hb : c.code = cc) (h : c_step K P O nL own an A pc len (.dup2) = some L) (hd : decode cc pc = .ok (.dup2, len)) (hL : ∀ q ∈ L, c_OK ((p, l, e, R, s, m, args, below, meth, c), (D, cl, dA, AA), (K, O, w0), (cc, nL, Q)) n0 r0 q.1 q.2) : c_OK ((p, l, e, R, s, m, args, below, meth, c), (D, cl, dA, AA), (K, O, w0), (cc, nL, Q)) n0 r0 pc A := by
  unfold c_step at h
  dsimp only at h
  obtain ⟨hn, g⟩ := c_len_inv h
  clear h
  subst hn
  have h := g
  clear g
  split at h
  · rename_i a b S hst
    split at h
    · rename_i ha
      have ha := Nat.eq_of_beq_eq_true ha
      cases h
      intro lv st w cu su hcu hsu hT hE hs H locs ls hP hD hS hl
      obtain ⟨v, ss, rfl, k⟩ := c_top1 hs hst
      obtain ⟨r, -, hr⟩ := hs.at
      exact lv_dup2_2 hx hb hd (c_cat2 (k r hr).1 ha) (hL _ List.mem_cons_self lv (v :: v :: ss) w cu su hcu hsu hT hE (hs.setS fun r hr => ⟨(k r hr).1, (k r hr).1, (k r hr).2⟩) H locs ls hP hD hS hl)
    · rename_i ha
      have ha : ¬ a.1 = 1 := fun q => ha (by rw [q]; rfl)
      split at h
      · cases h
      · rename_i hb2
        have hb2 : ¬ b.1 = 1 := fun q => hb2 (by rw [q]; rfl)
        cases h
        intro lv st w cu su hcu hsu hT hE hs H locs ls hP hD hS hl
        obtain ⟨v, ss, rfl, k⟩ := c_top1 hs hst
        obtain ⟨r, -, hr⟩ := hs.at
        obtain ⟨u, ss, rfl, h1, -⟩ := c_F2_cons (k r hr).2
        exact lv_dup2_11 hx hb hd (c_cat1 (k r hr).1 ha) (c_cat1 h1 hb2) (hL _ List.mem_cons_self lv (v :: u :: v :: u :: ss) w cu su hcu hsu hT hE (hs.setS fun r hr => ⟨(k r hr).1, (k r hr).2.1, (k r hr).1, (k r hr).2⟩) H locs ls hP hD hS hl)
  · rename_i a hst
    split at h
    · rename_i ha
      have ha := Nat.eq_of_beq_eq_true ha
      cases h
      intro lv st w cu su hcu hsu hT hE hs H locs ls hP hD hS hl
      obtain ⟨v, ss, rfl, k⟩ := c_top1 hs hst
      obtain ⟨r, -, hr⟩ := hs.at
      exact lv_dup2_2 hx hb hd (c_cat2 (k r hr).1 ha) (hL _ List.mem_cons_self lv (v :: v :: ss) w cu su hcu hsu hT hE (hs.setS fun r hr => ⟨(k r hr).1, (k r hr).1, (k r hr).2⟩) H locs ls hP hD hS hl)
    · cases h
  · cases h

end MS
