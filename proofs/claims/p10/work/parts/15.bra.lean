/-! branches -/
theorem c_le0 (x : Int32) : x ≤ 0 ↔ x.toInt ≤ 0 := by rw [Int32.le_iff_toInt_le]; rfl
theorem c_lt0 (x : Int32) : x < 0 ↔ x.toInt < 0 := by rw [Int32.lt_iff_toInt_lt]; rfl
theorem c_ge0 (x : Int32) : 0 ≤ x ↔ 0 ≤ x.toInt := by rw [Int32.le_iff_toInt_le]; rfl
theorem c_gt0 (x : Int32) : 0 < x ↔ 0 < x.toInt := by rw [Int32.lt_iff_toInt_lt]; rfl
section MB
variable {p : Program} {l : Launch} {e : Env} {R : Room} {s : State} {m : MethodId} {args : Array Value} {below : List Frame} {meth : Method} {c : Code} {D : va_G} {cl : List vw_C} {dA : Nat → ClassId} {AA : Nat → Prop} {K : cTab} {O : cCtr} {w0 : cWld} {cc : ByteArray} {nL : Nat} {Q : State → Prop} {n0 : Nat} {r0 : Nat → Int}
  {P : cPrg} {own : Nat} {an : cAnn} {A : cSt} {pc len : Nat} {L : List (Nat × cSt)} {Z : cStat}
/-- one way of a branch is taken -/
theorem c_way {lv : List (Nat × Value)} {st ss : List Value} {w : cWld} {S : List cAV} {o nx : Nat} {f : cLin} (hs : c_sat n0 r0 A lv st w) (hS : ∀ r, c_satR A r lv st w → c_F2 (c_DV r) S ss) (hr : ∀ r, c_satR A r lv st w → c_rel o (c_ev r f)) : ∃ B, (nx, B) ∈ c_opt nx (c_pop S (c_asm A o f)) ∧ c_sat n0 r0 B lv ss w ∧ c_cu B = c_cu A ∧ c_su B = c_su A := by
  obtain ⟨B, e, h1⟩ := hs.asm hr
  have hlk := c_asm_like e
  have hk : c_stk B = c_stk A := by
    have := congrArg (fun x => x.2.1) hlk.2.2
    exact this
  refine ⟨c_setS B S, by rw [e]; exact List.mem_cons_self, ?_, ?_, ?_⟩
  · refine hs.to hlk.1 fun r _ h2 => ?_
    obtain ⟨B', e', hB'⟩ := c_asm_ok h2 (hr r h2)
    cases e.symm.trans e'
    exact ⟨hB'.1, hB'.2.1, hB'.2.2.1, hB'.2.2.2.1, hB'.2.2.2.2.1, hS r h2, hB'.2.2.2.2.2.2⟩
  · have := congrArg (fun x => x.2.2.2.1) hlk.2.2
    exact this
  · have := congrArg (fun x => x.2.2.2.2) hlk.2.2
    exact this
theorem c_br_inv {S : List cAV} {nx o : Nat} {off : Int} {f : cLin} (h : c_br A S pc nx o off f = some L) : (pc : Int) + off = ((c_tgt pc off : Nat) : Int) ∧ L = c_opt nx (c_pop S (c_asm A (c_neg o) f)) ++ c_opt (c_tgt pc off) (c_pop S (c_asm A o f)) := by
  unfold c_br at h
  split at h
  · cases h
    exact ⟨by unfold c_tgt; omega, rfl⟩
  · cases h

theorem c_m_ifCond {o : Jvm.ClassFile.Cond} {off : Int} (hx : p.tables.exec = Jvm.exec) (hb : c.code = cc) (h : c_step K P O nL own an A pc len (.ifCond o off) = some L) (hd : decode cc pc = .ok (.ifCond o off, len)) (hL : ∀ q ∈ L, c_OK ((p, l, e, R, s, m, args, below, meth, c), (D, cl, dA, AA), (K, O, w0), (cc, nL, Q)) n0 r0 q.1 q.2) : c_OK ((p, l, e, R, s, m, args, below, meth, c), (D, cl, dA, AA), (K, O, w0), (cc, nL, Q)) n0 r0 pc A := by
  unfold c_step at h
  dsimp only at h
  obtain ⟨hn, g⟩ := c_len_inv h
  clear h
  subst hn
  split at g
  · rename_i a S hst
    split at g
    · rename_i hk
      obtain ⟨ht, hLe⟩ := c_br_inv g
      intro lv st w cu su hcu hsu hT hE hs H locs ls hP hD hS hl
      obtain ⟨v, ss, rfl, k⟩ := c_top1 hs hst
      obtain ⟨r, -, hr⟩ := hs.at
      have key : ∃ x : Int32, v = .int x ∧ ∀ r, c_satR A r lv (v :: ss) w → (x.toInt = 0 ↔ c_ev r a.2 = 0) ∧ (x.toInt < 0 ↔ c_ev r a.2 < 0) := by
        rw [Bool.or_eq_true] at hk
        rcases hk with hk | hk
        · have hk := Nat.eq_of_beq_eq_true hk
          obtain ⟨x, rfl, -⟩ := c_DVi (k r hr).1 hk
          refine ⟨x, rfl, fun r' hr' => ?_⟩
          obtain ⟨y, hy, hy2⟩ := c_DVi (k r' hr').1 hk
          cases hy
          rw [hy2]
          exact ⟨Iff.rfl, Iff.rfl⟩
        · have hk := Nat.eq_of_beq_eq_true hk
          have dv : ∀ r, c_DV r a v → ∃ x : Int32, v = .int x ∧ ((0 < x.toInt ∧ 0 < c_ev r a.2) ∨ (x.toInt = 0 ∧ c_ev r a.2 = 0) ∨ (x.toInt < 0 ∧ c_ev r a.2 < 0)) := fun r h => by
            unfold c_DV at h
            rw [hk] at h
            exact h
          obtain ⟨x, rfl, -⟩ := dv r (k r hr).1
          refine ⟨x, rfl, fun r' hr' => ?_⟩
          obtain ⟨y, hy, hy2⟩ := dv r' (k r' hr').1
          cases hy
          omega
      obtain ⟨x, rfl, kx⟩ := key
      have yes : (∀ r, c_satR A r lv (.int x :: ss) w → c_rel (c_cn o) (c_ev r a.2)) → W p l e R s m args below meth c H locs cu su Q (F0 m (c_tgt pc off) ls ss) := fun hr => by
        obtain ⟨B, b1, b2, b3, b4⟩ := c_way (nx := c_tgt pc off) hs (fun r hr => (k r hr).2) hr
        exact hL _ (by rw [hLe]; exact List.mem_append_right _ b1) lv ss w cu su (b3.trans hcu) (b4.trans hsu) hT hE b2 H locs ls hP hD hS hl
      have no : (∀ r, c_satR A r lv (.int x :: ss) w → c_rel (c_neg (c_cn o)) (c_ev r a.2)) → W p l e R s m args below meth c H locs cu su Q (F0 m (pc + 3) ls ss) := fun hr => by
        obtain ⟨B, b1, b2, b3, b4⟩ := c_way (nx := pc + 3) hs (fun r hr => (k r hr).2) hr
        exact hL _ (by rw [hLe]; exact List.mem_append_left _ b1) lv ss w cu su (b3.trans hcu) (b4.trans hsu) hT hE b2 H locs ls hP hD hS hl
      clear hL hLe g
      cases o
      · exact lv_if_eq hx hb hd ht (fun hp => yes fun r hr => by
          have := kx r hr
          rw [c_eq0] at hp
          show c_ev r a.2 = 0
          omega) (fun hp => no fun r hr => by
          have := kx r hr
          rw [c_eq0] at hp
          show c_ev r a.2 ≠ 0
          omega)
      · exact lv_if_ne hx hb hd ht (fun hp => yes fun r hr => by
          have := kx r hr
          rw [c_eq0] at hp
          show c_ev r a.2 ≠ 0
          omega) (fun hp => no fun r hr => by
          have := kx r hr
          rw [c_eq0] at hp
          show c_ev r a.2 = 0
          omega)
      · exact lv_if_lt hx hb hd ht (fun hp => yes fun r hr => by
          have := kx r hr
          rw [c_lt0] at hp
          show c_ev r a.2 < 0
          omega) (fun hp => no fun r hr => by
          have := kx r hr
          rw [c_lt0] at hp
          show 0 ≤ c_ev r a.2
          omega)
      · exact lv_if_ge hx hb hd ht (fun hp => yes fun r hr => by
          have := kx r hr
          rw [c_ge0] at hp
          show 0 ≤ c_ev r a.2
          omega) (fun hp => no fun r hr => by
          have := kx r hr
          rw [c_ge0] at hp
          show c_ev r a.2 < 0
          omega)
      · exact lv_if_gt hx hb hd ht (fun hp => yes fun r hr => by
          have := kx r hr
          rw [c_gt0] at hp
          show 0 < c_ev r a.2
          omega) (fun hp => no fun r hr => by
          have := kx r hr
          rw [c_gt0] at hp
          show c_ev r a.2 ≤ 0
          omega)
      · exact lv_if_le hx hb hd ht (fun hp => yes fun r hr => by
          have := kx r hr
          rw [c_le0] at hp
          show c_ev r a.2 ≤ 0
          omega) (fun hp => no fun r hr => by
          have := kx r hr
          rw [c_le0] at hp
          show 0 < c_ev r a.2
          omega)
    · cases g
  · cases g

theorem c_m_if_icmp {o : Jvm.ClassFile.Cond} {off : Int} (hx : p.tables.exec = Jvm.exec) (hb : c.code = cc) (h : c_step K P O nL own an A pc len (.if_icmp o off) = some L) (hd : decode cc pc = .ok (.if_icmp o off, len)) (hL : ∀ q ∈ L, c_OK ((p, l, e, R, s, m, args, below, meth, c), (D, cl, dA, AA), (K, O, w0), (cc, nL, Q)) n0 r0 q.1 q.2) : c_OK ((p, l, e, R, s, m, args, below, meth, c), (D, cl, dA, AA), (K, O, w0), (cc, nL, Q)) n0 r0 pc A := by
  unfold c_step at h
  dsimp only at h
  obtain ⟨hn, g⟩ := c_len_inv h
  clear h
  subst hn
  split at g
  · rename_i b a S hst
    split at g
    · rename_i hk
      rw [Bool.and_eq_true] at hk
      obtain ⟨ht, hLe⟩ := c_br_inv g
      intro lv st w cu su hcu hsu hT hE hs H locs ls hP hD hS hl
      obtain ⟨x, y, ss, rfl, k⟩ := c_topi2 hs hst (Nat.eq_of_beq_eq_true hk.1) (Nat.eq_of_beq_eq_true hk.2)
      have yes : (∀ r, c_satR A r lv (.int y :: .int x :: ss) w → c_rel (c_cn o) (c_ev r (c_sub a.2 b.2))) → W p l e R s m args below meth c H locs cu su Q (F0 m (c_tgt pc off) ls ss) := fun hr => by
        obtain ⟨B, b1, b2, b3, b4⟩ := c_way (nx := c_tgt pc off) hs (fun r hr => (k r hr).2.2) hr
        exact hL _ (by rw [hLe]; exact List.mem_append_right _ b1) lv ss w cu su (b3.trans hcu) (b4.trans hsu) hT hE b2 H locs ls hP hD hS hl
      have no : (∀ r, c_satR A r lv (.int y :: .int x :: ss) w → c_rel (c_neg (c_cn o)) (c_ev r (c_sub a.2 b.2))) → W p l e R s m args below meth c H locs cu su Q (F0 m (pc + 3) ls ss) := fun hr => by
        obtain ⟨B, b1, b2, b3, b4⟩ := c_way (nx := pc + 3) hs (fun r hr => (k r hr).2.2) hr
        exact hL _ (by rw [hLe]; exact List.mem_append_left _ b1) lv ss w cu su (b3.trans hcu) (b4.trans hsu) hT hE b2 H locs ls hP hD hS hl
      clear hL hLe g
      cases o
      · exact lv_icmp_eq hx hb hd ht (fun hp => yes fun r hr => by
          obtain ⟨h1, h2, -⟩ := k r hr
          rw [← Int32.toInt_inj] at hp
          show c_ev r (c_sub a.2 b.2) = 0
          rw [c_ev_sub]
          omega) (fun hp => no fun r hr => by
          obtain ⟨h1, h2, -⟩ := k r hr
          rw [← Int32.toInt_inj] at hp
          show c_ev r (c_sub a.2 b.2) ≠ 0
          rw [c_ev_sub]
          omega)
      · exact lv_icmp_ne hx hb hd ht (fun hp => yes fun r hr => by
          obtain ⟨h1, h2, -⟩ := k r hr
          rw [← Int32.toInt_inj] at hp
          show c_ev r (c_sub a.2 b.2) ≠ 0
          rw [c_ev_sub]
          omega) (fun hp => no fun r hr => by
          obtain ⟨h1, h2, -⟩ := k r hr
          rw [← Int32.toInt_inj] at hp
          show c_ev r (c_sub a.2 b.2) = 0
          rw [c_ev_sub]
          omega)
      · exact lv_icmp_lt hx hb hd ht (fun hp => yes fun r hr => by
          obtain ⟨h1, h2, -⟩ := k r hr
          rw [Int32.lt_iff_toInt_lt] at hp
          show c_ev r (c_sub a.2 b.2) < 0
          rw [c_ev_sub]
          omega) (fun hp => no fun r hr => by
          obtain ⟨h1, h2, -⟩ := k r hr
          rw [Int32.lt_iff_toInt_lt] at hp
          show 0 ≤ c_ev r (c_sub a.2 b.2)
          rw [c_ev_sub]
          omega)
      · exact lv_icmp_ge hx hb hd ht (fun hp => yes fun r hr => by
          obtain ⟨h1, h2, -⟩ := k r hr
          rw [Int32.le_iff_toInt_le] at hp
          show 0 ≤ c_ev r (c_sub a.2 b.2)
          rw [c_ev_sub]
          omega) (fun hp => no fun r hr => by
          obtain ⟨h1, h2, -⟩ := k r hr
          rw [Int32.le_iff_toInt_le] at hp
          show c_ev r (c_sub a.2 b.2) < 0
          rw [c_ev_sub]
          omega)
      · exact lv_icmp_gt hx hb hd ht (fun hp => yes fun r hr => by
          obtain ⟨h1, h2, -⟩ := k r hr
          rw [Int32.lt_iff_toInt_lt] at hp
          show 0 < c_ev r (c_sub a.2 b.2)
          rw [c_ev_sub]
          omega) (fun hp => no fun r hr => by
          obtain ⟨h1, h2, -⟩ := k r hr
          rw [Int32.lt_iff_toInt_lt] at hp
          show c_ev r (c_sub a.2 b.2) ≤ 0
          rw [c_ev_sub]
          omega)
      · exact lv_icmp_le hx hb hd ht (fun hp => yes fun r hr => by
          obtain ⟨h1, h2, -⟩ := k r hr
          rw [Int32.le_iff_toInt_le] at hp
          show c_ev r (c_sub a.2 b.2) ≤ 0
          rw [c_ev_sub]
          omega) (fun hp => no fun r hr => by
          obtain ⟨h1, h2, -⟩ := k r hr
          rw [Int32.le_iff_toInt_le] at hp
          show 0 < c_ev r (c_sub a.2 b.2)
          rw [c_ev_sub]
          omega)
    · cases g
  · cases g

theorem c_m_ifnonnull {off : Int} (hx : p.tables.exec = Jvm.exec) (hb : c.code = cc) (h : c_step K P O nL own an A pc len (.ifnonnull off) = some L) (hd : decode cc pc = .ok (.ifnonnull off, len)) (hL : ∀ q ∈ L, c_OK ((p, l, e, R, s, m, args, below, meth, c), (D, cl, dA, AA), (K, O, w0), (cc, nL, Q)) n0 r0 q.1 q.2) : c_OK ((p, l, e, R, s, m, args, below, meth, c), (D, cl, dA, AA), (K, O, w0), (cc, nL, Q)) n0 r0 pc A := by
  unfold c_step at h
  dsimp only at h
  obtain ⟨hn, g⟩ := c_len_inv h
  clear h
  subst hn
  split at g
  · rename_i s' S hst
    split at g
    · rename_i hp
      cases g
      intro lv st w cu su hcu hsu hT hE hs H locs ls hP hD hS hl
      obtain ⟨v, ss, rfl, k⟩ := c_top1 hs hst
      obtain ⟨r, -, hr⟩ := hs.at
      have ev : ∀ r, c_ev r ((2 : Nat), ((0 : Int), [(s', (1 : Int))])).2 = r s' := fun r => c_ev_sym r s'
      rcases c_DVr (k r hr).1 rfl with ⟨rfl, -⟩ | ⟨x, rfl, -⟩
      · exact lv_ifnonnullN hx hb hd (hL _ (List.mem_cons_of_mem _ List.mem_cons_self) lv ss w cu su hcu hsu hT hE (hs.to rfl fun r _ h2 => ⟨h2.1, h2.2.1, h2.2.2.1, fun f hf => (by
          rcases List.mem_cons.mp hf with rfl | hf
          · show (0 : Int) ≤ -1 + (-1 * r s' + 0)
            rcases c_DVr (k r h2).1 rfl with ⟨-, h5⟩ | ⟨y, h5, -⟩
            · rw [ev] at h5
              omega
            · cases h5
          · exact h2.2.2.2.1 f hf), h2.2.2.2.2.1, (k r h2).2, h2.2.2.2.2.2.2⟩) H locs ls hP hD hS hl)
      · refine lv_ifnonnull hx hb hd (tgt := c_tgt pc off) (by unfold c_tgt; omega) (hL _ List.mem_cons_self lv ss w cu su hcu hsu hT hE (hs.to rfl fun r _ h2 => ⟨h2.1, fun q hq => ?_, h2.2.2.1, h2.2.2.2.1, h2.2.2.2.2.1, (k r h2).2, h2.2.2.2.2.2.2⟩) H locs ls hP hD hS hl)
        rcases List.mem_cons.mp hq with rfl | hq
        · show (0 : Int) ≤ r s'
          rcases c_DVr (k r h2).1 rfl with ⟨h5, -⟩ | ⟨y, -, h5⟩
          · cases h5
          · rw [ev] at h5
            omega
        · exact h2.2.1 q hq
    · cases g
  · cases g
theorem c_m_goto {off : Int} (hx : p.tables.exec = Jvm.exec) (hb : c.code = cc) (h : c_step K P O nL own an A pc len (.goto off) = some L) (hd : decode cc pc = .ok (.goto off, len)) (hL : ∀ q ∈ L, c_OK ((p, l, e, R, s, m, args, below, meth, c), (D, cl, dA, AA), (K, O, w0), (cc, nL, Q)) n0 r0 q.1 q.2) : c_OK ((p, l, e, R, s, m, args, below, meth, c), (D, cl, dA, AA), (K, O, w0), (cc, nL, Q)) n0 r0 pc A := by
  unfold c_step at h
  dsimp only at h
  obtain ⟨hn, g⟩ := c_len_inv h
  clear h
  subst hn
  split at g
  · cases g
    intro lv st w cu su hcu hsu hT hE hs H locs ls hP hD hS hl
    exact lv_goto hx hb hd (tgt := c_tgt pc off) (by unfold c_tgt; omega) (hL _ List.mem_cons_self lv st w cu su hcu hsu hT hE hs H locs ls hP hD hS hl)
  · cases g
theorem c_sw_in {S : List cAV} {x : cLin} : ∀ (offs : List Int) (lo : Int) (i : Nat) (o : Int), offs[i]? = some o → ∀ q ∈ c_opt (c_tgt pc o) (c_pop S (c_asm A 0 (c_addc x (-(lo + i))))), q ∈ c_sw A S x pc lo offs
  | [], _, _, _, h => by simp at h
  | z :: offs, lo, 0, o, h => by
    intro q hq
    have : z = o := by simpa using h
    subst this
    unfold c_sw
    refine List.mem_append_left _ ?_
    rw [show lo + ((0 : Nat) : Int) = lo by simp] at hq
    exact hq
  | z :: offs, lo, i + 1, o, h => by
    intro q hq
    unfold c_sw
    refine List.mem_append_right _ (c_sw_in offs (lo + 1) i o (by simpa using h) q ?_)
    rw [show lo + 1 + (i : Int) = lo + ((i + 1 : Nat) : Int) by omega]
    exact hq
theorem c_a255 : ∀ n : Nat, n < 256 → ((Int32.ofInt ((n : Int) - 128)) &&& 255).toInt = if (n : Int) - 128 < 0 then (n : Int) + 128 else (n : Int) - 128 := by decide +kernel
theorem c_and255 (x : Int32) (h1 : -128 ≤ x.toInt) (h2 : x.toInt ≤ 127) : (x &&& 255).toInt = if x.toInt < 0 then x.toInt + 256 else x.toInt := by
  have e : x = Int32.ofInt ((((x.toInt + 128).toNat : Nat) : Int) - 128) := by
    apply Int32.toInt_inj.mp
    rw [c_oi32 (by omega) (by omega)]
    omega
  have h := c_a255 (x.toInt + 128).toNat (by omega)
  rw [← e] at h
  rw [h]
  split <;> split <;> omega
theorem c_m_iand (hx : p.tables.exec = Jvm.exec) (hb : c.code = cc) (h : c_step K P O nL own an A pc len (.iand) = some L) (hd : decode cc pc = .ok (.iand, len)) (hL : ∀ q ∈ L, c_OK ((p, l, e, R, s, m, args, below, meth, c), (D, cl, dA, AA), (K, O, w0), (cc, nL, Q)) n0 r0 q.1 q.2) : c_OK ((p, l, e, R, s, m, args, below, meth, c), (D, cl, dA, AA), (K, O, w0), (cc, nL, Q)) n0 r0 pc A := by
  unfold c_step at h
  dsimp only at h
  obtain ⟨hn, g⟩ := c_len_inv h
  clear h
  subst hn
  unfold c_and2 at g
  split at g
  · rename_i f S hst
    split at g
    · rename_i hc
      cases g
      intro lv st w cu su hcu hsu hT hE hs H locs ls hP hD hS hl
      obtain ⟨x, y, ss, rfl, k⟩ := c_topi2 hs hst rfl rfl
      obtain ⟨r, -, hr⟩ := hs.at
      have kk := k r hr
      have hy : y = 255 := by
        apply Int32.toInt_inj.mp
        rw [kk.2.1]
        rfl
      subst hy
      have hb' := c_in2_ok hr hc
      have hx1 : x.toInt = c_ev r f := kk.1
      have ha := c_and255 x (by omega) (by omega)
      by_cases h0 : x.toInt < 0
      · rw [if_pos h0] at ha
        obtain ⟨B, b1, b2, b3, b4⟩ := c_way (nx := pc + 1) (o := 2) (f := f) (S := (0, c_addc f 256) :: S) (ss := .int (x &&& 255) :: ss) hs (fun r hr => ⟨⟨_, rfl, by rw [ha, c_ev_addc, (k r hr).1]⟩, (k r hr).2.2⟩) (fun r hr => by
          show c_ev r f < 0
          rw [← (k r hr).1]
          exact h0)
        exact lv_iand hx hb hd (hL _ (List.mem_append_right _ b1) lv _ w cu su (b3.trans hcu) (b4.trans hsu) hT hE b2 H locs ls hP hD hS hl)
      · rw [if_neg h0] at ha
        obtain ⟨B, b1, b2, b3, b4⟩ := c_way (nx := pc + 1) (o := 3) (f := f) (S := (0, f) :: S) (ss := .int (x &&& 255) :: ss) hs (fun r hr => ⟨⟨_, rfl, by rw [ha]; exact (k r hr).1⟩, (k r hr).2.2⟩) (fun r hr => by
          show 0 ≤ c_ev r f
          rw [← (k r hr).1]
          omega)
        exact lv_iand hx hb hd (hL _ (List.mem_append_left _ b1) lv _ w cu su (b3.trans hcu) (b4.trans hsu) hT hE b2 H locs ls hP hD hS hl)
    · exact c_m_iand0 hx hb g hd hL
  · exact c_m_iand0 hx hb g hd hL
theorem c_m_tableswitch {d lo hi : Int} {offs : Array Int} (hx : p.tables.exec = Jvm.exec) (hb : c.code = cc) (h : c_step K P O nL own an A pc len (.tableswitch d lo hi offs) = some L) (hd : decode cc pc = .ok (.tableswitch d lo hi offs, len)) (hL : ∀ q ∈ L, c_OK ((p, l, e, R, s, m, args, below, meth, c), (D, cl, dA, AA), (K, O, w0), (cc, nL, Q)) n0 r0 q.1 q.2) : c_OK ((p, l, e, R, s, m, args, below, meth, c), (D, cl, dA, AA), (K, O, w0), (cc, nL, Q)) n0 r0 pc A := by
  unfold c_step at h
  dsimp only at h
  split at h
  · rename_i f S hst
    split at h
    · rename_i hc
      obtain ⟨hc1, hc2, hc3⟩ := hc
      cases h
      intro lv st w cu su hcu hsu hT hE hs H locs ls hP hD hS hl
      obtain ⟨x, ss, rfl, k⟩ := c_topi hs hst rfl
      have kk : ∀ r, c_satR A r lv (.int x :: ss) w → x.toInt = c_ev r f := fun r hr => (k r hr).1
      have go : ∀ (o : Nat) (nx : Nat) (g : cLin), (∀ q ∈ c_opt nx (c_pop S (c_asm A o g)), q ∈ c_sw A S f pc lo offs.toList ++ (c_opt (c_tgt pc d) (c_pop S (c_asm A 2 (c_addc f (-lo)))) ++ c_opt (c_tgt pc d) (c_pop S (c_asm A 4 (c_addc f (-hi)))))) → (∀ r, c_satR A r lv (.int x :: ss) w → c_rel o (c_ev r g)) → W p l e R s m args below meth c H locs cu su Q (F0 m nx ls ss) := by
        intro o nx g hin hr
        obtain ⟨B, b1, b2, b3, b4⟩ := c_way (nx := nx) hs (fun r hr => (k r hr).2) hr
        exact hL _ (hin _ b1) lv ss w cu su (b3.trans hcu) (b4.trans hsu) hT hE b2 H locs ls hP hD hS hl
      by_cases h1 : x.toInt < lo
      · refine lv_tableOut hx hb hd (Or.inl h1) (tgt := c_tgt pc d) (by unfold c_tgt; omega) (go 2 _ (c_addc f (-lo)) (fun q hq => List.mem_append_right _ (List.mem_append_left _ hq)) fun r hr => ?_)
        show c_ev r (c_addc f (-lo)) < 0
        rw [c_ev_addc, ← kk r hr]
        omega
      · by_cases h2 : hi < x.toInt
        · refine lv_tableOut hx hb hd (Or.inr h2) (tgt := c_tgt pc d) (by unfold c_tgt; omega) (go 4 _ (c_addc f (-hi)) (fun q hq => List.mem_append_right _ (List.mem_append_right _ hq)) fun r hr => ?_)
          show 0 < c_ev r (c_addc f (-hi))
          rw [c_ev_addc, ← kk r hr]
          omega
        · have hi2 : (x.toInt - lo).toNat < offs.size := by omega
          have ho : offs[(x.toInt - lo).toNat]? = some offs[(x.toInt - lo).toNat] := Array.getElem?_eq_getElem hi2
          generalize offs[(x.toInt - lo).toNat] = off at ho
          have hmem : off ∈ offs.toList := by
            rw [← Array.getElem?_toList] at ho
            exact List.mem_of_getElem? ho
          have hpos := of_decide_eq_true (List.all_eq_true.mp hc3 off hmem)
          refine lv_tableIn hx hb hd h1 h2 ho (tgt := c_tgt pc off) (by unfold c_tgt; omega) (go 0 _ (c_addc f (-(lo + ((x.toInt - lo).toNat : Int)))) (fun q hq => List.mem_append_left _ (c_sw_in offs.toList lo _ off (by rw [Array.getElem?_toList]; exact ho) q hq)) fun r hr => ?_)
          show c_ev r (c_addc f _) = 0
          rw [c_ev_addc, ← kk r hr]
          omega
    · cases h
  · cases h
end MB
