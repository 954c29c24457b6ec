/-! steps of laws and lines are read: some ways, each with what it gives -/
def k_asms : List cLin → cSt → Option cSt
  | [], A => some A
  | f :: l, A => match c_assume A f with
    | none => none
    | some B => k_asms l B
theorem k_asms_ok {n0 : Nat} {r0 : Nat → Int} {lv : List (Nat × Value)} {st : List Value} {w : cWld} : ∀ (fs : List cLin) (A : cSt), c_sat n0 r0 A lv st w → (∀ f ∈ fs, ∀ r, c_agr n0 r0 r → c_satR A r lv st w → 0 ≤ c_ev r f) → ∃ B, k_asms fs A = some B ∧ c_sat n0 r0 B lv st w ∧ (∀ r, c_satR B r lv st w → c_satR A r lv st w) ∧ B.1 = A.1 ∧ c_cu B = c_cu A ∧ c_su B = c_su A
  | [], A, hs, _ => ⟨A, rfl, hs, fun _ h => h, rfl, rfl, rfl⟩
  | f :: fs, A, hs, hf => by
    obtain ⟨B, b1, b2⟩ := hs.assume (f := f) (fun r h9 hr => hf f List.mem_cons_self r h9 hr)
    have hbk : ∀ r, c_satR B r lv st w → c_satR A r lv st w := fun r hr => c_assume_back b1 hr
    obtain ⟨C, d1, d2, d3, d4, d5, d6⟩ := k_asms_ok fs B b2 (fun g hg r h9 hr => hf g (List.mem_cons_of_mem _ hg) r h9 (hbk r hr))
    have hlk := c_assume_like b1
    have k1 := congrArg (fun x => x.2.2.2.1) hlk.2.2
    have k2 := congrArg (fun x => x.2.2.2.2) hlk.2.2
    refine ⟨C, ?_, d2, fun r hr => hbk r (d3 r hr), d4.trans hlk.1, d5.trans k1, d6.trans k2⟩
    unfold k_asms
    rw [b1]
    exact d1
abbrev kWay : Type := Int × Int × List cLin × List (Nat × cLin)
def k_brc (O : cCtr) (pc : Nat) (A : cSt) (S : List cAV) (v : kWay) : Option (List (Nat × cSt)) := match k_asms v.2.2.1 (c_setS (c_newY A v.1 v.2.1) ((0, c_sym A.1) :: S)) with
  | none => some []
  | some B => (match k_gups O v.2.2.2 B with
    | some C => some [(pc + 1, C)]
    | none => none)
def k_brs (O : cCtr) (pc : Nat) (A : cSt) (S : List cAV) : List kWay → Option (List (Nat × cSt))
  | [] => some []
  | v :: l => match k_brc O pc A S v, k_brs O pc A S l with
    | some L1, some L2 => some (L1 ++ L2)
    | _, _ => none
theorem k_brs_mem {O : cCtr} {pc : Nat} {A : cSt} {S : List cAV} : ∀ {t : List kWay} {L : List (Nat × cSt)}, k_brs O pc A S t = some L → ∀ v ∈ t, ∃ L1, k_brc O pc A S v = some L1 ∧ ∀ q ∈ L1, q ∈ L
  | [], _, _, v, hv => by cases hv
  | u :: t, L, h, v, hv => by
    unfold k_brs at h
    split at h
    · rename_i L1 L2 h1 h2
      cases h
      rcases List.mem_cons.mp hv with rfl | hv
      · exact ⟨L1, h1, fun q hq => List.mem_append_left _ hq⟩
      · obtain ⟨L3, g1, g2⟩ := k_brs_mem h2 v hv
        exact ⟨L3, g1, fun q hq => List.mem_append_right _ (g2 q hq)⟩
    · cases h
def k_tl (A : cSt) (s : Nat) : Option (cLin × List cAV) := match c_stk A with
  | (0, i) :: (2, (0, [(t, 1)])) :: S => if Nat.beq t s then some (i, S) else none
  | _ => none
theorem k_tl_inv {A : cSt} {s : Nat} {q : cLin × List cAV} (h : k_tl A s = some q) : c_stk A = (0, q.1) :: (2, c_sym s) :: q.2 := by
  unfold k_tl at h
  split at h
  · rename_i i t S hst
    split at h
    · rename_i hc
      cases h
      have := Nat.eq_of_beq_eq_true hc
      subst this
      exact hst
    · cases h
  · cases h
theorem k_reg_hit {j : Nat} {x : Nat × Nat × cVT} {l : List (Nat × Nat × cVT)} : ∀ {a : List (Nat × Nat × cVT)}, (∀ z ∈ a, ¬ (z.1 ≤ j ∧ j ≤ z.2.1)) → x.1 ≤ j → j ≤ x.2.1 → k_reg j (a ++ x :: l) = x.2.2
  | [], _, h1, h2 => by
    show (if Nat.ble x.1 j && Nat.ble j x.2.1 then _ else _) = _
    rw [if_pos]
    rw [Bool.and_eq_true]
    exact ⟨Nat.ble_eq_true_of_le h1, Nat.ble_eq_true_of_le h2⟩
  | z :: a, h, h1, h2 => by
    show (if Nat.ble z.1 j && Nat.ble j z.2.1 then _ else _) = _
    rw [if_neg]
    · exact k_reg_hit (fun y hy => h y (List.mem_cons_of_mem _ hy)) h1 h2
    · intro h9
      rw [Bool.and_eq_true] at h9
      exact h z List.mem_cons_self ⟨Nat.le_of_ble_eq_true h9.1, Nat.le_of_ble_eq_true h9.2⟩
theorem k_typC_30 {k : Nat} (h : k < 600) : k_typC (30 + k) = (0, -2147483648, 2147483647) := by
  have e := k_typC_b (b := 0) (k := 30 + k) (by omega)
  rw [Nat.mul_zero, Nat.zero_add, if_neg (by omega)] at e
  rw [e]
  unfold k_tyB
  rw [if_neg]
  · exact k_reg_hit (x := (30, 629, (0, (-2147483648), 2147483647))) (a := k_regC.take 12) (l := k_regC.drop 13) (fun z hz => by
      have : ∀ z ∈ k_regC.take 12, z.2.1 < 30 := by decide
      have := this z hz
      omega) (by show 30 ≤ 30 + k; omega) (by show 30 + k ≤ 629; omega)
  · intro h9
    rw [Bool.and_eq_true] at h9
    have := Nat.le_of_ble_eq_true h9.1
    omega
theorem k_typC_1794 {k : Nat} (h : k < 206) : k_typC (1794 + k) = (0, -3, 19) := by
  have e := k_typC_b (b := 0) (k := 1794 + k) (by omega)
  rw [Nat.mul_zero, Nat.zero_add, if_neg (by omega)] at e
  rw [e]
  unfold k_tyB
  rw [if_neg]
  · exact k_reg_hit (x := (1794, 1999, (0, (-3), 19))) (a := k_regC.dropLast) (l := []) (fun z hz => by
      have : ∀ z ∈ k_regC.dropLast, z.2.1 < 1794 := by decide
      have := this z hz
      omega) (by show 1794 ≤ 1794 + k; omega) (by show 1794 + k ≤ 1999; omega)
  · intro h9
    rw [Bool.and_eq_true] at h9
    have := Nat.le_of_ble_eq_true h9.2
    omega
section LD
variable {p : Program} {l : Launch} {e : Env} {R : Room} {s : State} {m : MethodId} {args : Array Value} {below : List Frame} {meth : Method} {c : Code} {D : va_G} {cl : List vw_C} {dA : Nat → ClassId} {AA : Nat → Prop} {O : cCtr} {w0 : cWld} {cc : ByteArray} {nL : Nat} {Q : State → Prop} {n0 : Nat} {r0 : Nat → Int}
  {A B : cSt} {pc len : Nat} {L : List (Nat × cSt)} {bk : String}
theorem k_ldw_ok {y : Nat} {i : cLin} {S : List cAV} {t : List kWay} (ha : k_arr A = some y) (hst : c_stk A = (0, i) :: (2, c_sym y) :: S) (hi : c_in3 A 0 9999 i = true) (hg : k_gis A 1 0 = true) (h : k_brs O pc A S t = some L) (hx : p.tables.exec = Jvm.exec) (hb : c.code = cc) (hK : va_K D cl (c_tys dA bk) s) (hd : decode cc pc = .ok (.iaload, 1))
    (hw : ∀ (r1 : Nat → Int) (lv : List (Nat × Value)) (st : List Value) (w : cWld) (F : Nat → Int) (ix : Nat), c_satR A r1 lv st w → (ix : Int) = c_ev r1 i → ix < 10000 → k_typd F → k_JC F w.2.2 → ∃ v ∈ t, v.1 ≤ F ix ∧ F ix ≤ v.2.1 ∧ (∀ f ∈ v.2.2.1, ∀ r, c_satR A r lv st w → 0 ≤ c_ev r f) ∧ ∀ r, c_satR A r lv st w → k_gsem r v.2.2.2 w.2.2 2 = w.2.2 2 ∧ k_gsem r v.2.2.2 w.2.2 1 = w.2.2 1 ∧ k_JC F (k_gsem r v.2.2.2 w.2.2))
    (hL : ∀ q ∈ L, c_OK ((p, l, e, R, s, m, args, below, meth, c), (D, cl, dA, AA), (k_K, O, w0), (cc, nL, Q)) n0 r0 q.1 q.2) : c_OK ((p, l, e, R, s, m, args, below, meth, c), (D, cl, dA, AA), (k_K, O, w0), (cc, nL, Q)) n0 r0 pc A := by
  intro lv st w cu su hcu hsu hT hE hs H locs ls hP hD hS hl
  obtain ⟨r1, hp, hn, hag, hr1⟩ := hs.pin
  obtain ⟨x, f, x1, x2, x3, x4, x5, x6, x7, x8⟩ := k_cell hT hD ha hr1
  have hg1 := k_gis_ok hr1 hg
  have hJ := x6 (by omega)
  obtain ⟨u, ov, ss, rfl, kk⟩ := c_top2 hp hst
  obtain ⟨ix, rfl, h1⟩ := c_DVi (kk r1 hr1).1 rfl
  have h1 : ix.toInt = c_ev r1 i := h1
  have hov : ov = .ref x := by
    rcases c_DVr (kk r1 hr1).2.1 rfl with ⟨-, hh⟩ | ⟨x', hh, h9⟩
    · have hh : c_ev r1 (c_sym y) = -1 := hh
      rw [c_ev_sym] at hh; omega
    · have h9 : c_ev r1 (c_sym y) = (x' : Int) := h9
      rw [c_ev_sym] at h9
      have : x' = x := by omega
      rw [hh, this]
  subst hov
  have h2 := c_in3_ok hr1 hi
  have h3 := c_clamp (x := ix) (by omega)
  have hlt : ix.toNatClampNeg < 10000 := by omega
  obtain ⟨v, hv, v1, v2, v3, v4⟩ := hw r1 lv _ w (k_F f) ix.toNatClampNeg hr1 (by omega) hlt x7 hJ
  obtain ⟨L1, b1, b2⟩ := k_brs_mem h v hv
  have hFz : k_F f ix.toNatClampNeg = (f ix.toNatClampNeg).toInt := by unfold k_F; rw [if_pos hlt]
  rw [hFz] at v1 v2
  obtain ⟨q0, hq0⟩ := List.getElem?_of_mem x2
  have s1 : c_sat A.1 r1 (c_setS (c_newY A v.1 v.2.1) ((0, c_sym A.1) :: S)) lv (.int (f ix.toNatClampNeg) :: ss) w := hp.new (f ix.toNatClampNeg).toInt rfl fun r _ hz hr => ⟨c_envOk_cons (by rw [hz]; exact v1) (by rw [hz]; exact v2) hr.1, hr.2.1, hr.2.2.1, hr.2.2.2.1, hr.2.2.2.2.1, ⟨⟨_, rfl, by rw [c_ev_sym]; exact hz.symm⟩, (kk r hr).2.2⟩, hr.2.2.2.2.2.2⟩
  -- the pinned state
  obtain ⟨r2, hp2, hn2, ha2, hr2⟩ := s1.pin
  have agA : ∀ r, c_agr (c_newY A v.1 v.2.1).1 r2 r → c_satR A r lv (.int ix :: .ref x :: ss) w := fun r hr => by
    obtain ⟨-, r3, h5, h6⟩ := hp
    exact h6 r (fun j hj => by rw [hr j (Nat.lt_succ_of_lt hj), ha2 j hj, h5 j hj])
  unfold k_brc at b1
  obtain ⟨B, d1, d2, d3, d4, d5, d6⟩ := k_asms_ok v.2.2.1 _ hp2 (fun g hg r h9 _ => v3 g hg r (agA r h9))
  · rw [d1] at b1
    dsimp only at b1
    split at b1
    · rename_i C hC
      cases b1
      obtain ⟨g1, g2, g3, g4, g5, g6⟩ := k_gups_ok v.2.2.2 (r1 := r2) (w0 := w0) d2 d4.symm hE hC
      obtain ⟨k1, k2, k3⟩ := v4 r2 (agA r2 (c_agr_rf _ _))
      refine va_iald hx hb hK hP q0 0 hq0 rfl (c_vin (by omega) (by omega)) hd (hL _ (b2 _ List.mem_cons_self) lv _ (w.1, w.2.1, k_gsem r2 v.2.2.2 w.2.2) cu su ((g4.trans d5).trans hcu) ((g5.trans d6).trans hsu) (c_TW_J (c_TW_noJ hT) (fun q hq => ?_)) g2 ((g1.weak hn2 ha2).weak hn hag) H locs ls hP hD hS hl)
      by_cases hqx : q.1 = x
      · have hq2 : (x, q.2) ∈ w.2.1 := by rw [← hqx]; exact hq
        have hu := c_uniq hD hq2 x2
        rw [hqx, hu]
        show k_J k_tc k_tm k_ci (w.1 x) x _ _
        rw [x3]
        refine ⟨fun _ => ?_, fun h9 => absurd h9 (by decide)⟩
        rw [k_F_iv]
        exact ⟨fun h9 => by omega, fun _ _ => k3⟩
      · refine k_oth (hT q hq).2.2.2 (by rw [k2]) k1 (fun _ hn h9 => hqx ?_)
        have := x4 hn
        omega
    · cases b1
/-- a step of a law -/
def k_w11 (e62 e63 : cLin) : List kWay := [(-2147483648, 6, [e63, c_addc (c_mul (-1) e63) 100], [(62, c_addc e62 1), (63, c_addc e63 1)]), (7, 2147483647, [c_addc e63 (-2), c_addc (c_mul (-1) e63) 100], [(62, c_addc e62 1), (63, c_addc e63 (-1))])]
def k_x11 (O : cCtr) (pc : Nat) (A : cSt) : Option (List (Nat × cSt)) := match k_arr A, k_gh A 61, k_gh A 62, k_gh A 63 with
  | some y, some e61, some e62, some e63 => (match k_tl A y with
    | some (i, S) => if k_eq A i (c_addc e62 30) && k_ge0 A (c_addc (c_sub e61 e62) (-1)) && c_in3 A 1 600 e61 && k_ge0 A e62 && c_in3 A 0 9999 i && k_gis A 1 0 then k_brs O pc A S (k_w11 e62 e63) else none
    | none => none)
  | _, _, _, _ => none
theorem k_x11_ok (hx : p.tables.exec = Jvm.exec) (hb : c.code = cc) (hK : va_K D cl (c_tys dA bk) s) (h : k_x11 O pc A = some L) (hd : decode cc pc = .ok (.iaload, 1)) (hL : ∀ q ∈ L, c_OK ((p, l, e, R, s, m, args, below, meth, c), (D, cl, dA, AA), (k_K, O, w0), (cc, nL, Q)) n0 r0 q.1 q.2) : c_OK ((p, l, e, R, s, m, args, below, meth, c), (D, cl, dA, AA), (k_K, O, w0), (cc, nL, Q)) n0 r0 pc A := by
  unfold k_x11 at h
  split at h
  · rename_i y e61 e62 e63 ha h61 h62 h63
    split at h
    · rename_i i S ht
      split at h
      · rename_i hc
        rw [Bool.and_eq_true, Bool.and_eq_true, Bool.and_eq_true, Bool.and_eq_true, Bool.and_eq_true] at hc
        obtain ⟨⟨⟨⟨⟨c0, c1⟩, c2⟩, c3⟩, c4⟩, c5⟩ := hc
        refine k_ldw_ok ha (k_tl_inv ht) c4 c5 h hx hb hK hd (fun r1 lv st w F ix hr hix hlt ty hJ => ?_) hL
        have hix : (ix : Int) = c_ev r1 i := hix
        have f0 := k_eq_ok hr c0
        have f1 := k_ge0_ok hr c1
        have f2 := c_in3_ok hr c2
        have f3 := k_ge0_ok hr c3
        have g61 := k_gh_ok hr h61
        have g62 := k_gh_ok hr h62
        have g63 := k_gh_ok hr h63
        rw [c_ev_addc] at f0 f1
        rw [c_ev_sub] at f1
        have hixe : ix = 30 + (w.2.2 62).toNat := by omega
        obtain ⟨o1, o2⟩ := k_jtst (k := (w.2.2 62).toNat) (by omega) (by omega) (by omega) hJ.2.2.1
        rw [← hixe] at o1 o2
        obtain ⟨o3, o4, o5⟩ := o1
        by_cases h6 : F ix ≤ 6
        · have tb := ty ix hlt (by rw [hixe, k_typC_30 (by omega)])
          rw [hixe, k_typC_30 (by omega)] at tb
          have tb : -2147483648 ≤ F (30 + (w.2.2 62).toNat) ∧ F (30 + (w.2.2 62).toNat) ≤ 2147483647 := tb
          rw [← hixe] at tb
          refine ⟨_, List.mem_cons_self, tb.1, h6, fun f hf r hr' => ?_, fun r hr' => ⟨rfl, rfl, ?_⟩⟩
          · have k63 := k_gh_ok hr' h63
            rcases List.mem_cons.mp hf with rfl | hf
            · omega
            · cases List.mem_singleton.mp hf
              rw [c_ev_addc, c_ev_mul]; omega
          · have k62 := k_gh_ok hr' h62
            have k63 := k_gh_ok hr' h63
            refine k_jtel (g := w.2.2) rfl ⟨rfl, rfl, rfl⟩ ⟨rfl, rfl, rfl, rfl, rfl, rfl, rfl⟩ ⟨rfl, rfl, rfl, rfl⟩ ⟨rfl, rfl⟩ rfl rfl rfl (k_tbl_gs rfl hJ.2.2.2.2.2.2.2.2.2.2.2) (o2 _ rfl ?_ ?_) hJ
            · show c_ev r (c_addc e62 1) = _; rw [c_ev_addc]; omega
            · show c_ev r (c_addc e63 1) = _; rw [c_ev_addc]; unfold k_dL; rw [if_pos h6]; omega
        · have tb := ty ix hlt (by rw [hixe, k_typC_30 (by omega)])
          rw [hixe, k_typC_30 (by omega)] at tb
          have tb : -2147483648 ≤ F (30 + (w.2.2 62).toNat) ∧ F (30 + (w.2.2 62).toNat) ≤ 2147483647 := tb
          rw [← hixe] at tb
          have h2 := o5 (by omega)
          refine ⟨_, List.mem_cons_of_mem _ List.mem_cons_self, by show 7 ≤ F ix; omega, tb.2, fun f hf r hr' => ?_, fun r hr' => ⟨rfl, rfl, ?_⟩⟩
          · have k63 := k_gh_ok hr' h63
            rcases List.mem_cons.mp hf with rfl | hf
            · rw [c_ev_addc]; omega
            · cases List.mem_singleton.mp hf
              rw [c_ev_addc, c_ev_mul]; omega
          · have k62 := k_gh_ok hr' h62
            have k63 := k_gh_ok hr' h63
            refine k_jtel (g := w.2.2) rfl ⟨rfl, rfl, rfl⟩ ⟨rfl, rfl, rfl, rfl, rfl, rfl, rfl⟩ ⟨rfl, rfl, rfl, rfl⟩ ⟨rfl, rfl⟩ rfl rfl rfl (k_tbl_gs rfl hJ.2.2.2.2.2.2.2.2.2.2.2) (o2 _ rfl ?_ ?_) hJ
            · show c_ev r (c_addc e62 1) = _; rw [c_ev_addc]; omega
            · show c_ev r (c_addc e63 (-1)) = _; rw [c_ev_addc]; unfold k_dL; rw [if_neg h6]; omega
      · cases h
    · cases h
  · cases h
/-- a step of a line -/
def k_w12 (e66 e67 : cLin) : List kWay := [(0, 19, [e67, c_addc (c_mul (-1) e67) 100], [(66, c_addc e66 1), (67, c_addc e67 1)]), (-1, -1, [c_addc e67 (-1), c_addc (c_mul (-1) e67) 100], [(66, c_addc e66 1), (67, e67)]), (-3, -2, [c_addc e67 (-2), c_addc (c_mul (-1) e67) 100], [(66, c_addc e66 1), (67, c_addc e67 (-1))])]
def k_x12 (O : cCtr) (pc : Nat) (A : cSt) : Option (List (Nat × cSt)) := match k_arr A, k_gh A 65, k_gh A 66, k_gh A 67 with
  | some y, some e65, some e66, some e67 => (match k_tl A y with
    | some (i, S) => if k_eq A i (c_addc e66 1794) && k_ge0 A (c_addc (c_sub e65 e66) (-1)) && c_in3 A 1 206 e65 && k_ge0 A e66 && c_in3 A 0 9999 i && k_gis A 1 0 then k_brs O pc A S (k_w12 e66 e67) else none
    | none => none)
  | _, _, _, _ => none
theorem k_x12_ok (hx : p.tables.exec = Jvm.exec) (hb : c.code = cc) (hK : va_K D cl (c_tys dA bk) s) (h : k_x12 O pc A = some L) (hd : decode cc pc = .ok (.iaload, 1)) (hL : ∀ q ∈ L, c_OK ((p, l, e, R, s, m, args, below, meth, c), (D, cl, dA, AA), (k_K, O, w0), (cc, nL, Q)) n0 r0 q.1 q.2) : c_OK ((p, l, e, R, s, m, args, below, meth, c), (D, cl, dA, AA), (k_K, O, w0), (cc, nL, Q)) n0 r0 pc A := by
  unfold k_x12 at h
  split at h
  · rename_i y e65 e66 e67 ha h65 h66 h67
    split at h
    · rename_i i S ht
      split at h
      · rename_i hc
        rw [Bool.and_eq_true, Bool.and_eq_true, Bool.and_eq_true, Bool.and_eq_true, Bool.and_eq_true] at hc
        obtain ⟨⟨⟨⟨⟨c0, c1⟩, c2⟩, c3⟩, c4⟩, c5⟩ := hc
        refine k_ldw_ok ha (k_tl_inv ht) c4 c5 h hx hb hK hd (fun r1 lv st w F ix hr hix hlt ty hJ => ?_) hL
        have hix : (ix : Int) = c_ev r1 i := hix
        have f0 := k_eq_ok hr c0
        have f1 := k_ge0_ok hr c1
        have f2 := c_in3_ok hr c2
        have f3 := k_ge0_ok hr c3
        have g65 := k_gh_ok hr h65
        have g66 := k_gh_ok hr h66
        have g67 := k_gh_ok hr h67
        rw [c_ev_addc] at f0 f1
        rw [c_ev_sub] at f1
        have hixe : ix = 1794 + (w.2.2 66).toNat := by omega
        obtain ⟨o1, o2⟩ := k_jlst (k := (w.2.2 66).toNat) (by omega) (by omega) (by omega) hJ.2.2.2.1
        rw [← hixe] at o1 o2
        obtain ⟨o3, o4, o5, o6⟩ := o1
        have tb := ty ix hlt (by rw [hixe, k_typC_1794 (by omega)])
        rw [hixe, k_typC_1794 (by omega), ← hixe] at tb
        have tb : -3 ≤ F ix ∧ F ix ≤ 19 := tb
        by_cases h6 : 0 ≤ F ix
        · refine ⟨_, List.mem_cons_self, h6, tb.2, fun f hf r hr' => ?_, fun r hr' => ⟨rfl, rfl, ?_⟩⟩
          · have k67 := k_gh_ok hr' h67
            rcases List.mem_cons.mp hf with rfl | hf
            · omega
            · cases List.mem_singleton.mp hf
              rw [c_ev_addc, c_ev_mul]; omega
          · have k66 := k_gh_ok hr' h66
            have k67 := k_gh_ok hr' h67
            refine k_jlyn (g := w.2.2) rfl ⟨rfl, rfl, rfl⟩ ⟨rfl, rfl, rfl, rfl, rfl, rfl, rfl⟩ ⟨rfl, rfl, rfl, rfl⟩ ⟨rfl, rfl⟩ rfl rfl rfl (k_tbl_gs rfl hJ.2.2.2.2.2.2.2.2.2.2.2) (o2 _ rfl ?_ ?_) hJ
            · show c_ev r (c_addc e66 1) = _; rw [c_ev_addc]; omega
            · show c_ev r (c_addc e67 1) = _; rw [c_ev_addc]; unfold k_dN; rw [if_pos h6]; omega
        · by_cases h7 : F ix = -1
          · have h2 := o5 h7
            refine ⟨_, List.mem_cons_of_mem _ List.mem_cons_self, by show -1 ≤ F ix; omega, by show F ix ≤ -1; omega, fun f hf r hr' => ?_, fun r hr' => ⟨rfl, rfl, ?_⟩⟩
            · have k67 := k_gh_ok hr' h67
              rcases List.mem_cons.mp hf with rfl | hf
              · rw [c_ev_addc]; omega
              · cases List.mem_singleton.mp hf
                rw [c_ev_addc, c_ev_mul]; omega
            · have k66 := k_gh_ok hr' h66
              have k67 := k_gh_ok hr' h67
              refine k_jlyn (g := w.2.2) rfl ⟨rfl, rfl, rfl⟩ ⟨rfl, rfl, rfl, rfl, rfl, rfl, rfl⟩ ⟨rfl, rfl, rfl, rfl⟩ ⟨rfl, rfl⟩ rfl rfl rfl (k_tbl_gs rfl hJ.2.2.2.2.2.2.2.2.2.2.2) (o2 _ rfl ?_ ?_) hJ
              · show c_ev r (c_addc e66 1) = _; rw [c_ev_addc]; omega
              · show c_ev r e67 = _; unfold k_dN; rw [if_neg h6, if_pos h7]; omega
          · have h2 := o6 (by omega)
            refine ⟨_, List.mem_cons_of_mem _ (List.mem_cons_of_mem _ List.mem_cons_self), tb.1, by show F ix ≤ -2; omega, fun f hf r hr' => ?_, fun r hr' => ⟨rfl, rfl, ?_⟩⟩
            · have k67 := k_gh_ok hr' h67
              rcases List.mem_cons.mp hf with rfl | hf
              · rw [c_ev_addc]; omega
              · cases List.mem_singleton.mp hf
                rw [c_ev_addc, c_ev_mul]; omega
            · have k66 := k_gh_ok hr' h66
              have k67 := k_gh_ok hr' h67
              refine k_jlyn (g := w.2.2) rfl ⟨rfl, rfl, rfl⟩ ⟨rfl, rfl, rfl, rfl, rfl, rfl, rfl⟩ ⟨rfl, rfl, rfl, rfl⟩ ⟨rfl, rfl⟩ rfl rfl rfl (k_tbl_gs rfl hJ.2.2.2.2.2.2.2.2.2.2.2) (o2 _ rfl ?_ ?_) hJ
              · show c_ev r (c_addc e66 1) = _; rw [c_ev_addc]; omega
              · show c_ev r (c_addc e67 (-1)) = _; rw [c_ev_addc]; unfold k_dN; rw [if_neg h6, if_neg h7]; omega
      · cases h
    · cases h
  · cases h
end LD
