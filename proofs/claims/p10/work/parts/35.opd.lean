/-! stores by hand, one by one -/
def k_tp (A : cSt) (s : Nat) : Option (cAV × cLin) := match c_stk A with
  | a :: (0, i) :: (2, (0, [(t, 1)])) :: _ => if Nat.beq t s && Nat.beq a.1 0 then some (a, i) else none
  | _ => none
theorem k_tp_inv {A : cSt} {s : Nat} {q : cAV × cLin} (h : k_tp A s = some q) : ∃ S, c_stk A = q.1 :: (0, q.2) :: (2, c_sym s) :: S ∧ q.1.1 = 0 := by
  unfold k_tp at h
  split at h
  · rename_i a i t S hst
    split at h
    · rename_i hc
      rw [Bool.and_eq_true] at hc
      cases h
      have := Nat.eq_of_beq_eq_true hc.1
      subst this
      exact ⟨S, hst, Nat.eq_of_beq_eq_true hc.2⟩
    · cases h
  · cases h
def k_ge0 (A : cSt) (e : cLin) : Bool := c_ent A.2.1 A.2.2.2.2.1 3 e
def k_eq (A : cSt) (e f : cLin) : Bool := c_eqL e f || (k_ge0 A (c_sub e f) && k_ge0 A (c_sub f e))
def k_gis (A : cSt) (j : Nat) (v : Int) : Bool := match k_gh A j with
  | some e => c_in2 A v v e
  | none => false
section KP
variable {A : cSt} {r : Nat → Int} {lv : List (Nat × Value)} {st : List Value} {w : cWld}
theorem k_ge0_ok {e : cLin} (hr : c_satR A r lv st w) (h : k_ge0 A e = true) : 0 ≤ c_ev r e := c_ent_ok hr.1 hr.2.2.2.1 _ _ h
theorem k_eq_ok {e f : cLin} (hr : c_satR A r lv st w) (h : k_eq A e f = true) : c_ev r e = c_ev r f := by
  unfold k_eq at h
  rw [Bool.or_eq_true, Bool.and_eq_true] at h
  rcases h with h | h
  · exact c_eqL_ok h r
  · have h1 := k_ge0_ok hr h.1
    have h2 := k_ge0_ok hr h.2
    rw [c_ev_sub] at h1 h2
    omega
theorem k_gis_ok {j : Nat} {v : Int} (hr : c_satR A r lv st w) (h : k_gis A j v = true) : w.2.2 j = v := by
  unfold k_gis at h
  split at h
  · rename_i e he
    have h1 := c_in2_ok hr h
    have h2 := k_gh_ok hr he
    omega
  · cases h
end KP
theorem k_tbl_gs {r : Nat → Int} : ∀ {U : List (Nat × cLin)} {g : Nat → Int}, U.all (fun u => Nat.blt u.1 1000) = true → k_tbl g → k_tbl (k_gsem r U g)
  | [], _, _, h => h
  | u :: l, g, hU, h => by
    rw [List.all_cons, Bool.and_eq_true] at hU
    have h1 : u.1 < 1000 := Nat.le_of_ble_eq_true hU.1
    refine k_tbl_gs (U := l) hU.2 (fun x y => ?_)
    have hx := x.le_toInt
    have hy := y.le_toInt
    have e9 : k_bix x.toInt y.toInt ≥ 1000 := by unfold k_bix; omega
    show (if _ = u.1 then _ else _) = _
    rw [if_neg (by omega)]
    exact h x y
section KX
variable {p : Program} {l : Launch} {e : Env} {R : Room} {s : State} {m : MethodId} {args : Array Value} {below : List Frame} {meth : Method} {c : Code} {D : va_G} {cl : List vw_C} {dA : Nat → ClassId} {AA : Nat → Prop} {O : cCtr} {w0 : cWld} {cc : ByteArray} {nL : Nat} {Q : State → Prop} {n0 : Nat} {r0 : Nat → Int}
  {A B : cSt} {pc len : Nat} {L : List (Nat × cSt)} {bk : String}
/-- places 8 to 11 -/
def k_x1 (O : cCtr) (pc : Nat) (A : cSt) : Option (List (Nat × cSt)) := match k_arr A with
  | some y => (match k_tp A y with
    | some (a, i) => if c_in2 A 8 11 i && (c_in3 A 0 11 a.2 || k_gis A 1 2) then k_hst (c_noJ k_K) O [] A pc else none
    | none => none)
  | none => none
theorem k_x1_ok (hx : p.tables.exec = Jvm.exec) (hb : c.code = cc) (hK : va_K D cl (c_tys dA bk) s) (h : k_x1 O pc A = some L) (hd : decode cc pc = .ok (.iastore, 1)) (hL : ∀ q ∈ L, c_OK ((p, l, e, R, s, m, args, below, meth, c), (D, cl, dA, AA), (k_K, O, w0), (cc, nL, Q)) n0 r0 q.1 q.2) : c_OK ((p, l, e, R, s, m, args, below, meth, c), (D, cl, dA, AA), (k_K, O, w0), (cc, nL, Q)) n0 r0 pc A := by
  unfold k_x1 at h
  split at h
  · rename_i y ha
    split at h
    · rename_i a i ht
      split at h
      · rename_i hc
        rw [Bool.and_eq_true, Bool.or_eq_true] at hc
        obtain ⟨S, hst, ha0⟩ := k_tp_inv ht
        have hst : c_stk A = a :: (0, i) :: (2, c_sym y) :: S := hst
        refine k_st_ok ha hx hb hK h hd hst (fun r lv st w hr => ⟨rfl, Iff.rfl, fun F ix kn ty hlt hix => ?_⟩) hL
        have h8 := c_in2_ok hr hc.1
        rcases hc.2 with h9 | h9
        · have h9 := c_in3_ok hr h9
          exact ⟨fun _ hJ => k_b811 (by omega) (by omega) h9 hJ, fun _ hJ => k_j811 (by omega) (by omega) (Or.inr h9) hJ⟩
        · have h9 := k_gis_ok hr h9
          exact ⟨fun h1 _ => by omega, fun _ hJ => k_j811 (by omega) (by omega) (Or.inl h9) hJ⟩
      · cases h
    · cases h
  · cases h
/-- a number or a variable of a law is laid -/
def k_x2a (O : cCtr) (pc : Nat) (A : cSt) : Option (List (Nat × cSt)) := match k_arr A, k_gh A 80, k_gh A 81 with
  | some y, some e80, some e81 => (match k_tp A y with
    | some (a, i) => if k_eq A i (c_addc e81 8030) && c_in3 A 0 599 e81 && k_gis A 83 1 && c_in3 A (-2147483648) 6 a.2 && c_in3 A 0 100 e80 then k_hst (c_noJ k_K) O [(80, c_addc e80 1), (81, c_addc e81 1), (87, c_con 0)] A pc else none
    | none => none)
  | _, _, _ => none
theorem k_x2a_ok (hx : p.tables.exec = Jvm.exec) (hb : c.code = cc) (hK : va_K D cl (c_tys dA bk) s) (h : k_x2a O pc A = some L) (hd : decode cc pc = .ok (.iastore, 1)) (hL : ∀ q ∈ L, c_OK ((p, l, e, R, s, m, args, below, meth, c), (D, cl, dA, AA), (k_K, O, w0), (cc, nL, Q)) n0 r0 q.1 q.2) : c_OK ((p, l, e, R, s, m, args, below, meth, c), (D, cl, dA, AA), (k_K, O, w0), (cc, nL, Q)) n0 r0 pc A := by
  unfold k_x2a at h
  split at h
  · rename_i y e80 e81 ha hg80 hg81
    split at h
    · rename_i a i ht
      split at h
      · rename_i hc
        rw [Bool.and_eq_true, Bool.and_eq_true, Bool.and_eq_true, Bool.and_eq_true] at hc
        obtain ⟨⟨⟨⟨c0, c1⟩, c2⟩, c3⟩, c4⟩ := hc
        obtain ⟨S, hst, ha0⟩ := k_tp_inv ht
        have hst : c_stk A = a :: (0, i) :: (2, c_sym y) :: S := hst
        have hst : c_stk A = a :: (0, i) :: (2, c_sym y) :: S := hst
        refine k_st_ok ha hx hb hK h hd hst (fun r lv st w hr => ⟨rfl, Iff.rfl, fun F ix kn ty hlt hix => ?_⟩) hL
        have f0 := k_eq_ok hr c0
        have f1 := c_in3_ok hr c1
        have f2 := k_gis_ok hr c2
        have f3 := c_in3_ok hr c3
        have f4 := c_in3_ok hr c4
        have g80 := k_gh_ok hr hg80
        have g81 := k_gh_ok hr hg81
        simp only [c_ev_addc, c_ev_con, c_ev_mul] at *
        refine ⟨fun h1 hJ => ?_, fun h1 hJ => ?_⟩
        · exact k_bb4 (fun j hj => k_up_ne (by omega)) hJ
        · have hix2 : ix = 8030 + (w.2.2 81).toNat := by omega
          subst hix2
          exact k_jcode (g := w.2.2) (e := (w.2.2 81).toNat) (h' := c_ev r (c_addc e80 1)) (by omega) (by omega) (Or.inr ⟨by omega, f2, ⟨by omega, by omega, fun h7 => by omega⟩, by unfold k_dL; rw [if_pos (by omega), c_ev_addc]; omega⟩) rfl (by show c_ev r (c_addc e81 1) = _; rw [c_ev_addc]; omega) rfl rfl rfl ⟨rfl, rfl, rfl⟩ ⟨rfl, rfl, rfl⟩ ⟨rfl, rfl, rfl, rfl, rfl, rfl, rfl⟩ ⟨rfl, rfl⟩ rfl rfl (k_tbl_gs rfl hJ.2.2.2.2.2.2.2.2.2.2.2) hJ
      · cases h
    · cases h
  · cases h
/-- an operation of a law is laid -/
def k_x2b (O : cCtr) (pc : Nat) (A : cSt) : Option (List (Nat × cSt)) := match k_arr A, k_gh A 80, k_gh A 81 with
  | some y, some e80, some e81 => (match k_tp A y with
    | some (a, i) => if k_eq A i (c_addc e81 8030) && c_in3 A 0 599 e81 && k_gis A 83 1 && c_in3 A 7 2147483647 a.2 && c_in3 A 2 100 e80 then k_hst (c_noJ k_K) O [(80, c_addc e80 (-1)), (81, c_addc e81 1), (87, c_con 0)] A pc else none
    | none => none)
  | _, _, _ => none
theorem k_x2b_ok (hx : p.tables.exec = Jvm.exec) (hb : c.code = cc) (hK : va_K D cl (c_tys dA bk) s) (h : k_x2b O pc A = some L) (hd : decode cc pc = .ok (.iastore, 1)) (hL : ∀ q ∈ L, c_OK ((p, l, e, R, s, m, args, below, meth, c), (D, cl, dA, AA), (k_K, O, w0), (cc, nL, Q)) n0 r0 q.1 q.2) : c_OK ((p, l, e, R, s, m, args, below, meth, c), (D, cl, dA, AA), (k_K, O, w0), (cc, nL, Q)) n0 r0 pc A := by
  unfold k_x2b at h
  split at h
  · rename_i y e80 e81 ha hg80 hg81
    split at h
    · rename_i a i ht
      split at h
      · rename_i hc
        rw [Bool.and_eq_true, Bool.and_eq_true, Bool.and_eq_true, Bool.and_eq_true] at hc
        obtain ⟨⟨⟨⟨c0, c1⟩, c2⟩, c3⟩, c4⟩ := hc
        obtain ⟨S, hst, ha0⟩ := k_tp_inv ht
        have hst : c_stk A = a :: (0, i) :: (2, c_sym y) :: S := hst
        have hst : c_stk A = a :: (0, i) :: (2, c_sym y) :: S := hst
        refine k_st_ok ha hx hb hK h hd hst (fun r lv st w hr => ⟨rfl, Iff.rfl, fun F ix kn ty hlt hix => ?_⟩) hL
        have f0 := k_eq_ok hr c0
        have f1 := c_in3_ok hr c1
        have f2 := k_gis_ok hr c2
        have f3 := c_in3_ok hr c3
        have f4 := c_in3_ok hr c4
        have g80 := k_gh_ok hr hg80
        have g81 := k_gh_ok hr hg81
        simp only [c_ev_addc, c_ev_con, c_ev_mul] at *
        refine ⟨fun h1 hJ => ?_, fun h1 hJ => ?_⟩
        · exact k_bb4 (fun j hj => k_up_ne (by omega)) hJ
        · have hix2 : ix = 8030 + (w.2.2 81).toNat := by omega
          subst hix2
          exact k_jcode (g := w.2.2) (e := (w.2.2 81).toNat) (h' := c_ev r (c_addc e80 (-1))) (by omega) (by omega) (Or.inr ⟨by omega, f2, ⟨by omega, by omega, fun h7 => by omega⟩, by unfold k_dL; rw [if_neg (by omega), c_ev_addc]; omega⟩) rfl (by show c_ev r (c_addc e81 1) = _; rw [c_ev_addc]; omega) rfl rfl rfl ⟨rfl, rfl, rfl⟩ ⟨rfl, rfl, rfl⟩ ⟨rfl, rfl, rfl, rfl, rfl, rfl, rfl⟩ ⟨rfl, rfl⟩ rfl rfl (k_tbl_gs rfl hJ.2.2.2.2.2.2.2.2.2.2.2) hJ
      · cases h
    · cases h
  · cases h
/-- a law that is broken -/
def k_x2c (O : cCtr) (pc : Nat) (A : cSt) : Option (List (Nat × cSt)) := match k_arr A, k_gh A 80, k_gh A 81 with
  | some y, some e80, some e81 => (match k_tp A y with
    | some (a, i) => if k_eq A i (c_addc e81 8030) && c_in3 A 0 599 e81 then k_hst (c_noJ k_K) O [(80, c_con (-1)), (81, c_addc e81 1), (87, c_con 0)] A pc else none
    | none => none)
  | _, _, _ => none
theorem k_x2c_ok (hx : p.tables.exec = Jvm.exec) (hb : c.code = cc) (hK : va_K D cl (c_tys dA bk) s) (h : k_x2c O pc A = some L) (hd : decode cc pc = .ok (.iastore, 1)) (hL : ∀ q ∈ L, c_OK ((p, l, e, R, s, m, args, below, meth, c), (D, cl, dA, AA), (k_K, O, w0), (cc, nL, Q)) n0 r0 q.1 q.2) : c_OK ((p, l, e, R, s, m, args, below, meth, c), (D, cl, dA, AA), (k_K, O, w0), (cc, nL, Q)) n0 r0 pc A := by
  unfold k_x2c at h
  split at h
  · rename_i y e80 e81 ha hg80 hg81
    split at h
    · rename_i a i ht
      split at h
      · rename_i hc
        rw [Bool.and_eq_true] at hc
        obtain ⟨c0, c1⟩ := hc
        obtain ⟨S, hst, ha0⟩ := k_tp_inv ht
        have hst : c_stk A = a :: (0, i) :: (2, c_sym y) :: S := hst
        have hst : c_stk A = a :: (0, i) :: (2, c_sym y) :: S := hst
        refine k_st_ok ha hx hb hK h hd hst (fun r lv st w hr => ⟨rfl, Iff.rfl, fun F ix kn ty hlt hix => ?_⟩) hL
        have f0 := k_eq_ok hr c0
        have f1 := c_in3_ok hr c1
        have g80 := k_gh_ok hr hg80
        have g81 := k_gh_ok hr hg81
        simp only [c_ev_addc, c_ev_con, c_ev_mul] at *
        refine ⟨fun h1 hJ => ?_, fun h1 hJ => ?_⟩
        · exact k_bb4 (fun j hj => k_up_ne (by omega)) hJ
        · have hix2 : ix = 8030 + (w.2.2 81).toNat := by omega
          subst hix2
          exact k_jcode (g := w.2.2) (e := (w.2.2 81).toNat) (h' := -1) (by omega) (by omega) (Or.inl (by omega)) (c_ev_con r (-1)) (by show c_ev r (c_addc e81 1) = _; rw [c_ev_addc]; omega) rfl rfl rfl ⟨rfl, rfl, rfl⟩ ⟨rfl, rfl, rfl⟩ ⟨rfl, rfl, rfl, rfl, rfl, rfl, rfl⟩ ⟨rfl, rfl⟩ rfl rfl (k_tbl_gs rfl hJ.2.2.2.2.2.2.2.2.2.2.2) hJ
      · cases h
    · cases h
  · cases h
/-- a law begins -/
def k_x3a (O : cCtr) (pc : Nat) (A : cSt) : Option (List (Nat × cSt)) := match k_arr A, k_gh A 80, k_gh A 81, k_gh A 82 with
  | some y, some e80, some e81, some e82 => (match k_tp A y with
    | some (a, i) => if k_eq A i (c_addc e82 8019) && c_in3 A 0 3 e82 && k_gis A 83 0 && k_eq A a.2 e81 && c_in3 A 0 600 e81 && k_ge0 A e80 then k_hst (c_noJ k_K) O [(80, c_con 0), (83, c_con 1), (87, c_con 0), (88, c_con 0)] A pc else none
    | none => none)
  | _, _, _, _ => none
theorem k_x3a_ok (hx : p.tables.exec = Jvm.exec) (hb : c.code = cc) (hK : va_K D cl (c_tys dA bk) s) (h : k_x3a O pc A = some L) (hd : decode cc pc = .ok (.iastore, 1)) (hL : ∀ q ∈ L, c_OK ((p, l, e, R, s, m, args, below, meth, c), (D, cl, dA, AA), (k_K, O, w0), (cc, nL, Q)) n0 r0 q.1 q.2) : c_OK ((p, l, e, R, s, m, args, below, meth, c), (D, cl, dA, AA), (k_K, O, w0), (cc, nL, Q)) n0 r0 pc A := by
  unfold k_x3a at h
  split at h
  · rename_i y e80 e81 e82 ha hg80 hg81 hg82
    split at h
    · rename_i a i ht
      split at h
      · rename_i hc
        rw [Bool.and_eq_true, Bool.and_eq_true, Bool.and_eq_true, Bool.and_eq_true, Bool.and_eq_true] at hc
        obtain ⟨⟨⟨⟨⟨c0, c1⟩, c2⟩, c3⟩, c4⟩, c5⟩ := hc
        obtain ⟨S, hst, ha0⟩ := k_tp_inv ht
        have hst : c_stk A = a :: (0, i) :: (2, c_sym y) :: S := hst
        have hst : c_stk A = a :: (0, i) :: (2, c_sym y) :: S := hst
        refine k_st_ok ha hx hb hK h hd hst (fun r lv st w hr => ⟨rfl, Iff.rfl, fun F ix kn ty hlt hix => ?_⟩) hL
        have f0 := k_eq_ok hr c0
        have f1 := c_in3_ok hr c1
        have f2 := k_gis_ok hr c2
        have f3 := k_eq_ok hr c3
        have f4 := c_in3_ok hr c4
        have f5 := k_ge0_ok hr c5
        have g80 := k_gh_ok hr hg80
        have g81 := k_gh_ok hr hg81
        have g82 := k_gh_ok hr hg82
        simp only [c_ev_addc, c_ev_con, c_ev_mul] at *
        refine ⟨fun h1 hJ => ?_, fun h1 hJ => ?_⟩
        · exact k_bb4 (fun j hj => k_up_ne (by omega)) hJ
        · have hix2 : ix = 8019 + (w.2.2 82).toNat := by omega
          subst hix2
          rw [show c_ev r a.2 = w.2.2 81 by omega]
          exact k_jlawA (g := w.2.2) (n := (w.2.2 82).toNat) (h' := 0) (by omega) (by omega) f2 (by omega) (Or.inr ⟨by omega, rfl⟩) (c_ev_con r 0) rfl rfl (c_ev_con r 1) rfl ⟨rfl, rfl, rfl⟩ ⟨rfl, rfl, rfl⟩ ⟨rfl, rfl, rfl, rfl, rfl, rfl, rfl⟩ ⟨rfl, rfl⟩ rfl rfl (k_tbl_gs rfl hJ.2.2.2.2.2.2.2.2.2.2.2) hJ
      · cases h
    · cases h
  · cases h
/-- a law begins that is broken -/
def k_x3c (O : cCtr) (pc : Nat) (A : cSt) : Option (List (Nat × cSt)) := match k_arr A, k_gh A 80, k_gh A 81, k_gh A 82 with
  | some y, some e80, some e81, some e82 => (match k_tp A y with
    | some (a, i) => if k_eq A i (c_addc e82 8019) && c_in3 A 0 3 e82 && k_gis A 83 0 && k_eq A a.2 e81 && c_in3 A 0 600 e81 then k_hst (c_noJ k_K) O [(80, c_con (-1)), (83, c_con 1), (87, c_con 0), (88, c_con 0)] A pc else none
    | none => none)
  | _, _, _, _ => none
theorem k_x3c_ok (hx : p.tables.exec = Jvm.exec) (hb : c.code = cc) (hK : va_K D cl (c_tys dA bk) s) (h : k_x3c O pc A = some L) (hd : decode cc pc = .ok (.iastore, 1)) (hL : ∀ q ∈ L, c_OK ((p, l, e, R, s, m, args, below, meth, c), (D, cl, dA, AA), (k_K, O, w0), (cc, nL, Q)) n0 r0 q.1 q.2) : c_OK ((p, l, e, R, s, m, args, below, meth, c), (D, cl, dA, AA), (k_K, O, w0), (cc, nL, Q)) n0 r0 pc A := by
  unfold k_x3c at h
  split at h
  · rename_i y e80 e81 e82 ha hg80 hg81 hg82
    split at h
    · rename_i a i ht
      split at h
      · rename_i hc
        rw [Bool.and_eq_true, Bool.and_eq_true, Bool.and_eq_true, Bool.and_eq_true] at hc
        obtain ⟨⟨⟨⟨c0, c1⟩, c2⟩, c3⟩, c4⟩ := hc
        obtain ⟨S, hst, ha0⟩ := k_tp_inv ht
        have hst : c_stk A = a :: (0, i) :: (2, c_sym y) :: S := hst
        have hst : c_stk A = a :: (0, i) :: (2, c_sym y) :: S := hst
        refine k_st_ok ha hx hb hK h hd hst (fun r lv st w hr => ⟨rfl, Iff.rfl, fun F ix kn ty hlt hix => ?_⟩) hL
        have f0 := k_eq_ok hr c0
        have f1 := c_in3_ok hr c1
        have f2 := k_gis_ok hr c2
        have f3 := k_eq_ok hr c3
        have f4 := c_in3_ok hr c4
        have g80 := k_gh_ok hr hg80
        have g81 := k_gh_ok hr hg81
        have g82 := k_gh_ok hr hg82
        simp only [c_ev_addc, c_ev_con, c_ev_mul] at *
        refine ⟨fun h1 hJ => ?_, fun h1 hJ => ?_⟩
        · exact k_bb4 (fun j hj => k_up_ne (by omega)) hJ
        · have hix2 : ix = 8019 + (w.2.2 82).toNat := by omega
          subst hix2
          rw [show c_ev r a.2 = w.2.2 81 by omega]
          exact k_jlawA (g := w.2.2) (n := (w.2.2 82).toNat) (h' := -1) (by omega) (by omega) f2 (by omega) (Or.inl (by omega)) (c_ev_con r (-1)) rfl rfl (c_ev_con r 1) rfl ⟨rfl, rfl, rfl⟩ ⟨rfl, rfl, rfl⟩ ⟨rfl, rfl, rfl, rfl, rfl, rfl, rfl⟩ ⟨rfl, rfl⟩ rfl rfl (k_tbl_gs rfl hJ.2.2.2.2.2.2.2.2.2.2.2) hJ
      · cases h
    · cases h
  · cases h
/-- a law ends -/
def k_x4 (O : cCtr) (pc : Nat) (A : cSt) : Option (List (Nat × cSt)) := match k_arr A, k_gh A 81, k_gh A 82 with
  | some y, some e81, some e82 => (match k_tp A y with
    | some (a, i) => if k_eq A i (c_addc e82 8020) && c_in3 A 0 3 e82 && k_gis A 83 1 && k_eq A a.2 e81 then k_hst (c_noJ k_K) O [(82, c_addc e82 1), (83, c_con 0), (87, c_con 0), (88, c_con 0)] A pc else none
    | none => none)
  | _, _, _ => none
theorem k_x4_ok (hx : p.tables.exec = Jvm.exec) (hb : c.code = cc) (hK : va_K D cl (c_tys dA bk) s) (h : k_x4 O pc A = some L) (hd : decode cc pc = .ok (.iastore, 1)) (hL : ∀ q ∈ L, c_OK ((p, l, e, R, s, m, args, below, meth, c), (D, cl, dA, AA), (k_K, O, w0), (cc, nL, Q)) n0 r0 q.1 q.2) : c_OK ((p, l, e, R, s, m, args, below, meth, c), (D, cl, dA, AA), (k_K, O, w0), (cc, nL, Q)) n0 r0 pc A := by
  unfold k_x4 at h
  split at h
  · rename_i y e81 e82 ha hg81 hg82
    split at h
    · rename_i a i ht
      split at h
      · rename_i hc
        rw [Bool.and_eq_true, Bool.and_eq_true, Bool.and_eq_true] at hc
        obtain ⟨⟨⟨c0, c1⟩, c2⟩, c3⟩ := hc
        obtain ⟨S, hst, ha0⟩ := k_tp_inv ht
        have hst : c_stk A = a :: (0, i) :: (2, c_sym y) :: S := hst
        have hst : c_stk A = a :: (0, i) :: (2, c_sym y) :: S := hst
        refine k_st_ok ha hx hb hK h hd hst (fun r lv st w hr => ⟨rfl, Iff.rfl, fun F ix kn ty hlt hix => ?_⟩) hL
        have f0 := k_eq_ok hr c0
        have f1 := c_in3_ok hr c1
        have f2 := k_gis_ok hr c2
        have f3 := k_eq_ok hr c3
        have g81 := k_gh_ok hr hg81
        have g82 := k_gh_ok hr hg82
        simp only [c_ev_addc, c_ev_con, c_ev_mul] at *
        refine ⟨fun h1 hJ => ?_, fun h1 hJ => ?_⟩
        · exact k_bb4 (fun j hj => k_up_ne (by omega)) hJ
        · have hix2 : ix = 8020 + (w.2.2 82).toNat := by omega
          subst hix2
          rw [show c_ev r a.2 = w.2.2 81 by omega]
          exact k_jlawB (g := w.2.2) (n := (w.2.2 82).toNat) (by omega) (by omega) f2 rfl rfl (by show c_ev r (c_addc e82 1) = _; rw [c_ev_addc]; omega) rfl rfl ⟨rfl, rfl, rfl⟩ ⟨rfl, rfl, rfl⟩ ⟨rfl, rfl, rfl, rfl, rfl, rfl, rfl⟩ ⟨rfl, rfl⟩ rfl rfl (k_tbl_gs rfl hJ.2.2.2.2.2.2.2.2.2.2.2) hJ
      · cases h
    · cases h
  · cases h
/-- the new block is cleared -/
def k_x5 (O : cCtr) (pc : Nat) (A : cSt) : Option (List (Nat × cSt)) := match k_arr A, k_gh A 88 with
  | some y, some e88 => (match k_tp A y with
    | some (a, i) => if k_eq A i (c_addc e88 8000) && c_in3 A 0 1589 e88 && c_in2 A 0 0 a.2 && k_gis A 80 (-1) then k_hst (c_noJ k_K) O [(88, c_addc e88 1), (87, c_con 0)] A pc else none
    | none => none)
  | _, _ => none
theorem k_x5_ok (hx : p.tables.exec = Jvm.exec) (hb : c.code = cc) (hK : va_K D cl (c_tys dA bk) s) (h : k_x5 O pc A = some L) (hd : decode cc pc = .ok (.iastore, 1)) (hL : ∀ q ∈ L, c_OK ((p, l, e, R, s, m, args, below, meth, c), (D, cl, dA, AA), (k_K, O, w0), (cc, nL, Q)) n0 r0 q.1 q.2) : c_OK ((p, l, e, R, s, m, args, below, meth, c), (D, cl, dA, AA), (k_K, O, w0), (cc, nL, Q)) n0 r0 pc A := by
  unfold k_x5 at h
  split at h
  · rename_i y e88 ha hg88
    split at h
    · rename_i a i ht
      split at h
      · rename_i hc
        rw [Bool.and_eq_true, Bool.and_eq_true, Bool.and_eq_true] at hc
        obtain ⟨⟨⟨c0, c1⟩, c2⟩, c3⟩ := hc
        obtain ⟨S, hst, ha0⟩ := k_tp_inv ht
        have hst : c_stk A = a :: (0, i) :: (2, c_sym y) :: S := hst
        have hst : c_stk A = a :: (0, i) :: (2, c_sym y) :: S := hst
        refine k_st_ok ha hx hb hK h hd hst (fun r lv st w hr => ⟨rfl, Iff.rfl, fun F ix kn ty hlt hix => ?_⟩) hL
        have f0 := k_eq_ok hr c0
        have f1 := c_in3_ok hr c1
        have f2 := c_in2_ok hr c2
        have f3 := k_gis_ok hr c3
        have g88 := k_gh_ok hr hg88
        simp only [c_ev_addc, c_ev_con, c_ev_mul] at *
        refine ⟨fun h1 hJ => ?_, fun h1 hJ => ?_⟩
        · exact k_bb4 (fun j hj => k_up_ne (by omega)) hJ
        · have hix2 : ix = 8000 + (w.2.2 88).toNat := by omega
          subst hix2
          rw [show c_ev r a.2 = 0 by omega]
          exact k_jclr (g := w.2.2) (k := (w.2.2 88).toNat) (by omega) (by omega) (by omega) (by show c_ev r (c_addc e88 1) = _; rw [c_ev_addc]; omega) rfl ⟨rfl, rfl, rfl⟩ ⟨rfl, rfl, rfl⟩ ⟨rfl, rfl, rfl, rfl, rfl, rfl, rfl⟩ ⟨rfl, rfl, rfl, rfl⟩ ⟨rfl, rfl⟩ rfl (k_tbl_gs rfl hJ.2.2.2.2.2.2.2.2.2.2.2) hJ
      · cases h
    · cases h
  · cases h
def k_src (A : cSt) (y : Nat) (idx v : cLin) : Bool := match c_mget y idx (c_me A) with
  | some (0, u) => k_eq A u v
  | _ => false
theorem k_src_ok {y : Nat} {idx v : cLin} {r : Nat → Int} {lv : List (Nat × Value)} {st : List Value} {w : cWld} {F : Nat → Int} {j : Nat} (hr : c_satR A r lv st w) (h : k_src A y idx v = true) (kn : k_kn A r y F) (hj : c_ev r idx = (j : Int)) : F j = c_ev r v := by
  unfold k_src at h
  split at h
  · rename_i u hu
    rw [kn _ _ j hu hj]
    exact k_eq_ok hr h
  · cases h
/-- the new laws are copied -/
def k_x6 (O : cCtr) (pc : Nat) (A : cSt) : Option (List (Nat × cSt)) := match k_arr A, k_gh A 87 with
  | some y, some e87 => (match k_tp A y with
    | some (a, i) => if k_eq A i e87 && c_in3 A 0 1589 e87 && k_gis A 1 7 && k_src A y (c_addc i 8000) a.2 then k_hst (c_noJ k_K) O [(87, c_addc e87 1), (61, c_con 0)] A pc else none
    | none => none)
  | _, _ => none
theorem k_x6_ok (hx : p.tables.exec = Jvm.exec) (hb : c.code = cc) (hK : va_K D cl (c_tys dA bk) s) (h : k_x6 O pc A = some L) (hd : decode cc pc = .ok (.iastore, 1)) (hL : ∀ q ∈ L, c_OK ((p, l, e, R, s, m, args, below, meth, c), (D, cl, dA, AA), (k_K, O, w0), (cc, nL, Q)) n0 r0 q.1 q.2) : c_OK ((p, l, e, R, s, m, args, below, meth, c), (D, cl, dA, AA), (k_K, O, w0), (cc, nL, Q)) n0 r0 pc A := by
  unfold k_x6 at h
  split at h
  · rename_i y e87 ha hg87
    split at h
    · rename_i a i ht
      split at h
      · rename_i hc
        rw [Bool.and_eq_true, Bool.and_eq_true, Bool.and_eq_true] at hc
        obtain ⟨⟨⟨c0, c1⟩, c2⟩, c3⟩ := hc
        obtain ⟨S, hst, ha0⟩ := k_tp_inv ht
        have hst : c_stk A = a :: (0, i) :: (2, c_sym y) :: S := hst
        have hst : c_stk A = a :: (0, i) :: (2, c_sym y) :: S := hst
        refine k_st_ok ha hx hb hK h hd hst (fun r lv st w hr => ⟨rfl, Iff.rfl, fun F ix kn ty hlt hix => ?_⟩) hL
        have f0 := k_eq_ok hr c0
        have f1 := c_in3_ok hr c1
        have f2 := k_gis_ok hr c2
        have g87 := k_gh_ok hr hg87
        simp only [c_ev_addc, c_ev_con, c_ev_mul] at *
        refine ⟨fun h1 hJ => ?_, fun h1 hJ => ?_⟩
        · omega
        · have f3 := k_src_ok (j := 8000 + ix) hr c3 kn (by rw [c_ev_addc]; omega)
          have hix2 : ix = (w.2.2 87).toNat := by omega
          rw [← f3]
          exact k_jcpl (g := w.2.2) (k := ix) (by omega) rfl (fun h7 h8 => by
            have h9 := ty (8000 + ix) (by omega) (by rcases (show ix = 8 ∨ ix = 9 ∨ ix = 10 ∨ ix = 11 by omega) with q | q | q | q <;> rw [q] <;> decide +kernel)
            rcases (show ix = 8 ∨ ix = 9 ∨ ix = 10 ∨ ix = 11 by omega) with q | q | q | q <;> rw [q] at h9 ⊢ <;> exact h9) f2 (by omega) (by show c_ev r (c_addc e87 1) = _; rw [c_ev_addc]; omega) rfl (c_ev_con r 0) ⟨rfl, rfl, rfl⟩ ⟨rfl, rfl, rfl, rfl, rfl, rfl, rfl⟩ ⟨rfl, rfl, rfl, rfl⟩ ⟨rfl, rfl⟩ rfl (k_tbl_gs rfl hJ.2.2.2.2.2.2.2.2.2.2.2) hJ
      · cases h
    · cases h
  · cases h
/-- the new line is copied -/
def k_x8 (O : cCtr) (pc : Nat) (A : cSt) : Option (List (Nat × cSt)) := match k_arr A, k_gh A 87 with
  | some y, some e87 => (match k_tp A y with
    | some (a, i) => if k_eq A i e87 && c_in3 A 1712 1999 e87 && k_gis A 1 8 && k_src A y (c_addc i 8000) a.2 then k_hst (c_noJ k_K) O [(87, c_addc e87 1), (65, c_con 0)] A pc else none
    | none => none)
  | _, _ => none
theorem k_x8_ok (hx : p.tables.exec = Jvm.exec) (hb : c.code = cc) (hK : va_K D cl (c_tys dA bk) s) (h : k_x8 O pc A = some L) (hd : decode cc pc = .ok (.iastore, 1)) (hL : ∀ q ∈ L, c_OK ((p, l, e, R, s, m, args, below, meth, c), (D, cl, dA, AA), (k_K, O, w0), (cc, nL, Q)) n0 r0 q.1 q.2) : c_OK ((p, l, e, R, s, m, args, below, meth, c), (D, cl, dA, AA), (k_K, O, w0), (cc, nL, Q)) n0 r0 pc A := by
  unfold k_x8 at h
  split at h
  · rename_i y e87 ha hg87
    split at h
    · rename_i a i ht
      split at h
      · rename_i hc
        rw [Bool.and_eq_true, Bool.and_eq_true, Bool.and_eq_true] at hc
        obtain ⟨⟨⟨c0, c1⟩, c2⟩, c3⟩ := hc
        obtain ⟨S, hst, ha0⟩ := k_tp_inv ht
        have hst : c_stk A = a :: (0, i) :: (2, c_sym y) :: S := hst
        have hst : c_stk A = a :: (0, i) :: (2, c_sym y) :: S := hst
        refine k_st_ok ha hx hb hK h hd hst (fun r lv st w hr => ⟨rfl, Iff.rfl, fun F ix kn ty hlt hix => ?_⟩) hL
        have f0 := k_eq_ok hr c0
        have f1 := c_in3_ok hr c1
        have f2 := k_gis_ok hr c2
        have g87 := k_gh_ok hr hg87
        simp only [c_ev_addc, c_ev_con, c_ev_mul] at *
        refine ⟨fun h1 hJ => ?_, fun h1 hJ => ?_⟩
        · omega
        · have f3 := k_src_ok (j := 8000 + ix) hr c3 kn (by rw [c_ev_addc]; omega)
          rw [← f3]
          exact k_jcpn (g := w.2.2) (k := ix) (by omega) (by omega) rfl f2 (by omega) (by show c_ev r (c_addc e87 1) = _; rw [c_ev_addc]; omega) rfl (c_ev_con r 0) ⟨rfl, rfl, rfl⟩ ⟨rfl, rfl, rfl, rfl, rfl, rfl, rfl⟩ ⟨rfl, rfl, rfl, rfl⟩ ⟨rfl, rfl⟩ rfl (k_tbl_gs rfl hJ.2.2.2.2.2.2.2.2.2.2.2) hJ
      · cases h
    · cases h
  · cases h
/-- the line's length -/
def k_x7 (O : cCtr) (pc : Nat) (A : cSt) : Option (List (Nat × cSt)) := match k_arr A with
  | some y => (match k_tp A y with
    | some (a, i) => if c_in2 A 9713 9713 i then k_hst (c_noJ k_K) O [(87, c_con 0)] A pc else none
    | none => none)
  | _ => none
theorem k_x7_ok (hx : p.tables.exec = Jvm.exec) (hb : c.code = cc) (hK : va_K D cl (c_tys dA bk) s) (h : k_x7 O pc A = some L) (hd : decode cc pc = .ok (.iastore, 1)) (hL : ∀ q ∈ L, c_OK ((p, l, e, R, s, m, args, below, meth, c), (D, cl, dA, AA), (k_K, O, w0), (cc, nL, Q)) n0 r0 q.1 q.2) : c_OK ((p, l, e, R, s, m, args, below, meth, c), (D, cl, dA, AA), (k_K, O, w0), (cc, nL, Q)) n0 r0 pc A := by
  unfold k_x7 at h
  split at h
  · rename_i y  ha
    split at h
    · rename_i a i ht
      split at h
      · rename_i hc
        have c0 := hc
        obtain ⟨S, hst, ha0⟩ := k_tp_inv ht
        have hst : c_stk A = a :: (0, i) :: (2, c_sym y) :: S := hst
        have hst : c_stk A = a :: (0, i) :: (2, c_sym y) :: S := hst
        refine k_st_ok ha hx hb hK h hd hst (fun r lv st w hr => ⟨rfl, Iff.rfl, fun F ix kn ty hlt hix => ?_⟩) hL
        have f0 := c_in2_ok hr c0
        simp only [c_ev_addc, c_ev_con, c_ev_mul] at *
        refine ⟨fun h1 hJ => ?_, fun h1 hJ => ?_⟩
        · exact k_bb4 (fun j hj => k_up_ne (by omega)) hJ
        · have hix2 : ix = 9713 := by omega
          subst hix2
          exact k_jlen (g := w.2.2) rfl ⟨rfl, rfl, rfl⟩ ⟨rfl, rfl, rfl⟩ ⟨rfl, rfl, rfl, rfl, rfl, rfl, rfl⟩ ⟨rfl, rfl, rfl, rfl⟩ ⟨rfl, rfl⟩ rfl rfl (k_tbl_gs rfl hJ.2.2.2.2.2.2.2.2.2.2.2) hJ
      · cases h
    · cases h
  · cases h
/-- a claim of a line is laid -/
def k_x10a (O : cCtr) (pc : Nat) (A : cSt) : Option (List (Nat × cSt)) := match k_arr A, k_gh A 90, k_gh A 91 with
  | some y, some e90, some e91 => (match k_tp A y with
    | some (a, i) => if k_eq A i (c_addc e91 9794) && c_in3 A 0 205 e91 && c_in3 A 0 2147483647 a.2 && c_in3 A 0 100 e90 then k_hst (c_noJ k_K) O [(90, c_addc e90 1), (91, c_addc e91 1), (87, c_con 0)] A pc else none
    | none => none)
  | _, _, _ => none
theorem k_x10a_ok (hx : p.tables.exec = Jvm.exec) (hb : c.code = cc) (hK : va_K D cl (c_tys dA bk) s) (h : k_x10a O pc A = some L) (hd : decode cc pc = .ok (.iastore, 1)) (hL : ∀ q ∈ L, c_OK ((p, l, e, R, s, m, args, below, meth, c), (D, cl, dA, AA), (k_K, O, w0), (cc, nL, Q)) n0 r0 q.1 q.2) : c_OK ((p, l, e, R, s, m, args, below, meth, c), (D, cl, dA, AA), (k_K, O, w0), (cc, nL, Q)) n0 r0 pc A := by
  unfold k_x10a at h
  split at h
  · rename_i y e90 e91 ha hg90 hg91
    split at h
    · rename_i a i ht
      split at h
      · rename_i hc
        rw [Bool.and_eq_true, Bool.and_eq_true, Bool.and_eq_true] at hc
        obtain ⟨⟨⟨c0, c1⟩, c2⟩, c3⟩ := hc
        obtain ⟨S, hst, ha0⟩ := k_tp_inv ht
        have hst : c_stk A = a :: (0, i) :: (2, c_sym y) :: S := hst
        have hst : c_stk A = a :: (0, i) :: (2, c_sym y) :: S := hst
        refine k_st_ok ha hx hb hK h hd hst (fun r lv st w hr => ⟨rfl, Iff.rfl, fun F ix kn ty hlt hix => ?_⟩) hL
        have f0 := k_eq_ok hr c0
        have f1 := c_in3_ok hr c1
        have f2 := c_in3_ok hr c2
        have f3 := c_in3_ok hr c3
        have g90 := k_gh_ok hr hg90
        have g91 := k_gh_ok hr hg91
        simp only [c_ev_addc, c_ev_con, c_ev_mul] at *
        refine ⟨fun h1 hJ => ?_, fun h1 hJ => ?_⟩
        · exact k_bb4 (fun j hj => k_up_ne (by omega)) hJ
        · have hix2 : ix = 9794 + (w.2.2 91).toNat := by omega
          subst hix2
          exact k_jstep (g := w.2.2) (q := (w.2.2 91).toNat) (h' := c_ev r (c_addc e90 1)) (by omega) (by omega) (Or.inr ⟨by omega, ⟨by omega, by omega, fun h7 => by omega, fun h7 => by omega⟩, by unfold k_dN; rw [if_pos (by omega), c_ev_addc]; omega⟩) (rfl) (by show c_ev r (c_addc e91 1) = _; rw [c_ev_addc]; omega) rfl ⟨rfl, rfl, rfl⟩ ⟨rfl, rfl, rfl⟩ ⟨rfl, rfl, rfl, rfl, rfl, rfl, rfl⟩ ⟨rfl, rfl, rfl, rfl⟩ rfl rfl (k_tbl_gs rfl hJ.2.2.2.2.2.2.2.2.2.2.2) hJ
      · cases h
    · cases h
  · cases h
/-- a not is laid -/
def k_x10b (O : cCtr) (pc : Nat) (A : cSt) : Option (List (Nat × cSt)) := match k_arr A, k_gh A 90, k_gh A 91 with
  | some y, some e90, some e91 => (match k_tp A y with
    | some (a, i) => if k_eq A i (c_addc e91 9794) && c_in3 A 0 205 e91 && c_in2 A (-1) (-1) a.2 && c_in3 A 1 100 e90 then k_hst (c_noJ k_K) O [(90, e90), (91, c_addc e91 1), (87, c_con 0)] A pc else none
    | none => none)
  | _, _, _ => none
theorem k_x10b_ok (hx : p.tables.exec = Jvm.exec) (hb : c.code = cc) (hK : va_K D cl (c_tys dA bk) s) (h : k_x10b O pc A = some L) (hd : decode cc pc = .ok (.iastore, 1)) (hL : ∀ q ∈ L, c_OK ((p, l, e, R, s, m, args, below, meth, c), (D, cl, dA, AA), (k_K, O, w0), (cc, nL, Q)) n0 r0 q.1 q.2) : c_OK ((p, l, e, R, s, m, args, below, meth, c), (D, cl, dA, AA), (k_K, O, w0), (cc, nL, Q)) n0 r0 pc A := by
  unfold k_x10b at h
  split at h
  · rename_i y e90 e91 ha hg90 hg91
    split at h
    · rename_i a i ht
      split at h
      · rename_i hc
        rw [Bool.and_eq_true, Bool.and_eq_true, Bool.and_eq_true] at hc
        obtain ⟨⟨⟨c0, c1⟩, c2⟩, c3⟩ := hc
        obtain ⟨S, hst, ha0⟩ := k_tp_inv ht
        have hst : c_stk A = a :: (0, i) :: (2, c_sym y) :: S := hst
        have hst : c_stk A = a :: (0, i) :: (2, c_sym y) :: S := hst
        refine k_st_ok ha hx hb hK h hd hst (fun r lv st w hr => ⟨rfl, Iff.rfl, fun F ix kn ty hlt hix => ?_⟩) hL
        have f0 := k_eq_ok hr c0
        have f1 := c_in3_ok hr c1
        have f2 := c_in2_ok hr c2
        have f3 := c_in3_ok hr c3
        have g90 := k_gh_ok hr hg90
        have g91 := k_gh_ok hr hg91
        simp only [c_ev_addc, c_ev_con, c_ev_mul] at *
        refine ⟨fun h1 hJ => ?_, fun h1 hJ => ?_⟩
        · exact k_bb4 (fun j hj => k_up_ne (by omega)) hJ
        · have hix2 : ix = 9794 + (w.2.2 91).toNat := by omega
          subst hix2
          exact k_jstep (g := w.2.2) (q := (w.2.2 91).toNat) (h' := c_ev r e90) (by omega) (by omega) (Or.inr ⟨by omega, ⟨by omega, by omega, fun h7 => by omega, fun h7 => by omega⟩, by unfold k_dN; rw [if_neg (by omega), if_pos (by omega)]; omega⟩) (rfl) (by show c_ev r (c_addc e91 1) = _; rw [c_ev_addc]; omega) rfl ⟨rfl, rfl, rfl⟩ ⟨rfl, rfl, rfl⟩ ⟨rfl, rfl, rfl, rfl, rfl, rfl, rfl⟩ ⟨rfl, rfl, rfl, rfl⟩ rfl rfl (k_tbl_gs rfl hJ.2.2.2.2.2.2.2.2.2.2.2) hJ
      · cases h
    · cases h
  · cases h
/-- an and or an or is laid -/
def k_x10d (O : cCtr) (pc : Nat) (A : cSt) : Option (List (Nat × cSt)) := match k_arr A, k_gh A 90, k_gh A 91 with
  | some y, some e90, some e91 => (match k_tp A y with
    | some (a, i) => if k_eq A i (c_addc e91 9794) && c_in3 A 0 205 e91 && c_in3 A (-2147483648) (-2) a.2 && c_in3 A 2 100 e90 then k_hst (c_noJ k_K) O [(90, c_addc e90 (-1)), (91, c_addc e91 1), (87, c_con 0)] A pc else none
    | none => none)
  | _, _, _ => none
theorem k_x10d_ok (hx : p.tables.exec = Jvm.exec) (hb : c.code = cc) (hK : va_K D cl (c_tys dA bk) s) (h : k_x10d O pc A = some L) (hd : decode cc pc = .ok (.iastore, 1)) (hL : ∀ q ∈ L, c_OK ((p, l, e, R, s, m, args, below, meth, c), (D, cl, dA, AA), (k_K, O, w0), (cc, nL, Q)) n0 r0 q.1 q.2) : c_OK ((p, l, e, R, s, m, args, below, meth, c), (D, cl, dA, AA), (k_K, O, w0), (cc, nL, Q)) n0 r0 pc A := by
  unfold k_x10d at h
  split at h
  · rename_i y e90 e91 ha hg90 hg91
    split at h
    · rename_i a i ht
      split at h
      · rename_i hc
        rw [Bool.and_eq_true, Bool.and_eq_true, Bool.and_eq_true] at hc
        obtain ⟨⟨⟨c0, c1⟩, c2⟩, c3⟩ := hc
        obtain ⟨S, hst, ha0⟩ := k_tp_inv ht
        have hst : c_stk A = a :: (0, i) :: (2, c_sym y) :: S := hst
        have hst : c_stk A = a :: (0, i) :: (2, c_sym y) :: S := hst
        refine k_st_ok ha hx hb hK h hd hst (fun r lv st w hr => ⟨rfl, Iff.rfl, fun F ix kn ty hlt hix => ?_⟩) hL
        have f0 := k_eq_ok hr c0
        have f1 := c_in3_ok hr c1
        have f2 := c_in3_ok hr c2
        have f3 := c_in3_ok hr c3
        have g90 := k_gh_ok hr hg90
        have g91 := k_gh_ok hr hg91
        simp only [c_ev_addc, c_ev_con, c_ev_mul] at *
        refine ⟨fun h1 hJ => ?_, fun h1 hJ => ?_⟩
        · exact k_bb4 (fun j hj => k_up_ne (by omega)) hJ
        · have hix2 : ix = 9794 + (w.2.2 91).toNat := by omega
          subst hix2
          exact k_jstep (g := w.2.2) (q := (w.2.2 91).toNat) (h' := c_ev r (c_addc e90 (-1))) (by omega) (by omega) (Or.inr ⟨by omega, ⟨by omega, by omega, fun h7 => by omega, fun h7 => by omega⟩, by unfold k_dN; rw [if_neg (by omega), if_neg (by omega), c_ev_addc]; omega⟩) (rfl) (by show c_ev r (c_addc e91 1) = _; rw [c_ev_addc]; omega) rfl ⟨rfl, rfl, rfl⟩ ⟨rfl, rfl, rfl⟩ ⟨rfl, rfl, rfl, rfl, rfl, rfl, rfl⟩ ⟨rfl, rfl, rfl, rfl⟩ rfl rfl (k_tbl_gs rfl hJ.2.2.2.2.2.2.2.2.2.2.2) hJ
      · cases h
    · cases h
  · cases h
/-- a line that is broken -/
def k_x10c (O : cCtr) (pc : Nat) (A : cSt) : Option (List (Nat × cSt)) := match k_arr A, k_gh A 90, k_gh A 91 with
  | some y, some e90, some e91 => (match k_tp A y with
    | some (a, i) => if k_eq A i (c_addc e91 9794) && c_in3 A 0 205 e91 then k_hst (c_noJ k_K) O [(90, c_con (-1)), (91, c_addc e91 1), (87, c_con 0)] A pc else none
    | none => none)
  | _, _, _ => none
theorem k_x10c_ok (hx : p.tables.exec = Jvm.exec) (hb : c.code = cc) (hK : va_K D cl (c_tys dA bk) s) (h : k_x10c O pc A = some L) (hd : decode cc pc = .ok (.iastore, 1)) (hL : ∀ q ∈ L, c_OK ((p, l, e, R, s, m, args, below, meth, c), (D, cl, dA, AA), (k_K, O, w0), (cc, nL, Q)) n0 r0 q.1 q.2) : c_OK ((p, l, e, R, s, m, args, below, meth, c), (D, cl, dA, AA), (k_K, O, w0), (cc, nL, Q)) n0 r0 pc A := by
  unfold k_x10c at h
  split at h
  · rename_i y e90 e91 ha hg90 hg91
    split at h
    · rename_i a i ht
      split at h
      · rename_i hc
        rw [Bool.and_eq_true] at hc
        obtain ⟨c0, c1⟩ := hc
        obtain ⟨S, hst, ha0⟩ := k_tp_inv ht
        have hst : c_stk A = a :: (0, i) :: (2, c_sym y) :: S := hst
        have hst : c_stk A = a :: (0, i) :: (2, c_sym y) :: S := hst
        refine k_st_ok ha hx hb hK h hd hst (fun r lv st w hr => ⟨rfl, Iff.rfl, fun F ix kn ty hlt hix => ?_⟩) hL
        have f0 := k_eq_ok hr c0
        have f1 := c_in3_ok hr c1
        have g90 := k_gh_ok hr hg90
        have g91 := k_gh_ok hr hg91
        simp only [c_ev_addc, c_ev_con, c_ev_mul] at *
        refine ⟨fun h1 hJ => ?_, fun h1 hJ => ?_⟩
        · exact k_bb4 (fun j hj => k_up_ne (by omega)) hJ
        · have hix2 : ix = 9794 + (w.2.2 91).toNat := by omega
          subst hix2
          exact k_jstep (g := w.2.2) (q := (w.2.2 91).toNat) (h' := -1) (by omega) (by omega) (Or.inl (by omega)) (c_ev_con r (-1)) (by show c_ev r (c_addc e91 1) = _; rw [c_ev_addc]; omega) rfl ⟨rfl, rfl, rfl⟩ ⟨rfl, rfl, rfl⟩ ⟨rfl, rfl, rfl, rfl, rfl, rfl, rfl⟩ ⟨rfl, rfl, rfl, rfl⟩ rfl rfl (k_tbl_gs rfl hJ.2.2.2.2.2.2.2.2.2.2.2) hJ
      · cases h
    · cases h
  · cases h
/-- the number of new laws -/
def k_x13 (O : cCtr) (pc : Nat) (A : cSt) : Option (List (Nat × cSt)) := match k_arr A with
  | some y => (match k_tp A y with
    | some (a, i) => if c_in2 A 8003 8003 i then k_hst (c_noJ k_K) O [(87, c_con 0), (88, c_con 0)] A pc else none
    | none => none)
  | _ => none
theorem k_x13_ok (hx : p.tables.exec = Jvm.exec) (hb : c.code = cc) (hK : va_K D cl (c_tys dA bk) s) (h : k_x13 O pc A = some L) (hd : decode cc pc = .ok (.iastore, 1)) (hL : ∀ q ∈ L, c_OK ((p, l, e, R, s, m, args, below, meth, c), (D, cl, dA, AA), (k_K, O, w0), (cc, nL, Q)) n0 r0 q.1 q.2) : c_OK ((p, l, e, R, s, m, args, below, meth, c), (D, cl, dA, AA), (k_K, O, w0), (cc, nL, Q)) n0 r0 pc A := by
  unfold k_x13 at h
  split at h
  · rename_i y  ha
    split at h
    · rename_i a i ht
      split at h
      · rename_i hc
        have c0 := hc
        obtain ⟨S, hst, ha0⟩ := k_tp_inv ht
        have hst : c_stk A = a :: (0, i) :: (2, c_sym y) :: S := hst
        have hst : c_stk A = a :: (0, i) :: (2, c_sym y) :: S := hst
        refine k_st_ok ha hx hb hK h hd hst (fun r lv st w hr => ⟨rfl, Iff.rfl, fun F ix kn ty hlt hix => ?_⟩) hL
        have f0 := c_in2_ok hr c0
        simp only [c_ev_addc, c_ev_con, c_ev_mul] at *
        refine ⟨fun h1 hJ => ?_, fun h1 hJ => ?_⟩
        · exact k_bb4 (fun j hj => k_up_ne (by omega)) hJ
        · have hix2 : ix = 8003 := by omega
          subst hix2
          exact k_jcnt (g := w.2.2) rfl ⟨rfl, rfl, rfl⟩ ⟨rfl, rfl, rfl⟩ ⟨rfl, rfl, rfl, rfl, rfl, rfl, rfl⟩ ⟨rfl, rfl, rfl, rfl⟩ ⟨rfl, rfl⟩ rfl rfl (k_tbl_gs rfl hJ.2.2.2.2.2.2.2.2.2.2.2) hJ
      · cases h
    · cases h
  · cases h
end KX
