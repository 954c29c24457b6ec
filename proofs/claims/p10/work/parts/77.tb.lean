/-! third layer: what is done ahead of an instruction, and a contract met with it -/
/-- shifts and bytes by tables -/
def t_RS : Nat := 48357032784585166988247040
def t_RB : Nat := 49565958604199796162953216
def t_fnS (G : (Nat → Int) → Prop) : Prop := ∀ g, G g → (∀ x y : Int32, 0 ≤ y.toInt → y.toInt ≤ 31 → g (t_RS + (x.toInt + 2147483648).toNat * 1073741824 + y.toInt.toNat) = (x >>> (y &&& 31)).toInt) ∧ ∀ x : Int32, g (t_RB + (x.toInt + 2147483648).toNat * 1073741824) = x.toInt8.toInt32.toInt
/-- the tables' word is to be had -/
def t_nn (C : List Nat) (A : cSt) : Bool := A.2.2.2.1.any (fun q => C.contains q.2 && c_mem3 q.1 3 A.2.2.1) && (match c_mget 0 (c_con 1) (c_me A) with
  | some a => c_in2 A 0 0 a.2
  | none => false)
/-- a number that is known comes onto the stack -/
def t_knw (lo hi : Int) (e : cLin) (S : List cAV) (A : cSt) (nx : Nat) : Option (List (Nat × cSt)) := match c_assume A (c_addc e (-lo)) with
  | none => some []
  | some B1 => (match c_assume B1 (c_addc (c_mul (-1) e) hi) with
    | none => some []
    | some B2 => some [(nx, c_setS B2 ((0, e) :: S))])
def t_shr (A : cSt) (nx : Nat) : Option (List (Nat × cSt)) := match c_stk A with
  | (0, y) :: (0, x) :: S => if c_in2 A 0 31 y && c_wfL A.1 x && c_wfL A.1 y then (match c_mget 0 (c_addc (c_add y (c_mul 1073741824 x)) (t_RS + 2305843009213693952)) (c_me A) with
    | some a => t_knw (-2147483648) 2147483647 a.2 S A nx
    | none => some [(nx, c_setS (c_setM (c_newY A (-2147483648) 2147483647) ((0, c_addc (c_add y (c_mul 1073741824 x)) (t_RS + 2305843009213693952), (1, c_sym A.1)) :: c_me A)) ((0, c_sym A.1) :: S))]) else none
  | _ => none
def t_byt (A : cSt) (nx : Nat) : Option (List (Nat × cSt)) := match c_stk A with
  | (0, x) :: S => if c_wfL A.1 x then (match c_mget 0 (c_addc (c_mul 1073741824 x) (t_RB + 2305843009213693952)) (c_me A) with
    | some a => t_knw (-128) 127 a.2 S A nx
    | none => some [(nx, c_setS (c_setM (c_newY A (-128) 127) ((0, c_addc (c_mul 1073741824 x) (t_RB + 2305843009213693952), (1, c_sym A.1)) :: c_me A)) ((0, c_sym A.1) :: S))]) else none
  | _ => none
/-- where a number of a state stands: a local, a symbol, a place of a symbol's cell, a ghost place, the stack, a place of a local's cell -/
abbrev t_S : Type := Nat × Nat × Nat
abbrev t_Sx : Type := Int × List (t_S × Int)
def t_av (x : Option cAV) : Option cLin := match x with
  | some a => some a.2
  | none => none
def t_ev1 (A : cSt) (q : t_S) : Option cLin := match q.1 with
  | 0 => t_av (c_locGet q.2.1 (c_loc A))
  | 1 => some (c_sym q.2.1)
  | 2 => t_av (c_mget q.2.1 (c_con (q.2.2 : Int)) (c_me A))
  | 3 => t_av (c_mget 0 (c_con (q.2.1 : Int)) (c_me A))
  | 4 => t_av ((c_stk A)[q.2.1]?)
  | 5 => (match c_locGet q.2.1 (c_loc A) with
    | some (2, (0, [(s, 1)])) => t_av (c_mget s (c_con (q.2.2 : Int)) (c_me A))
    | _ => none)
  | _ => none
def t_evl (A : cSt) : List (t_S × Int) → cLin → Option cLin
  | [], acc => some acc
  | q :: l, acc => match t_ev1 A q.1 with
    | none => none
    | some e => t_evl A l (c_add (c_mul q.2 e) acc)
def t_evs (A : cSt) : List t_Sx → Option (List cLin)
  | [] => some []
  | x :: l => match t_evl A x.2 (x.1, []), t_evs A l with
    | some e, some t => some (e :: t)
    | _, _ => none
/-- (0: a rule, 1: cases, 2: a mirrored place, 3: a counter, 4: a rule if it goes, 5: a mirrored place if it goes; number; parameters) -/
abbrev t_Op : Type := Nat × Nat × List t_Sx
/-- rules, rows, the tags that bear the tables' word -/
abbrev t_U : Type := (Nat → Option (Nat × t_R)) × List t_Row × List Nat
def t_ru (U : t_U) (K : cTab) (o : t_Op) (A : cSt) : Option (List cSt) := match U.1 o.2.1, t_evs A o.2.2 with
  | some x, some th => if Nat.beq th.length x.1 && t_nn U.2.2 A then t_rul K th x.2 A else none
  | _, _ => none
def t_lm (U : t_U) (K : cTab) (o : t_Op) (A : cSt) : Option (List cSt) := match U.2.1[o.2.1]?, t_evs A o.2.2 with
  | some m, some [(0, [(s, 1)]), e] => if t_nn U.2.2 A && U.2.2.contains m.1 then t_ldm K m s e A else none
  | _, _ => none
def t_els (A : cSt) (x : Option (List cSt)) : Option (List cSt) := match x with
  | some L => some L
  | none => some [A]
def t_uni : cLin → Option Nat
  | (0, [(s, 1)]) => some s
  | _ => none
def t_cn3 (U : t_U) (O : cCtr) (o : t_Op) (A : cSt) : Option (List cSt) := match t_evs A o.2.2 with
  | some (e :: ss) => t_cnt U.2.1 O o.2.1 e (ss.filterMap t_uni) A
  | _ => none
def t_do (U : t_U) (K : cTab) (O : cCtr) (o : t_Op) (A : cSt) : Option (List cSt) := match o.1 with
  | 0 => t_ru U K o A
  | 1 => (match t_evs A o.2.2 with
    | some [e] => t_spl e A
    | _ => none)
  | 2 => t_lm U K o A
  | 3 => t_cn3 U O o A
  | 4 => t_els A (t_ru U K o A)
  | 5 => t_els A (t_lm U K o A)
  | 6 => t_els A (t_cn3 U O o A)
  | 7 => (match t_evs A o.2.2 with
    | some [(k, [])] => t_cst o.2.1 k A
    | _ => none)
  | 8 => (match t_evs A o.2.2 with
    | some [(0, [(sy, 1)]), e] => t_sqe sy o.2.1 e A
    | _ => none)
  | _ => none
def t_all {α : Type} (f : cSt → Option (List α)) : List cSt → Option (List α)
  | [] => some []
  | B :: t => match f B, t_all f t with
    | some a, some b => some (a ++ b)
    | _, _ => none
theorem t_all_ok {α : Type} {f : cSt → Option (List α)} {P : α → Prop} : ∀ {t : List cSt} {L : List α}, t_all f t = some L → (∀ q ∈ L, P q) → ∀ B ∈ t, ∃ L', f B = some L' ∧ ∀ q ∈ L', P q
  | [], _, _, _, B, hB => by cases hB
  | C :: t, L, h, hL, B, hB => by
    unfold t_all at h
    split at h
    · rename_i a b ha hb
      cases h
      rcases List.mem_cons.mp hB with rfl | hB
      · exact ⟨a, ha, fun q hq => hL q (List.mem_append_left _ hq)⟩
      · exact t_all_ok hb (fun q hq => hL q (List.mem_append_right _ hq)) B hB
    · cases h
def t_seq (U : t_U) (K : cTab) (O : cCtr) : List t_Op → cSt → Option (List cSt)
  | [], A => some [A]
  | o :: l, A => match t_do U K O o A with
    | none => none
    | some L => t_all (t_seq U K O l) L
/-- the instruction itself: 0 as ever, 1 a store in a mirrored array, 2 a shift, 3 a byte -/
def t_fin (U : t_U) (K : cTab) (P : cPrg) (O : cCtr) (b : cBody) (fin pc : Nat) (x : Jvm.ClassFile.Instr × Nat) (A : cSt) : Option (List (Nat × cSt)) := match fin, x with
  | 1, (.iastore, 1) => t_sto U.2.1 K O A (pc + 1) (fun k a => Nat.beq k 1 && Nat.beq a.1 0)
  | 1, (.lastore, 1) => t_sto U.2.1 K O A (pc + 1) (fun k a => Nat.beq k 2 && Nat.beq a.1 1)
  | 1, (.bastore, 1) => t_sto U.2.1 K O A (pc + 1) (fun k a => Nat.beq a.1 0 && ((Nat.beq k 3 && c_in2 A (-128) 127 a.2) || (Nat.beq k 5 && c_in2 A 0 1 a.2)))
  | 1, (.sastore, 1) => t_sto U.2.1 K O A (pc + 1) (fun k a => Nat.beq k 4 && Nat.beq a.1 0 && c_in2 A (-32768) 32767 a.2)
  | 2, (.ishr, 1) => if t_nn U.2.2 A then t_shr A (pc + 1) else none
  | 3, (.i2b, 1) => if t_nn U.2.2 A then t_byt A (pc + 1) else none
  | 0, x => c_step K P O b.1 b.2.1 b.2.2.1 A pc x.2 x.1
  | _, _ => none
/-- what is done at which place: (place, ops, how) -/
abbrev t_Tb : Type := List (Nat × List t_Op × Nat)
def t_at (pc : Nat) : t_Tb → Option (List t_Op × Nat)
  | [] => none
  | q :: l => if Nat.beq q.1 pc then some q.2 else t_at pc l
def t_X (U : t_U) (K : cTab) (P : cPrg) (O : cCtr) (b : cBody) (tb : t_Tb) : cXs := (fun pc A => match t_at pc tb, c_find pc b.2.2.2.1 with
  | some y, some x => (match t_seq U K O y.1 A with
    | some L => t_all (t_fin U K P O b y.2 pc x) L
    | none => none)
  | _, _ => none, fun _ _ => none)
/-- the marks (pc, 9, k): k = pc -/
def t_annB (b : cBody) : Bool := b.2.2.1.all (fun q => !(Nat.beq q.2.1 9) || Nat.beq q.2.2 q.1)
section TX
variable {p : Program} {l : Launch} {e : Env} {R : Room} {s : State} {m : MethodId} {args : Array Value} {below : List Frame} {meth : Method} {c : Code} {D : va_G} {cl : List vw_C} {dA : Nat → ClassId} {AA : Nat → Prop} {K : cTab} {O : cCtr} {w0 : cWld} {cc : ByteArray} {nL : Nat} {Q : State → Prop} {n0 : Nat} {r0 : Nat → Int}
  {P : cPrg} {own : Nat} {A : cSt} {pc : Nat} {Z : cStat} {bk : String} {G : (Nat → Int) → Prop} {U : t_U}
theorem t_nn_ok (hKJ : K.2.2.2.2.2 = t_J G U.2.1 U.2.2) (h : t_nn U.2.2 A = true) {r : Nat → Int} {lv : List (Nat × Value)} {st : List Value} {w : cWld} (hr : c_satR A r lv st w) (hT : c_TW K dA w) : w.2.2 1 ≠ 1 ∧ G w.2.2 := by
  unfold t_nn at h
  rw [Bool.and_eq_true] at h
  obtain ⟨h1, h2⟩ := h
  split at h2
  · rename_i a ha
    have k1 : c_gv 1 (w.2.2 1) = c_ev r a.2 := t_gpl (j := 1) hr (c_ev_con r _) ha
    have k2 : 0 ≤ c_ev r a.2 ∧ c_ev r a.2 ≤ 0 := c_in2_ok hr h2
    have k3 : w.2.2 1 ≠ 1 := fun h9 => by
      have k4 : c_gv 1 (1 : Int) = c_ev r a.2 := by rw [← h9]; exact k1
      have k5 : c_gv 1 (1 : Int) = 1 := by decide
      have k6 : (1 : Int) = c_ev r a.2 := k5.symm.trans k4
      exact absurd k2.2 (by rw [← k6]; decide)
    obtain ⟨q, q1, q2⟩ := List.any_eq_true.mp h1
    rw [Bool.and_eq_true] at q2
    obtain ⟨a, -, ce, d1, d2⟩ := hr.2.2.1 q q1 (hr.2.1 _ (c_mem3_ok q2.2))
    have hj := (hT _ d1).2.2.2
    rw [hKJ] at hj
    exact ⟨k3, (hj (by show U.2.2.contains (w.1 a) = true; rw [d2]; exact q2.1) k3).1⟩
  · cases h2
theorem t_knw_sat {lo hi : Int} {f : cLin} {S : List cAV} {nx : Nat} {L : List (Nat × cSt)} {z : Int32} {lv : List (Nat × Value)} {st ss : List Value} {w : cWld} (hs : c_sat n0 r0 A lv st w) (h : t_knw lo hi f S A nx = some L) (h1 : lo ≤ z.toInt) (h2 : z.toInt ≤ hi) (k : ∀ r, c_satR A r lv st w → c_ev r f = z.toInt ∧ c_F2 (c_DV r) S ss) : ∃ B, L = [(nx, B)] ∧ c_cu B = c_cu A ∧ c_su B = c_su A ∧ c_sat n0 r0 B lv (.int z :: ss) w := by
  obtain ⟨B1, b1, b2⟩ := hs.assume (f := c_addc f (-lo)) (fun r _ hr => by rw [c_ev_addc]; have := (k r hr).1; omega)
  have back : ∀ r, c_satR B1 r lv st w → c_satR A r lv st w := fun r hr => c_assume_back b1 hr
  obtain ⟨B2, d1, d2⟩ := b2.assume (f := c_addc (c_mul (-1) f) hi) (fun r _ hr => by rw [c_ev_addc, c_ev_mul]; have := (k r (back r hr)).1; omega)
  unfold t_knw at h
  rw [b1] at h
  dsimp only at h
  rw [d1] at h
  cases h
  have l1 := (c_assume_like b1).tr (c_assume_like d1)
  have k1 := congrArg (fun x => x.2.2.2.1) l1.2.2
  have k2 := congrArg (fun x => x.2.2.2.2) l1.2.2
  exact ⟨_, rfl, k1, k2, d2.setS fun r hr => ⟨⟨z, rfl, ((k r (back r (c_assume_back d1 hr))).1).symm⟩, (k r (back r (c_assume_back d1 hr))).2⟩⟩
theorem t_shr_ok {L : List (Nat × cSt)} (hKJ : K.2.2.2.2.2 = t_J G U.2.1 U.2.2) (hfn : t_fnS G) (hne : t_nn U.2.2 A = true) (hx : p.tables.exec = Jvm.exec) (hb : c.code = cc) (hd : decode cc pc = .ok (.ishr, 1)) (h : t_shr A (pc + 1) = some L) (hL : ∀ q ∈ L, c_OK ((p, l, e, R, s, m, args, below, meth, c), (D, cl, dA, AA), (K, O, w0), (cc, nL, Q)) n0 r0 q.1 q.2) : c_OK ((p, l, e, R, s, m, args, below, meth, c), (D, cl, dA, AA), (K, O, w0), (cc, nL, Q)) n0 r0 pc A := by
  unfold t_shr at h
  split at h
  · rename_i y x S hst
    split at h
    · rename_i hc
      rw [Bool.and_eq_true, Bool.and_eq_true] at hc
      obtain ⟨⟨c1, c2⟩, c3⟩ := hc
      intro lv st w cu su hcu hsu hT hE hs H locs ls hP hD hS hl
      obtain ⟨X, Y, ss, rfl, k⟩ := c_topi2 hs hst rfl rfl
      obtain ⟨r1, hp, hn, ha, hr1⟩ := hs.pin
      have hg := (t_nn_ok hKJ hne hr1 hT).2
      have hv := (hfn _ hg).1
      have hZ := c_i32 (X >>> (Y &&& 31))
      have hX := c_i32 X
      have pl : ∀ r, c_satR A r lv (.int Y :: .int X :: ss) w → c_ev r (c_addc (c_add y (c_mul 1073741824 x)) (t_RS + 2305843009213693952)) = ((t_RS + (X.toInt + 2147483648).toNat * 1073741824 + Y.toInt.toNat : Nat) : Int) ∧ 0 ≤ Y.toInt ∧ Y.toInt ≤ 31 := fun r hr => by
        obtain ⟨k1, k2, k3⟩ := k r hr
        have k1 : X.toInt = c_ev r x := k1
        have k2 : Y.toInt = c_ev r y := k2
        have hy := c_in2_ok hr c1
        refine ⟨?_, by omega, by omega⟩
        rw [c_ev_addc, c_ev_add, c_ev_mul]
        unfold t_RS
        omega
      split at h
      · rename_i a ha2
        obtain ⟨B, rfl, b1, b2, b3⟩ := t_knw_sat hs h (z := X >>> (Y &&& 31)) hZ.1 hZ.2 (fun r hr => ⟨by
          obtain ⟨p1, p2, p3⟩ := pl r hr
          have e1 := t_gpl hr p1 ha2
          rw [hv X Y p2 p3] at e1
          rw [← e1]
          exact c_gv_id (by unfold t_RS; omega) (by omega) (by omega), (k r hr).2.2⟩)
        exact lv_ishr hx hb hd (hL _ List.mem_cons_self lv _ w cu su (b1.trans hcu) (b2.trans hsu) hT hE b3 H locs ls hP hD hS hl)
      · cases h
        refine lv_ishr hx hb hd (hL _ List.mem_cons_self lv _ w cu su hcu hsu hT hE ((hp.new (B := c_setS (c_setM (c_newY A (-2147483648) 2147483647) ((0, c_addc (c_add y (c_mul 1073741824 x)) (t_RS + 2305843009213693952), (1, c_sym A.1)) :: c_me A)) ((0, c_sym A.1) :: S)) (X >>> (Y &&& 31)).toInt rfl fun r h9 hz hr => ?_).weak hn ha) H locs ls hP hD hS hl)
        obtain ⟨p1, p2, p3⟩ := pl r hr
        refine ⟨c_envOk_cons (by rw [hz]; exact hZ.1) (by rw [hz]; exact hZ.2) hr.1, hr.2.1, hr.2.2.1, hr.2.2.2.1, hr.2.2.2.2.1, ⟨⟨_, rfl, by rw [c_ev_sym]; exact hz.symm⟩, (k r hr).2.2⟩, fun q hq => ?_⟩
        rcases List.mem_cons.mp hq with rfl | hq
        · refine ⟨t_RS + (X.toInt + 2147483648).toNat * 1073741824 + Y.toInt.toNat, p1, ?_⟩
          show c_gv _ _ = c_ev r (c_sym A.1)
          rw [hv X Y p2 p3, c_ev_sym, hz]
          exact c_gv_id (by unfold t_RS; omega) (by omega) (by omega)
        · exact hr.2.2.2.2.2.2 q hq
    · cases h
  · cases h
theorem t_byt_ok {L : List (Nat × cSt)} (hKJ : K.2.2.2.2.2 = t_J G U.2.1 U.2.2) (hfn : t_fnS G) (hne : t_nn U.2.2 A = true) (hx : p.tables.exec = Jvm.exec) (hb : c.code = cc) (hd : decode cc pc = .ok (.i2b, 1)) (h : t_byt A (pc + 1) = some L) (hL : ∀ q ∈ L, c_OK ((p, l, e, R, s, m, args, below, meth, c), (D, cl, dA, AA), (K, O, w0), (cc, nL, Q)) n0 r0 q.1 q.2) : c_OK ((p, l, e, R, s, m, args, below, meth, c), (D, cl, dA, AA), (K, O, w0), (cc, nL, Q)) n0 r0 pc A := by
  unfold t_byt at h
  split at h
  · rename_i x S hst
    split at h
    · rename_i c1
      intro lv st w cu su hcu hsu hT hE hs H locs ls hP hD hS hl
      obtain ⟨X, ss, rfl, k⟩ := c_topi hs hst rfl
      obtain ⟨r1, hp, hn, ha, hr1⟩ := hs.pin
      have hg := (t_nn_ok hKJ hne hr1 hT).2
      have hv := (hfn _ hg).2
      have h8 : -128 ≤ X.toInt8.toInt32.toInt ∧ X.toInt8.toInt32.toInt ≤ 127 := by
        rw [Int8.toInt_toInt32]
        have a1 := X.toInt8.le_toInt
        have a2 := X.toInt8.toInt_lt
        omega
      have hX := c_i32 X
      have pl : ∀ r, c_satR A r lv (.int X :: ss) w → c_ev r (c_addc (c_mul 1073741824 x) (t_RB + 2305843009213693952)) = ((t_RB + (X.toInt + 2147483648).toNat * 1073741824 : Nat) : Int) := fun r hr => by
        obtain ⟨k1, k3⟩ := k r hr
        have k1 : X.toInt = c_ev r x := k1
        rw [c_ev_addc, c_ev_mul]
        unfold t_RB
        omega
      split at h
      · rename_i a ha2
        obtain ⟨B, rfl, b1, b2, b3⟩ := t_knw_sat hs h (z := X.toInt8.toInt32) h8.1 h8.2 (fun r hr => ⟨by
          have e1 := t_gpl hr (pl r hr) ha2
          rw [hv X] at e1
          rw [← e1]
          exact c_gv_id (by unfold t_RB; omega) (by omega) (by omega), (k r hr).2⟩)
        exact lv_i2b (v := X.toInt8.toInt32) hx hb hd rfl (hL _ List.mem_cons_self lv _ w cu su (b1.trans hcu) (b2.trans hsu) hT hE b3 H locs ls hP hD hS hl)
      · cases h
        refine lv_i2b (v := X.toInt8.toInt32) hx hb hd rfl (hL _ List.mem_cons_self lv _ w cu su hcu hsu hT hE ((hp.new (B := c_setS (c_setM (c_newY A (-128) 127) ((0, c_addc (c_mul 1073741824 x) (t_RB + 2305843009213693952), (1, c_sym A.1)) :: c_me A)) ((0, c_sym A.1) :: S)) X.toInt8.toInt32.toInt rfl fun r h9 hz hr => ?_).weak hn ha) H locs ls hP hD hS hl)
        refine ⟨c_envOk_cons (by rw [hz]; exact h8.1) (by rw [hz]; exact h8.2) hr.1, hr.2.1, hr.2.2.1, hr.2.2.2.1, hr.2.2.2.2.1, ⟨⟨_, rfl, by rw [c_ev_sym]; exact hz.symm⟩, (k r hr).2⟩, fun q hq => ?_⟩
        rcases List.mem_cons.mp hq with rfl | hq
        · refine ⟨t_RB + (X.toInt + 2147483648).toNat * 1073741824, pl r hr, ?_⟩
          show c_gv _ _ = c_ev r (c_sym A.1)
          rw [hv X, c_ev_sym, hz]
          exact c_gv_id (by unfold t_RB; omega) (by omega) (by omega)
        · exact hr.2.2.2.2.2.2 q hq
    · cases h
  · cases h
abbrev t_val (G : (Nat → Int) → Prop) (U : t_U) : Prop := ∀ (n : Nat) (x : Nat × t_R), U.1 n = some x → ∀ g, G g → t_ok g x.1 x.2
theorem t_ru_ok {o : t_Op} {L : List cSt} (hKJ : K.2.2.2.2.2 = t_J G U.2.1 U.2.2) (hU : t_val G U) (h : t_ru U K o A = some L) (hL : ∀ B ∈ L, c_OK ((p, l, e, R, s, m, args, below, meth, c), (D, cl, dA, AA), (K, O, w0), (cc, nL, Q)) n0 r0 pc B) : c_OK ((p, l, e, R, s, m, args, below, meth, c), (D, cl, dA, AA), (K, O, w0), (cc, nL, Q)) n0 r0 pc A := by
  unfold t_ru at h
  split at h
  · rename_i x th hx hth
    split at h
    · rename_i hc
      rw [Bool.and_eq_true] at hc
      refine t_rul_ok (fun r lv st w hr hT => ?_) h hL
      rw [Nat.eq_of_beq_eq_true hc.1]
      exact hU _ _ hx _ (t_nn_ok hKJ hc.2 hr hT).2
    · cases h
  · cases h
theorem t_lm_ok {o : t_Op} {L : List cSt} (hKJ : K.2.2.2.2.2 = t_J G U.2.1 U.2.2) (h : t_lm U K o A = some L) (hL : ∀ B ∈ L, c_OK ((p, l, e, R, s, m, args, below, meth, c), (D, cl, dA, AA), (K, O, w0), (cc, nL, Q)) n0 r0 pc B) : c_OK ((p, l, e, R, s, m, args, below, meth, c), (D, cl, dA, AA), (K, O, w0), (cc, nL, Q)) n0 r0 pc A := by
  unfold t_lm at h
  split at h
  · rename_i mw sy ex hm hev
    split at h
    · rename_i hc
      rw [Bool.and_eq_true] at hc
      refine t_ldm_ok (fun r lv st w hr hT q hq ht => ?_) h hL
      have hj := (hT q hq).2.2.2
      rw [hKJ] at hj
      exact (hj (by rw [ht]; exact hc.2) (t_nn_ok hKJ hc.1 hr hT).1).2 mw (List.mem_of_getElem? hm) ht.symm
    · cases h
  · cases h
theorem t_cn3_ok {o : t_Op} {L : List cSt} (hKJ : K.2.2.2.2.2 = t_J G U.2.1 U.2.2) (hG : t_far G) (h : t_cn3 U O o A = some L) (hL : ∀ B ∈ L, c_OK ((p, l, e, R, s, m, args, below, meth, c), (D, cl, dA, AA), (K, O, w0), (cc, nL, Q)) n0 r0 pc B) : c_OK ((p, l, e, R, s, m, args, below, meth, c), (D, cl, dA, AA), (K, O, w0), (cc, nL, Q)) n0 r0 pc A := by
  unfold t_cn3 at h
  split at h
  · exact t_cnt_ok hKJ hG h hL
  · cases h
theorem t_els_ok {x : Option (List cSt)} {L : List cSt} {X : cX} (h : t_els A x = some L) (hx : ∀ L', x = some L' → (∀ B ∈ L', c_OK X n0 r0 pc B) → c_OK X n0 r0 pc A) (hL : ∀ B ∈ L, c_OK X n0 r0 pc B) : c_OK X n0 r0 pc A := by
  unfold t_els at h
  split at h
  · cases h
    exact hx _ rfl hL
  · cases h
    exact hL _ List.mem_cons_self
theorem t_do_ok {o : t_Op} {L : List cSt} (hKJ : K.2.2.2.2.2 = t_J G U.2.1 U.2.2) (hG : t_far G) (hU : t_val G U) (h : t_do U K O o A = some L) (hL : ∀ B ∈ L, c_OK ((p, l, e, R, s, m, args, below, meth, c), (D, cl, dA, AA), (K, O, w0), (cc, nL, Q)) n0 r0 pc B) : c_OK ((p, l, e, R, s, m, args, below, meth, c), (D, cl, dA, AA), (K, O, w0), (cc, nL, Q)) n0 r0 pc A := by
  unfold t_do at h
  split at h
  · exact t_ru_ok hKJ hU h hL
  · split at h
    · exact t_spl_ok h hL
    · cases h
  · exact t_lm_ok hKJ h hL
  · exact t_cn3_ok hKJ hG h hL
  · exact t_els_ok h (fun L' h1 h2 => t_ru_ok hKJ hU h1 h2) hL
  · exact t_els_ok h (fun L' h1 h2 => t_lm_ok hKJ h1 h2) hL
  · exact t_els_ok h (fun L' h1 h2 => t_cn3_ok hKJ hG h1 h2) hL
  · split at h
    · exact t_cst_ok h hL
    · cases h
  · split at h
    · exact t_sqe_ok h hL
    · cases h
  · cases h
theorem t_seq_ok (hKJ : K.2.2.2.2.2 = t_J G U.2.1 U.2.2) (hG : t_far G) (hU : t_val G U) : ∀ (os : List t_Op) (A : cSt) (L : List cSt), t_seq U K O os A = some L → (∀ B ∈ L, c_OK ((p, l, e, R, s, m, args, below, meth, c), (D, cl, dA, AA), (K, O, w0), (cc, nL, Q)) n0 r0 pc B) → c_OK ((p, l, e, R, s, m, args, below, meth, c), (D, cl, dA, AA), (K, O, w0), (cc, nL, Q)) n0 r0 pc A
  | [], A, L, h, hL => by
    cases h
    exact hL _ List.mem_cons_self
  | o :: os, A, L, h, hL => by
    unfold t_seq at h
    split at h
    · cases h
    · rename_i L1 h1
      refine t_do_ok hKJ hG hU h1 fun B hB => ?_
      obtain ⟨L', h2, h3⟩ := t_all_ok h hL B hB
      exact t_seq_ok hKJ hG hU os B L' h2 h3
theorem t_fin_ok {fin : Nat} {b : cBody} {x : Jvm.ClassFile.Instr × Nat} {L : List (Nat × cSt)} (hKJ : K.2.2.2.2.2 = t_J G U.2.1 U.2.2) (hfn : t_fnS G) (hx : p.tables.exec = Jvm.exec) (hb : c.code = cc) (hK : va_K D cl (c_tys dA bk) s) (hd : decode cc pc = .ok x)
    (h0 : c_step K P O b.1 b.2.1 b.2.2.1 A pc x.2 x.1 = some L → c_OK ((p, l, e, R, s, m, args, below, meth, c), (D, cl, dA, AA), (K, O, w0), (cc, nL, Q)) n0 r0 pc A)
    (h : t_fin U K P O b fin pc x A = some L) (hL : ∀ q ∈ L, c_OK ((p, l, e, R, s, m, args, below, meth, c), (D, cl, dA, AA), (K, O, w0), (cc, nL, Q)) n0 r0 q.1 q.2) : c_OK ((p, l, e, R, s, m, args, below, meth, c), (D, cl, dA, AA), (K, O, w0), (cc, nL, Q)) n0 r0 pc A := by
  unfold t_fin at h
  split at h
  · exact t_m_iastore hKJ hx hb hK h hd hL
  · exact t_m_lastore hKJ hx hb hK h hd hL
  · exact t_m_bastore hKJ hx hb hK h hd hL
  · exact t_m_sastore hKJ hx hb hK h hd hL
  · split at h
    · rename_i hn
      exact t_shr_ok hKJ hfn hn hx hb hd h hL
    · cases h
  · split at h
    · rename_i hn
      exact t_byt_ok hKJ hfn hn hx hb hd h hL
    · cases h
  · exact h0 h
  · cases h
end TX
theorem t_goodX {l : Launch} {D : va_G} {cl : List vw_C} {dA : Nat → ClassId} {AA : Nat → Prop} {bk : String} {K : cTab} {Z : cStat} {P : cPrg} {d fuel : Nat} {O : cCtr} {M : cMth} {b : cBody} {G : (Nat → Int) → Prop} {U : t_U} {tb : t_Tb} (hKJ : K.2.2.2.2.2 = t_J G U.2.1 U.2.2) (hG : t_far G) (hfn : t_fnS G) (hU : t_val G U) (ht : c_tabsOk K P cl Z bk) (hM : Z.2.1 (ct_m O) = some M) (hbo : c_bodyOk cl Z O M b) (hrun : c_run (t_X U K P O b tb) K P O b fuel = true) (han : t_annB b = true)
    (hG2 : ∀ d', d' < d → ∀ a, ∀ ct ∈ P.2.1 a, c_Good l D cl dA AA bk K Z d' ct) : c_Good l D cl dA AA bk K Z d O := by
  obtain ⟨hJ, hJ2, hrw, hac, hlib, hcl, hgd, hmO, hlk, hnw⟩ := ht
  obtain ⟨hpl, hnL, hown, hdec, hret, hann⟩ := hbo
  unfold c_run at hrun
  rw [Bool.and_eq_true, Bool.and_eq_true, Bool.and_eq_true] at hrun
  obtain ⟨⟨⟨hsl, hdw⟩, hck⟩, hgo⟩ := hrun
  intro M' hM' w rr vals hpre hdep hT hD
  have hMM : M' = M := Option.some.inj (hM'.symm.trans hM)
  subst hMM
  refine Met.ofW (cc := M'.2.1) (maxL := M'.2.2.1) (ret := M'.2.2.2.1) hpl rfl ?_
  intro p e s m args below meth c s₁ B hml hP
  obtain ⟨rfl, hPP, hK, hN, hAA⟩ := hP
  have hts : ∀ x ∈ Z.2.2.1, x.before vals.toArray s = true := fun x hx => atoms_spec (ws := c_ws Z M') B.pre x (List.mem_cons_of_mem _ hx)
  have hownS : s.vm.findClass (Z.1 b.2.1) = some m.cls := by rw [hown]; exact findClass_of_methodNamed B.named
  have hnm : meth.name = M'.1.name := (name_of_methodNamed B.named B.method).1
  split at hgo
  · rename_i A hA
    obtain ⟨s1, s2, s3⟩ := c_entry_ok hT hD hpre hA
    have hlen := c_slots_ok _ _ _ hpre.1
    have hsl := Nat.le_of_ble_eq_true hsl
    rw [lg_entry_eq]
    have key := c_whole_ok (p := p) (l := l) (e := e) (R := (headSpec (c_ws Z M') (c_rm d O)).room) (s := s) (m := m) (args := vals.toArray) (below := below) (meth := meth) (c := c) (D := D) (cl := cl) (dA := dA) (AA := AA) (K := K) (O := O) (w0 := w) (cc := M'.2.1) (nL := b.1) (Q := MQ below (c_Qc D cl dA AA K O rr w) vals.toArray s (ct_mc O) (ct_ms O) AA) (rr := rr) (P := P) (b := b) (fuel := fuel)
      (X := t_X U K P O b tb) (fun n0 r0 hn hag pc A x L hf hst hL => by
        obtain ⟨q, q1, q2⟩ := c_find_ok hf
        have hd := hdec q q1 (pc, x) q2
        have hdp : ∀ r, c_agr n0 r0 r → c_ev r (ct_dep O) ≤ (d : Int) := fun r hr => by
          rw [c_wfL_ok hdw (fun i hi => (hr i (Nat.lt_of_lt_of_le hi hn)).trans (hag i hi))]
          exact hdep
        have step0 : ∀ (A : cSt) (L : List (Nat × cSt)), c_step K P O b.1 b.2.1 b.2.2.1 A pc x.2 x.1 = some L → (∀ q ∈ L, c_OK ((p, l, e, (headSpec (c_ws Z M') (c_rm d O)).room, s, m, vals.toArray, below, meth, c), (D, cl, dA, AA), (K, O, w), (M'.2.1, b.1, MQ below (c_Qc D cl dA AA K O rr w) vals.toArray s (ct_mc O) (ct_ms O) AA)) n0 r0 q.1 q.2) → c_OK ((p, l, e, (headSpec (c_ws Z M') (c_rm d O)).room, s, m, vals.toArray, below, meth, c), (D, cl, dA, AA), (K, O, w), (M'.2.1, b.1, MQ below (c_Qc D cl dA AA K O rr w) vals.toArray s (ct_mc O) (ct_ms O) AA)) n0 r0 pc A := fun A L hst hL =>
          c_step_ok (Z := Z) (bk := bk) (P := P) (rr := rr) (ins := x.1) (len := x.2) (Nat.lt_of_lt_of_le (by unfold c_entryN; omega) hn) hn hag (by rw [B.returns]; exact hret) B.notSynchronized rfl (fun ⟨ci, hci⟩ => hnm.trans (hann ci hci).1) (fun ci C T N hci hC => ((hann ci hci).2 C T N hC).trans hown.symm) hJ hJ2 hac hac.2.2 hlib hcl ⟨Nat.le_refl _, Nat.le_refl _⟩ B.exec B.bytes (hml.trans hnL.symm) hownS hts hK hN hnw hAA hgd hmO hlk hdp ⟨Nat.le_refl _, Nat.le_refl _, Nat.le_refl _⟩ (fun d' hd' => hG2 d' hd') hst hd hL
        unfold c_stp at hst
        split at hst
        · rename_i k hk
          have h1 := List.all_eq_true.mp han _ (c_annOf_mem hk)
          rw [Bool.or_eq_true] at h1
          rcases h1 with h1 | h1
          · have h1 : (!(Nat.beq 9 9)) = true := h1
            exact absurd h1 (by decide)
          · have hpc := Nat.eq_of_beq_eq_true h1
            have hX : (match t_at k tb, c_find k b.2.2.2.1 with
              | some y, some x => (match t_seq U K O y.1 A with
                | some L => t_all (t_fin U K P O b y.2 k x) L
                | none => none)
              | _, _ => none) = some L := hst
            rw [show k = pc from hpc, hf] at hX
            split at hX
            · rename_i y x' hy hx'
              cases hx'
              split at hX
              · rename_i L1 hL1
                refine t_seq_ok hKJ hG hU _ _ _ hL1 fun B' hB' => ?_
                obtain ⟨L', h2, h3⟩ := t_all_ok hX hL B' hB'
                exact t_fin_ok (P := P) (b := b) hKJ hfn B.exec B.bytes hK hd (fun h4 => step0 B' L' h4 h3) h2 h3
              · cases hX
            · cases hX
        · exact step0 A L hst hL) (fun _ _ _ _ _ _ _ _ hh => by cases hh) hJ2 hrw (List.all_eq_true.mp hck) hgo
    exact key (lv_args 0 vals) [] w 0 0 s2 s3 hT (c_ext_rf _ _ _) s1 s.heap [] _ hPP hD va_S.rf (by rw [hnL]; exact lv_entry vals (by omega))
  · cases hgo
/-- what tables with such a word keep -/
def t_Kb (M : List t_Row) (C : List Nat) (E : cEff) : Bool := C.all (fun t => E.any (fun x => Nat.beq x.1 t)) && M.all (fun m => E.any (fun x => Nat.beq x.1 m.1 && Nat.ble x.2.1 m.2.2.1 && Nat.ble (m.2.2.1 + m.2.2.2.2.2) (x.2.2 + 1)))
theorem t_Jfr {G : (Nat → Int) → Prop} {M : List t_Row} {C : List Nat} {K : cTab} (hKJ : K.2.2.2.2.2 = t_J G M C) (h : t_Kb M C K.2.2.2.2.1 = true) : c_Jfr K := by
  intro t a f f' g hf hj
  rw [hKJ] at hj ⊢
  intro hC hg
  obtain ⟨h1, h2⟩ := hj hC hg
  refine ⟨h1, fun m hm ht hadr k hl hk => ?_⟩
  unfold t_Kb at h
  rw [Bool.and_eq_true] at h
  obtain ⟨x, x1, x2⟩ := List.any_eq_true.mp (List.all_eq_true.mp h.2 m hm)
  rw [Bool.and_eq_true, Bool.and_eq_true] at x2
  have y1 := Nat.eq_of_beq_eq_true x2.1.1
  have y2 := Nat.le_of_ble_eq_true x2.1.2
  have y3 := Nat.le_of_ble_eq_true x2.2
  rw [hf _ ⟨x, x1, y1.trans ht, by omega, by omega⟩]
  exact h2 m hm ht hadr k hl hk
theorem t_Jnw {G : (Nat → Int) → Prop} {M : List t_Row} {C : List Nat} {K : cTab} (hKJ : K.2.2.2.2.2 = t_J G M C) (h : t_Kb M C K.2.2.2.2.1 = true) : c_Jnw K := by
  intro t a f g h9
  rw [hKJ]
  intro hC hg
  unfold t_Kb at h
  rw [Bool.and_eq_true] at h
  rcases h9 with h9 | h9
  · have h3 := List.all_eq_true.mp h.1 t (List.contains_iff_mem.mp hC)
    obtain ⟨x, x1, x2⟩ := List.any_eq_true.mp h3
    exact absurd (Nat.eq_of_beq_eq_true x2) (h9 x x1)
  · exact absurd h9.1 hg
