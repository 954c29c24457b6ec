/-! the checker: memory, calls, one instruction, a whole contract -/
/-- (kind, a, b, value): 0 field (class a, place b), 1 method a, 2 method a of a nest mate, 3 class a, 4 constant, 5 Object's own <init>, 6 arraycopy, 7 array of class a, 8 rows of longs -/
abbrev cLk : Type := Nat × Nat × Nat × Int
/-- one outcome: facts, flags, known places -/
abbrev cDj : Type := List cLin × List (Nat × Nat) × List (Nat × cLin)
/-- method; arguments (kind, tag, least, greatest); entry places; facts; flags; depth; what it hits; promoted tags; the tag that argument 1 has then (0: as it was); cells; slots; answer (0 none, 1 int, 2 long, 3 boolean); outcomes -/
abbrev cCtr : Type := Nat × List (Nat × Nat × Int × Int) × List (Nat × cLin) × List cLin × List (Nat × Nat) × cLin × cEff × List Nat × Nat × Nat × Nat × Nat × List cDj
def ct_m (c : cCtr) : Nat := c.1
def ct_args (c : cCtr) : List (Nat × Nat × Int × Int) := c.2.1
def ct_ec (c : cCtr) : List (Nat × cLin) := c.2.2.1
def ct_pre (c : cCtr) : List cLin := c.2.2.2.1
def ct_pfl (c : cCtr) : List (Nat × Nat) := c.2.2.2.2.1
def ct_dep (c : cCtr) : cLin := c.2.2.2.2.2.1
def ct_eff (c : cCtr) : cEff := c.2.2.2.2.2.2.1
def ct_pros (c : cCtr) : List Nat := c.2.2.2.2.2.2.2.1
def ct_rdy (c : cCtr) : Nat := c.2.2.2.2.2.2.2.2.1
def ct_mc (c : cCtr) : Nat := c.2.2.2.2.2.2.2.2.2.1
def ct_ms (c : cCtr) : Nat := c.2.2.2.2.2.2.2.2.2.2.1
def ct_ret (c : cCtr) : Nat := c.2.2.2.2.2.2.2.2.2.2.2.1
def ct_post (c : cCtr) : List cDj := c.2.2.2.2.2.2.2.2.2.2.2.2
def c_eqL (a b : cLin) : Bool := decide ((c_sub a b).1 = 0) && (c_sub a b).2.isEmpty
theorem c_eqL_ok {a b : cLin} (h : c_eqL a b = true) (r : Nat → Int) : c_ev r a = c_ev r b := by
  unfold c_eqL at h
  rw [Bool.and_eq_true] at h
  have h1 := of_decide_eq_true h.1
  have h2 : (c_sub a b).2 = [] := List.isEmpty_iff.mp h.2
  have h3 := c_ev_sub r a b
  unfold c_ev at h3
  rw [h1, h2] at h3
  have : (0 : Int) + 0 = c_ev r a - c_ev r b := h3
  unfold c_ev at this ⊢
  omega
def c_mget (rs : Nat) (idx : cLin) : List (Nat × cLin × cAV) → Option cAV
  | [] => none
  | q :: t => if Nat.beq q.1 rs && c_eqL q.2.1 idx then some q.2.2 else c_mget rs idx t
def c_tagOf (s : Nat) : List (Nat × Nat) → Option Nat
  | [] => none
  | q :: t => if Nat.beq q.1 s then some q.2 else c_tagOf s t
/-- the symbol of a reference that isn't null -/
def c_refS (A : cSt) (a : cAV) : Option Nat := match a with
  | (2, (0, [(s, 1)])) => if c_mem3 s 3 A.2.2.1 then some s else none
  | _ => none
def c_join2 (a b : cVT) : Option cVT := if Nat.beq a.1 b.1 then (if Nat.ble a.1 1 then some (a.1, min a.2.1 b.2.1, max a.2.2 b.2.2) else if decide (a = b) then some a else none) else none
def c_joinI (f : Nat → cVT) (i k : Int) : Nat → Option cVT
  | 0 => none
  | 1 => some (f i.toNat)
  | n + 2 => match c_joinI f (i + k) k (n + 1) with
    | none => none
    | some b => c_join2 (f i.toNat) b
/-- the places that an index may be: (first, step, how many) -/
def c_places (A : cSt) (idx : cLin) : Option (Int × Int × Nat) := match idx.2 with
  | [] => if 0 ≤ idx.1 then some (idx.1, 1, 1) else none
  | [q] => (match c_look q.1 A.2.1 with
    | none => none
    | some x => if 0 < q.2 ∧ 0 ≤ idx.1 + q.2 * x.1 ∧ x.1 ≤ x.2 then some (idx.1 + q.2 * x.1, q.2, (x.2 - x.1 + 1).toNat) else none)
  | _ => (match c_rng A.2.1 idx with
    | none => none
    | some x => if 0 ≤ x.1 ∧ x.1 ≤ x.2 then some (x.1, 1, (x.2 - x.1 + 1).toNat) else none)
def c_typL (K : cTab) (A : cSt) (t : Nat) (idx : cLin) : Option cVT := match K.2.2.2.1 t with
  | some x => some x
  | none => (match c_places A idx with
    | none => none
    | some p => c_joinI (K.1 t) p.1 p.2.1 p.2.2)
def c_impT (A : cSt) (t rs : Nat) (idx : cLin) : List cImp → Option cVT
  | [] => none
  | i :: l => if Nat.beq i.1 t && c_eqL idx (c_con i.2.2.1) then (match c_mget rs (c_con i.2.1) A.2.2.2.2.2.2.2.1 with
      | some (0, e) => if c_nz A e then some i.2.2.2 else c_impT A t rs idx l
      | _ => c_impT A t rs idx l) else c_impT A t rs idx l
/-- a new symbol of a type, on the stack and as a known place -/
def c_freshM (A : cSt) (vt : cVT) (rs : Nat) (idx : cLin) (S : List cAV) : Option cSt := match vt.1 with
  | 0 => some (c_setM (c_setS (c_newY A vt.2.1 vt.2.2) ((0, c_sym A.1) :: S)) ((rs, idx, (0, c_sym A.1)) :: A.2.2.2.2.2.2.2.1))
  | 1 => some (c_setM (c_setS (c_newY A vt.2.1 vt.2.2) ((1, c_sym A.1) :: S)) ((rs, idx, (1, c_sym A.1)) :: A.2.2.2.2.2.2.2.1))
  | 2 => some (c_setG (c_setM (c_setS (c_newY A (c_lo 1) (c_hi 1)) ((1, c_sym A.1) :: S)) ((rs, idx, (1, c_sym A.1)) :: A.2.2.2.2.2.2.2.1)) ((A.1, 2) :: A.2.2.1))
  | 3 => some (A.1 + 1, A.2.1, (A.1, 3) :: A.2.2.1, (A.1, vt.2.1.toNat) :: A.2.2.2.1, A.2.2.2.2.1, A.2.2.2.2.2.1, (2, c_sym A.1) :: S, (rs, idx, (2, c_sym A.1)) :: A.2.2.2.2.2.2.2.1, A.2.2.2.2.2.2.2.2)
  | 4 => some (A.1 + 1, A.2.1, A.2.2.1, (A.1, vt.2.1.toNat) :: A.2.2.2.1, A.2.2.2.2.1, A.2.2.2.2.2.1, (2, c_sym A.1) :: S, (rs, idx, (2, c_sym A.1)) :: A.2.2.2.2.2.2.2.1, A.2.2.2.2.2.2.2.2)
  | _ => none
def c_load (K : cTab) (A : cSt) (rs : Nat) (idx : cLin) (S : List cAV) : Option cSt := match c_mget rs idx A.2.2.2.2.2.2.2.1 with
  | some av => some (c_setS A (av :: S))
  | none => (match c_tagOf rs A.2.2.2.1 with
    | none => none
    | some t => if Nat.beq rs 0 then none else if c_in3 A 0 (((K.2.1 t).2.1 : Int) - 1) idx then (match c_impT A t rs idx K.2.2.1 with
        | some vt => c_freshM A vt rs idx S
        | none => (match c_typL K A t idx with
          | none => none
          | some vt => c_freshM A vt rs idx S)) else none)
def c_fits (A : cSt) (a : cAV) (vt : cVT) : Bool := match vt.1 with
  | 0 => Nat.beq a.1 0 && (c_in2 A vt.2.1 vt.2.2 a.2 || (c_ent A.2.1 A.2.2.2.2.1 3 (c_addc a.2 (-vt.2.1)) && c_ent A.2.1 A.2.2.2.2.1 3 (c_addc (c_mul (-1) a.2) vt.2.2)))
  | 1 => Nat.beq a.1 1 && c_in2 A vt.2.1 vt.2.2 a.2
  | 2 => Nat.beq a.1 1 && c_n32 A a.2
  | 3 => (match c_refS A a with
    | some s => (match c_tagOf s A.2.2.2.1 with
      | some t => decide (vt.2.1.toNat = t)
      | none => false)
    | none => false)
  | 4 => (match a with
    | (2, (0, [(s, 1)])) => (match c_tagOf s A.2.2.2.1 with
      | some t => decide (vt.2.1.toNat = t)
      | none => false)
    | (2, (-1, [])) => true
    | _ => false)
  | _ => true
def c_leT (a b : cVT) : Bool := decide (a = b) || (Nat.beq a.1 b.1 && Nat.ble a.1 1 && decide (b.2.1 ≤ a.2.1) && decide (a.2.2 ≤ b.2.2))
def c_allI (f : Int → Bool) (i k : Int) : Nat → Bool
  | 0 => true
  | n + 1 => f i && c_allI f (i + k) k n
/-- taken from a place of a cell of the same tag, d places on -/
def c_copied (K : cTab) (A : cSt) (t : Nat) (idx : cLin) (a : cAV) (p : Int × Int × Nat) : List (Nat × cLin × cAV) → Bool
  | [] => false
  | q :: l => (Nat.beq q.2.2.1 a.1 && Nat.ble a.1 2 && c_eqL q.2.2.2 a.2 && !(Nat.beq q.1 0) && (c_sub q.2.1 idx).2.isEmpty && (match c_tagOf q.1 A.2.2.2.1 with
      | some t' => Nat.beq t t' && c_allI (fun j => decide (0 ≤ j + (c_sub q.2.1 idx).1) && c_leT (c_ty K t (j + (c_sub q.2.1 idx).1).toNat) (c_ty K t j.toNat)) p.1 p.2.1 p.2.2
      | none => false)) || c_copied K A t idx a p l
def c_impsOk (A : cSt) (t rs : Nat) (idx : cLin) (a : cAV) : List cImp → Bool
  | [] => true
  | i :: l => (!(Nat.beq i.1 t) || ((!(c_in2 A i.2.1 i.2.1 idx) || (Nat.beq a.1 0 && c_in2 A 0 0 a.2) || (match c_mget rs (c_con i.2.2.1) A.2.2.2.2.2.2.2.1 with
        | some b => c_fits A b i.2.2.2
        | none => false)) && (!(c_in2 A i.2.2.1 i.2.2.1 idx) || c_fits A a i.2.2.2 || (match c_mget rs (c_con i.2.1) A.2.2.2.2.2.2.2.1 with
        | some (0, e) => c_in2 A 0 0 e
        | _ => false)) && !(Nat.beq i.2.1 i.2.2.1) && idx.2.isEmpty)) && c_impsOk A t rs idx a l
def c_effIn (E : cEff) (t : Nat) (lo hi : Int) : Bool := E.any (fun x => Nat.beq x.1 t && decide ((x.2.1 : Int) ≤ lo) && decide (hi ≤ (x.2.2 : Int)))
def c_off (E : cEff) (t : Nat) (lo hi : Int) : Bool := E.all (fun x => !(Nat.beq x.1 t) || decide (hi < (x.2.1 : Int)) || decide ((x.2.2 : Int) < lo))
def c_keepM (A : cSt) (t : Nat) (lo hi : Int) (q : Nat × cLin × cAV) : Bool := match q.1 with
  | 0 => !(Nat.beq t 0) || (match c_rng A.2.1 q.2.1 with
    | some x => decide (x.2 < lo) || decide (hi < x.1)
    | none => false)
  | _ => (match c_tagOf q.1 A.2.2.2.1 with
    | none => false
    | some t' => !(Nat.beq t' t) || (match c_rng A.2.1 q.2.1 with
      | some x => decide (x.2 < lo) || decide (hi < x.1)
      | none => false))
def c_killM (A : cSt) (t : Nat) (lo hi : Int) : cSt := c_setM A (A.2.2.2.2.2.2.2.1.filter (c_keepM A t lo hi))
def c_stTy (K : cTab) (A : cSt) (t : Nat) (a : cAV) (p : Int × Int × Nat) : Bool := match K.2.2.2.1 t with
  | some vt => c_fits A a vt
  | none => c_allI (fun j => c_fits A a (c_ty K t j.toNat)) p.1 p.2.1 p.2.2
def c_store (K : cTab) (E : cEff) (A : cSt) (rs : Nat) (idx : cLin) (a : cAV) : Option cSt := match c_tagOf rs A.2.2.2.1, c_places A idx, c_rng A.2.1 idx with
  | some t, some p, some x =>
    if !(Nat.beq rs 0) && c_in3 A 0 (((K.2.1 t).2.1 : Int) - 1) idx && (c_stTy K A t a p || c_copied K A t idx a p A.2.2.2.2.2.2.2.1) && c_impsOk A t rs idx a K.2.2.1 && c_effIn E t x.1 x.2 && c_off K.2.2.2.2.1 t x.1 x.2 then
      some (c_setM (c_killM A t x.1 x.2) ((rs, idx, a) :: (c_killM A t x.1 x.2).2.2.2.2.2.2.2.1)) else none
  | _, _, _ => none
/-- substitution by a list -/
def c_subst (th : List cLin) : List (Nat × Int) → cLin → Option cLin
  | [], acc => some acc
  | q :: t, acc => match th[q.1]? with
    | none => none
    | some e => c_subst th t (c_add (c_mul q.2 e) acc)
def c_sb (th : List cLin) (e : cLin) : Option cLin := c_subst th e.2 (e.1, [])
def c_wfL (n : Nat) (e : cLin) : Bool := e.2.all (fun q => Nat.blt q.1 n)
/-- places, one behind the other, each a new symbol or what is known; ghost places (base 0) have no range -/
def c_loads (K : cTab) : List (Nat × cLin) → cSt → List cLin → Option (cSt × List cLin)
  | [], A, th => some (A, th)
  | q :: l, A, th => match c_sb th q.2 with
    | none => none
    | some idx => if !(c_wfL A.1 idx) then none else if Nat.beq q.1 0 then (match c_mget 0 idx A.2.2.2.2.2.2.2.1 with
        | some a => c_loads K l A (th ++ [a.2])
        | none => (match c_rng A.2.1 idx with
          | some y => if 0 ≤ y.1 then (if c_adr idx.1.toNat && idx.2.isEmpty then c_loads K l (c_setM (A.1 + 1, A.2) ((0, idx, (1, c_sym A.1)) :: A.2.2.2.2.2.2.2.1)) (th ++ [c_sym A.1]) else if idx.2.isEmpty || decide (343 ≤ y.1) || decide (y.2 ≤ 320) then c_loads K l (c_setM (c_newY A (c_glo idx) (c_ghi idx)) ((0, idx, (1, c_sym A.1)) :: A.2.2.2.2.2.2.2.1)) (th ++ [c_sym A.1]) else none) else none
          | none => none)) else (match th[q.1]? with
        | none => none
        | some b => (match c_refS A (2, b) with
          | none => none
          | some rs => if Nat.beq rs 0 then none else (match c_load K A rs idx A.2.2.2.2.2.2.1 with
            | none => none
            | some B => (match B.2.2.2.2.2.2.1 with
              | [] => none
              | a :: _ => if Nat.ble a.1 2 then c_loads K l B (th ++ [a.2]) else none))))
def c_entS (A : cSt) (th : List cLin) (f : cLin) : Bool := match c_sb th f with
  | none => false
  | some e => c_ent A.2.1 A.2.2.2.2.1 3 e
def c_flagIs (A : cSt) (k : Nat) (e : cLin) : Bool := match k with
  | 1 => c_nz A e
  | 2 => c_n32 A e
  | _ => false
def c_flS (A : cSt) (th : List cLin) (q : Nat × Nat) : Bool := match th[q.1]? with
  | none => false
  | some e => c_flagIs A q.2 e
def c_argOk (A : cSt) (x : Nat × Nat × Int × Int) (a : cAV) : Bool := match x.1 with
  | 0 => Nat.beq a.1 0 && (c_in2 A x.2.2.1 x.2.2.2 a.2 || (c_ent A.2.1 A.2.2.2.2.1 3 (c_addc a.2 (-x.2.2.1)) && c_ent A.2.1 A.2.2.2.2.1 3 (c_addc (c_mul (-1) a.2) x.2.2.2)))
  | 1 => Nat.beq a.1 1 && c_in2 A x.2.2.1 x.2.2.2 a.2
  | _ => (match c_refS A a with
    | some s => (match c_tagOf s A.2.2.2.1 with
      | some t => Nat.beq t x.2.1
      | none => false)
    | none => false)
def c_argsOk (A : cSt) : List (Nat × Nat × Int × Int) → List cAV → Bool
  | [], [] => true
  | x :: l, a :: m => c_argOk A x a && c_argsOk A l m
  | _, _ => false
def c_assumes (A : cSt) (th : List cLin) : List cLin → Option cSt
  | [] => some A
  | f :: l => match c_sb th f with
    | none => c_assumes A th l
    | some e => (match c_assume A e with
      | none => none
      | some B => c_assumes B th l)
def c_flags (A : cSt) (th : List cLin) : List (Nat × Nat) → cSt
  | [] => A
  | q :: l => match th[q.1]? with
    | none => c_flags A th l
    | some e => (match c_unit e with
      | none => c_flags A th l
      | some s => if Nat.ble q.2 2 && Nat.ble 1 q.2 then c_flags (c_setG A ((s, q.2) :: A.2.2.1)) th l else c_flags A th l)
def c_killE (A : cSt) : cEff → cSt
  | [] => A
  | x :: l => c_killE (c_killM A x.1 x.2.1 x.2.2) l
/-- what follows a call, by one of its outcomes; none: it can't be told; some none: no such state -/
def c_retS (A : cSt) (ret : Nat) (S : List cAV) : cSt := match ret with
  | 0 => c_setS A S
  | 1 => c_fr A 0 (c_lo 0) (c_hi 0) S
  | 2 => c_fr A 1 (c_lo 1) (c_hi 1) S
  | _ => c_fr A 0 0 1 S
def c_retT (A : cSt) (ret : Nat) (th : List cLin) : List cLin := match ret with
  | 0 => th
  | _ => th ++ [c_sym A.1]
def c_after (K : cTab) (A : cSt) (th : List cLin) (ret : Nat) (S : List cAV) (d : cDj) : Option (Option cSt) :=
  match c_assumes (c_retS A ret S) (c_retT A ret th) d.1 with
  | none => some none
  | some C => (match c_loads K d.2.2 C (c_retT A ret th) with
    | none => none
    | some D => (match c_assumes D.1 D.2 d.1 with
      | none => some none
      | some E => some (some (c_setS (c_flags E D.2 d.2.1) (c_retS A ret S).2.2.2.2.2.2.1))))
def c_afters (K : cTab) (A : cSt) (th : List cLin) (ret nx : Nat) (S : List cAV) : List cDj → Option (List (Nat × cSt))
  | [] => some []
  | d :: l => match c_after K A th ret S d, c_afters K A th ret nx S l with
    | some none, some m => some m
    | some (some B), some m => some ((nx, B) :: m)
    | _, _ => none
def c_catS : List cAV → Nat
  | [] => 0
  | a :: l => (if Nat.beq a.1 1 then 2 else 1) + c_catS l
/-- a known place of a cell whose tag isn't promoted -/
def c_notP (A : cSt) (ps : List Nat) (q : Nat × cLin × cAV) : Bool := match q.1 with
  | 0 => true
  | _ => (match c_tagOf q.1 A.2.2.2.1 with
    | none => false
    | some t => !(ps.contains t))
/-- promoted tags are forgotten -/
def c_promS (A : cSt) (ps : List Nat) : cSt := c_setR (c_setM A (A.2.2.2.2.2.2.2.1.filter (c_notP A ps))) (A.2.2.2.1.filter (fun q => !(ps.contains q.2)))
def c_rdyS (A : cSt) (t : Nat) (avs : List cAV) : cSt := match t, avs with
  | 0, _ => A
  | t, (2, (0, [(s, 1)])) :: _ => c_setR A ((s, t) :: A.2.2.2.1)
  | _, _ => A
def c_depOk (A : cSt) (th : List cLin) (O ct : cCtr) : Bool := match c_sb th (ct_dep ct) with
  | none => false
  | some e => c_ent A.2.1 A.2.2.2.2.1 3 (c_addc (c_sub (ct_dep O) e) (-1))
/-- a call by one contract -/
def c_call1 (K : cTab) (O : cCtr) (A : cSt) (nx : Nat) (avs S : List cAV) (ct : cCtr) : Option (List (Nat × cSt)) :=
  match c_loads K (ct_ec ct) A (c_sym 0 :: avs.map (fun a => a.2)) with
    | none => none
    | some B => if c_argsOk B.1 (ct_args ct) avs && B.2.all (c_wfL B.1.1) && Nat.ble (c_catS S) 8 && Nat.ble (A.2.2.2.2.2.2.2.2.1 + ct_mc ct) (ct_mc O) && Nat.ble (A.2.2.2.2.2.2.2.2.2 + ct_ms ct) (ct_ms O) && (ct_eff ct).all (fun x => c_effIn (ct_eff O) x.1 x.2.1 x.2.2) && (ct_pros ct).all (fun t => (ct_pros O).contains t)
        && (ct_pre ct).all (c_entS B.1 B.2) && (ct_pfl ct).all (c_flS B.1 B.2) && c_depOk B.1 B.2 O ct then
      c_afters K (c_setC (c_rdyS (c_promS (c_killE B.1 (ct_eff ct)) (ct_pros ct)) (ct_rdy ct) avs) (A.2.2.2.2.2.2.2.2.1 + ct_mc ct) (A.2.2.2.2.2.2.2.2.2 + ct_ms ct)) B.2 (ct_ret ct) nx S (ct_post ct) else none
def c_call (K : cTab) (O : cCtr) (A : cSt) (nx : Nat) (avs S : List cAV) : List cCtr → Option (List (Nat × cSt))
  | [] => none
  | ct :: l => match c_call1 K O A nx avs S ct with
    | some r => some r
    | none => c_call K O A nx avs S l
def c_seq (A : Option cSt) (nx : Nat) : Option (List (Nat × cSt)) := match A with
  | none => none
  | some B => some [(nx, B)]
def c_opt (nx : Nat) : Option cSt → List (Nat × cSt)
  | none => []
  | some B => [(nx, B)]
def c_neg : Nat → Nat
  | 0 => 1
  | 1 => 0
  | 2 => 3
  | 3 => 2
  | 4 => 5
  | _ => 4
def c_tgt (pc : Nat) (off : Int) : Nat := ((pc : Int) + off).toNat
def c_pop (S : List cAV) : Option cSt → Option cSt
  | none => none
  | some B => some (c_setS B S)
def c_br (A : cSt) (S : List cAV) (pc nx o : Nat) (off : Int) (e : cLin) : Option (List (Nat × cSt)) := if 0 ≤ (pc : Int) + off then some (c_opt nx (c_pop S (c_asm A (c_neg o) e)) ++ c_opt (c_tgt pc off) (c_pop S (c_asm A o e))) else none
def c_cn : Jvm.ClassFile.Cond → Nat
  | .eq => 0
  | .ne => 1
  | .lt => 2
  | .ge => 3
  | .gt => 4
  | .le => 5
def c_bool (b : Bool) (L : List (Nat × cSt)) : Option (List (Nat × cSt)) := if b then some L else none
