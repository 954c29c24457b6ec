/-! one instruction -/
/-- links by class and index; contracts by method; arguments by method; field types (class, place): 0 int, 1 long, 2 reference, 3 boolean -/
abbrev cPrg : Type := (Nat → Nat → Option cLk) × (Nat → List cCtr) × (Nat → Nat) × (Nat → Nat → Nat)
/-- what a run is told ahead: (pc, 0, tag): an array made there; (pc, 1, tag): the object of symbol 1 becomes that tag; (pc, 2, _): the stack's top is split; (0, 3, ci): a constructor -/
abbrev cAnn : Type := List (Nat × Nat × Nat)
def c_annOf (pc k : Nat) : cAnn → Option Nat
  | [] => none
  | q :: l => if Nat.beq q.1 pc && Nat.beq q.2.1 k then some q.2.2 else c_annOf pc k l
def c_len (len k : Nat) (r : Option (List (Nat × cSt))) : Option (List (Nat × cSt)) := if Nat.beq len k then r else none
def c_stk (A : cSt) : List cAV := A.2.2.2.2.2.2.1
def c_loc (A : cSt) : List (Nat × cAV) := A.2.2.2.2.2.1
def c_me (A : cSt) : List (Nat × cLin × cAV) := A.2.2.2.2.2.2.2.1
def c_cu (A : cSt) : Nat := A.2.2.2.2.2.2.2.2.1
def c_su (A : cSt) : Nat := A.2.2.2.2.2.2.2.2.2
def c_pushc (A : cSt) (nx k : Nat) (v : Int) : Option (List (Nat × cSt)) := some [(nx, c_setS A ((k, c_con v) :: c_stk A))]
def c_getl (A : cSt) (nx k i : Nat) : Option (List (Nat × cSt)) := match c_locGet i (c_loc A) with
  | some a => if Nat.beq a.1 k then some [(nx, c_setS A (a :: c_stk A))] else none
  | none => none
def c_putl (A : cSt) (nL nx k i : Nat) : Option (List (Nat × cSt)) := match c_stk A with
  | a :: S => if Nat.beq a.1 k then (if Nat.beq k 1 then (if Nat.blt (i + 1) nL then some [(nx, c_setL (c_setS A S) (c_lset2 i a (c_loc A)))] else none) else (if Nat.blt i nL then some [(nx, c_setL (c_setS A S) (c_lset1 i a (c_loc A)))] else none)) else none
  | [] => none
def c_bin (A : cSt) (nx k : Nat) (f : cLin → cLin → List cAV → Option cSt) : Option (List (Nat × cSt)) := match c_stk A with
  | b :: a :: S => if Nat.beq a.1 k && Nat.beq b.1 k then c_seq (f a.2 b.2 S) nx else none
  | _ => none
def c_un (A : cSt) (nx k : Nat) (f : cLin → List cAV → Option cSt) : Option (List (Nat × cSt)) := match c_stk A with
  | a :: S => if Nat.beq a.1 k then c_seq (f a.2 S) nx else none
  | _ => none
def c_mulx (A : cSt) (k : Nat) (x y : cLin) (S : List cAV) : cSt :=
  if y.2.isEmpty then c_norm A k (c_mul y.1 x) S else if x.2.isEmpty then c_norm A k (c_mul x.1 y) S else
  let B := (match c_rng A.2.1 x, c_rng A.2.1 y with
    | some p, some q => if c_lo k ≤ c_pmin p.1 p.2 q.1 q.2 ∧ c_pmax p.1 p.2 q.1 q.2 ≤ c_hi k then c_fr A k (c_pmin p.1 p.2 q.1 q.2) (c_pmax p.1 p.2 q.1 q.2) S else c_fr A k (c_lo k) (c_hi k) S
    | _, _ => c_fr A k (c_lo k) (c_hi k) S)
  if Nat.beq k 1 && c_n32 A x && c_n32 A y then c_setG B ((A.1, 1) :: B.2.2.1) else B
def c_andx (A : cSt) (x y : cLin) (S : List cAV) : cSt := match c_rng A.2.1 x, c_rng A.2.1 y with
  | some p, some q => if 0 ≤ q.1 then (if 0 ≤ p.1 ∧ p.2 ≤ q.2 then c_fr A 0 0 p.2 S else c_fr A 0 0 q.2 S) else if 0 ≤ p.1 then c_fr A 0 0 p.2 S else c_fr A 0 (c_lo 0) (c_hi 0) S
  | _, _ => c_fr A 0 (c_lo 0) (c_hi 0) S
/-- a byte and 255: two ways -/
def c_and2 (A : cSt) (nx : Nat) : Option (List (Nat × cSt)) := match c_stk A with
  | (0, (255, [])) :: (0, e) :: S => if c_in2 A (-128) 127 e then some (c_opt nx (c_pop ((0, e) :: S) (c_asm A 3 e)) ++ c_opt nx (c_pop ((0, c_addc e 256) :: S) (c_asm A 2 e))) else c_bin A nx 0 (fun x y S => some (c_andx A x y S))
  | _ => c_bin A nx 0 (fun x y S => some (c_andx A x y S))
def c_pw (m : Int) : Nat → Nat → Nat
  | 0, k => k
  | n + 1, k => if m < (2 : Int) ^ k then k else c_pw m n (k + 1)
def c_orx (A : cSt) (x y : cLin) (S : List cAV) : cSt := match c_rng A.2.1 x, c_rng A.2.1 y with
  | some p, some q => if 0 ≤ p.1 ∧ 0 ≤ q.1 ∧ p.2 < (2 : Int) ^ (c_pw (max p.2 q.2) 31 0) ∧ q.2 < (2 : Int) ^ (c_pw (max p.2 q.2) 31 0) ∧ c_pw (max p.2 q.2) 31 0 ≤ 31 then c_fr A 0 0 ((2 : Int) ^ (c_pw (max p.2 q.2) 31 0) - 1) S else c_fr A 0 (c_lo 0) (c_hi 0) S
  | _, _ => c_fr A 0 (c_lo 0) (c_hi 0) S
def c_shlx (A : cSt) (x y : cLin) (S : List cAV) : cSt := match c_rng A.2.1 y with
  | some q => if x = (1, []) ∧ 0 ≤ q.1 ∧ q.2 ≤ 30 then c_fr A 0 ((2 : Int) ^ q.1.toNat) ((2 : Int) ^ q.2.toNat) S else c_fr A 0 (c_lo 0) (c_hi 0) S
  | none => c_fr A 0 (c_lo 0) (c_hi 0) S
def c_cutx (A : cSt) (lo hi : Int) (x : cLin) (S : List cAV) : cSt := if c_in2 A lo hi x then c_setS A ((0, x) :: S) else c_fr A 0 lo hi S
def c_sw (A : cSt) (S : List cAV) (x : cLin) (pc : Nat) (lo : Int) : List Int → List (Nat × cSt)
  | [] => []
  | o :: l => c_opt (c_tgt pc o) (c_pop S (c_asm A 0 (c_addc x (-lo)))) ++ c_sw A S x pc (lo + 1) l
/-- a reference on the stack: its symbol, its tag -/
def c_ref (A : cSt) (a : cAV) : Option (Nat × Nat) := match c_refS A a with
  | none => none
  | some s => (match c_tagOf s A.2.2.2.1 with
    | none => none
    | some t => if Nat.beq s 0 then none else some (s, t))
def c_ald (K : cTab) (A : cSt) (nx : Nat) (ok : Nat → Bool) : Option (List (Nat × cSt)) := match c_stk A with
  | (0, i) :: o :: S => (match c_ref A o with
    | none => none
    | some x => if ok (K.2.1 x.2).1 && c_in3 A 0 (((K.2.1 x.2).2.1 : Int) - 1) i then c_seq (c_load K A x.1 i S) nx else none)
  | _ => none
/-- an index that is in the array, but whose range isn't: a new symbol for it -/
def c_regA (A : cSt) (i : cLin) (n : Nat) : cSt := c_setF (c_newY A 0 ((n : Int) - 1)) (c_sub (c_sym A.1) i :: c_sub i (c_sym A.1) :: A.2.2.2.2.1)
def c_sto2 (K : cTab) (E : cEff) (A : cSt) (rs : Nat) (i : cLin) (a : cAV) (n : Nat) : Option cSt := match c_rng A.2.1 i with
  | some x => if 0 ≤ x.1 then c_store K E A rs i a else c_store K E (c_regA A i n) rs (c_sym A.1) a
  | none => c_store K E (c_regA A i n) rs (c_sym A.1) a
def c_ast (K : cTab) (O : cCtr) (A : cSt) (nx : Nat) (ok : Nat → cAV → Bool) : Option (List (Nat × cSt)) := match c_stk A with
  | a :: (0, i) :: o :: S => (match c_ref A o with
    | none => none
    | some x => if ok (K.2.1 x.2).1 a && c_in3 A 0 (((K.2.1 x.2).2.1 : Int) - 1) i then c_seq (c_pop S (c_sto2 K (ct_eff O) A x.1 i a (K.2.1 x.2).2.1)) nx else none)
  | _ => none
def c_dflt (k : Nat) : cAV := match k with
  | 1 => (1, (0, []))
  | 2 => (2, (-1, []))
  | _ => (0, (0, []))
def c_fieldsM (s ci : Nat) (f : Nat → Nat → Nat) : Nat → List (Nat × cLin × cAV) → List (Nat × cLin × cAV)
  | 0, l => l
  | k + 1, l => c_fieldsM s ci f k ((s, c_con (k : Int), c_dflt (f ci k % 10)) :: l)
def c_fldOk (K : cTab) (A : cSt) (ci : Nat) (f : Nat → Nat → Nat) : Nat → Bool
  | 0 => true
  | k + 1 => Nat.ble (f ci k % 10) 3 && c_fits A (c_dflt (f ci k % 10)) (c_ty K (101 + ci) k) && c_fldOk K A ci f k
/-- a new cell of a tag -/
def c_newR (A : cSt) (t : Nat) (S : List cAV) (cells slots : Nat) : cSt := (A.1 + 1, A.2.1, (A.1, 3) :: A.2.2.1, (A.1, t) :: A.2.2.2.1, A.2.2.2.2.1, A.2.2.2.2.2.1, (2, c_sym A.1) :: S, A.2.2.2.2.2.2.2.1, A.2.2.2.2.2.2.2.2.1 + cells, A.2.2.2.2.2.2.2.2.2 + slots)
def c_jt (K : cTab) (A : cSt) (t : Nat) : Bool := K.2.2.2.2.1.all (fun x => !(Nat.beq x.1 t)) || (match c_mget 0 (c_con 1) (c_me A) with
  | some a => c_in2 A 1 1 a.2
  | none => false)
def c_zeroOk (K : cTab) (A : cSt) (t n : Nat) (a : cAV) : Bool := (match K.2.2.2.1 t with
  | some vt => c_fits A a vt
  | none => c_allI (fun j => c_fits A a (c_ty K t j.toNat)) 0 1 n) && K.2.2.1.all (fun i => !(Nat.beq i.1 t))
def c_newA (K : cTab) (O : cCtr) (A : cSt) (nx kind : Nat) (tg : Option Nat) : Option (List (Nat × cSt)) := match c_stk A, tg with
  | (0, (n, [])) :: S, some t => if Nat.beq (K.2.1 t).1 kind && decide (n = ((K.2.1 t).2.1 : Int)) && Nat.ble (K.2.1 t).2.1 100000 && c_zeroOk K A t (K.2.1 t).2.1 (c_dflt (if Nat.beq kind 2 then 1 else if Nat.ble 6 kind then 2 else 0)) && c_jt K A t && Nat.ble (c_cu A + 1) (ct_mc O) && Nat.ble (c_su A + (K.2.1 t).2.1) (ct_ms O) then some [(nx, c_newR A t S 1 (K.2.1 t).2.1)] else none
  | _, _ => none
def c_entryN (O : cCtr) : Nat := 1 + (ct_args O).length + (ct_ec O).length
def c_ids (n : Nat) : List cLin := (List.range n).map c_sym
/-- flags at the end: 3 too, a reference that is not null -/
def c_flR (A : cSt) (th : List cLin) (q : Nat × Nat) : Bool := if Nat.beq q.2 3 then (match th[q.1]? with
  | some (0, [(s, 1)]) => c_mem3 s 3 A.2.2.1
  | _ => false) else c_flS A th q
def c_retD (K : cTab) (O : cCtr) (A : cSt) (rv : List cLin) (d : cDj) : Bool := match c_loads K d.2.2 A (c_ids (c_entryN O) ++ rv) with
  | none => false
  | some B => d.1.all (c_entS B.1 B.2) && d.2.1.all (c_flR B.1 B.2)
def c_rdyOk (t n : Nat) (A : cSt) : Bool := Nat.beq t 0 || (Nat.blt 1 n && c_mem3 1 3 A.2.2.1 && (match c_tagOf 1 A.2.2.2.1 with
    | some t' => Nat.beq t t'
    | none => false))
def c_retOk (K : cTab) (O : cCtr) (A : cSt) (rv : List cLin) : Bool := (ct_post O).any (c_retD K O A rv) && c_rdyOk (ct_rdy O) (c_entryN O) A && Nat.ble (c_cu A) (ct_mc O) && Nat.ble (c_su A) (ct_ms O)
def c_cpyT (k : Nat) (o : Option cVT) : Bool := match o with
  | none => false
  | some vt => Nat.ble k 2 || (Nat.beq vt.1 0 && (if Nat.beq k 3 then decide (-128 ≤ vt.2.1) && decide (vt.2.2 ≤ 127) else decide (-32768 ≤ vt.2.1) && decide (vt.2.2 ≤ 32767)))
def c_inv (K : cTab) (P : cPrg) (O : cCtr) (own : Nat) (A : cSt) (nx idx : Nat) (st : Nat) : Option (List (Nat × cSt)) := match P.1 own idx with
  | some (k, a, b, _) =>
    if (Nat.beq k 1 || Nat.beq k 2) && Nat.beq b st then c_call K O A nx ((c_stk A).take (P.2.2.1 a)).reverse ((c_stk A).drop (P.2.2.1 a)) (P.2.1 a)
    else if Nat.beq k 5 && Nat.beq st 2 then (match c_stk A with
      | o :: S => (match c_refS A o with
        | some _ => if c_ent A.2.1 A.2.2.2.2.1 3 (c_addc (ct_dep O) (-1)) && Nat.ble (c_catS S) 8 then some [(nx, c_setS A S)] else none
        | none => none)
      | _ => none)
    else if Nat.beq k 6 && Nat.beq st 1 then (match c_stk A with
      | (0, n) :: (0, dp) :: o1 :: (0, sp) :: o0 :: S => (match c_ref A o0, c_ref A o1 with
        | some x0, some x1 => if Nat.ble 1 (K.2.1 x0.2).2.1 && Nat.beq x0.2 x1.2 && Nat.ble 1 (K.2.1 x0.2).1 && Nat.ble (K.2.1 x0.2).1 4 && c_in2 A 0 2147483647 sp && c_in2 A 0 2147483647 dp && c_in2 A 0 2147483647 n
            && c_ent A.2.1 A.2.2.2.2.1 3 (c_addc (c_mul (-1) (c_add sp n)) ((K.2.1 x0.2).2.1 : Int)) && c_ent A.2.1 A.2.2.2.2.1 3 (c_addc (c_mul (-1) (c_add dp n)) ((K.2.1 x0.2).2.1 : Int))
            && c_cpyT (K.2.1 x0.2).1 (K.2.2.2.1 x0.2) && K.2.2.1.all (fun i => !(Nat.beq i.1 x0.2)) && K.2.2.2.2.1.all (fun i => !(Nat.beq i.1 x0.2)) && c_effIn (ct_eff O) x0.2 0 (((K.2.1 x0.2).2.1 : Int) - 1)
            && c_ent A.2.1 A.2.2.2.2.1 3 (c_addc (ct_dep O) (-1)) && Nat.ble (c_catS S) 8 then some [(nx, c_promS (c_killE (c_setS A S) [(x0.2, 0, (K.2.1 x0.2).2.1 - 1)]) [])] else none
        | _, _ => none)
      | _ => none)
    else none
  | none => none
/-- (0, 3, ci): the method is a constructor of class ci -/
def c_isIni (an : cAnn) (ci : Nat) : Bool := match c_annOf 0 3 an with
  | some x => Nat.beq ci x
  | none => false
def c_fieldK (A : cSt) (a : cAV) (k : Nat) (ini : Bool) : Bool := (Nat.blt k 10 || ini) && (match k % 10 with
  | 0 => Nat.beq a.1 0
  | 1 => Nat.beq a.1 1
  | 2 => Nat.beq a.1 2
  | 3 => Nat.beq a.1 0 && c_in2 A 0 1 a.2
  | _ => false)
def c_step (K : cTab) (P : cPrg) (O : cCtr) (nL own : Nat) (an : cAnn) (A : cSt) (pc len : Nat) (ins : Jvm.ClassFile.Instr) : Option (List (Nat × cSt)) := match ins with
  | .iconst v => c_len len 1 (if -2147483648 ≤ v ∧ v ≤ 2147483647 then c_pushc A (pc + 1) 0 v else none)
  | .bipush v => c_len len 2 (if -128 ≤ v ∧ v ≤ 127 then c_pushc A (pc + 2) 0 v else none)
  | .sipush v => c_len len 3 (if -32768 ≤ v ∧ v ≤ 32767 then c_pushc A (pc + 3) 0 v else none)
  | .lconst v => c_len len 1 (c_pushc A (pc + 1) 1 ((v : Nat) : Int))
  | .ldc i => c_len len 2 (match P.1 own i with
    | some (4, _, _, v) => if -2147483648 ≤ v ∧ v ≤ 2147483647 then c_pushc A (pc + 2) 0 v else none
    | _ => none)
  | .ldc_w i => c_len len 3 (match P.1 own i with
    | some (4, _, _, v) => if -2147483648 ≤ v ∧ v ≤ 2147483647 then c_pushc A (pc + 3) 0 v else none
    | _ => none)
  | .ldc2_w i => c_len len 3 (match P.1 own i with
    | some (9, _, _, v) => if -9223372036854775808 ≤ v ∧ v ≤ 9223372036854775807 then c_pushc A (pc + 3) 1 v else none
    | _ => none)
  | .iload_n i => c_len len 1 (c_getl A (pc + 1) 0 i)
  | .iload i => c_len len 2 (c_getl A (pc + 2) 0 i)
  | .lload_n i => c_len len 1 (c_getl A (pc + 1) 1 i)
  | .lload i => c_len len 2 (c_getl A (pc + 2) 1 i)
  | .aload_n i => c_len len 1 (c_getl A (pc + 1) 2 i)
  | .aload i => c_len len 2 (c_getl A (pc + 2) 2 i)
  | .istore_n i => c_len len 1 (c_putl A nL (pc + 1) 0 i)
  | .istore i => c_len len 2 (c_putl A nL (pc + 2) 0 i)
  | .lstore_n i => c_len len 1 (c_putl A nL (pc + 1) 1 i)
  | .lstore i => c_len len 2 (c_putl A nL (pc + 2) 1 i)
  | .astore_n i => c_len len 1 (c_putl A nL (pc + 1) 2 i)
  | .astore i => c_len len 2 (c_putl A nL (pc + 2) 2 i)
  | .iinc i v => c_len len 3 (match c_locGet i (c_loc A) with
    | some (0, e) => if -2147483648 ≤ v ∧ v ≤ 2147483647 ∧ i < nL then (match c_stk (c_norm A 0 (c_addc e v) (c_stk A)) with
        | a :: S => some [(pc + 3, c_setL (c_setS (c_norm A 0 (c_addc e v) (c_stk A)) S) (c_lset1 i a (c_loc A)))]
        | [] => none) else none
    | _ => none)
  | .dup => c_len len 1 (match c_stk A with
    | a :: S => if Nat.beq a.1 1 then none else some [(pc + 1, c_setS A (a :: a :: S))]
    | _ => none)
  | .dup2 => c_len len 1 (match c_stk A with
    | a :: b :: S => if Nat.beq a.1 1 then some [(pc + 1, c_setS A (a :: a :: b :: S))] else if Nat.beq b.1 1 then none else some [(pc + 1, c_setS A (a :: b :: a :: b :: S))]
    | a :: [] => if Nat.beq a.1 1 then some [(pc + 1, c_setS A (a :: a :: []))] else none
    | _ => none)
  | .pop => c_len len 1 (match c_stk A with
    | a :: S => if Nat.beq a.1 1 then none else some [(pc + 1, c_setS A S)]
    | _ => none)
  | .pop2 => c_len len 1 (match c_stk A with
    | a :: S => if Nat.beq a.1 1 then some [(pc + 1, c_setS A S)] else none
    | _ => none)
  | .iadd => c_len len 1 (c_bin A (pc + 1) 0 (fun x y S => some (c_norm A 0 (c_add x y) S)))
  | .isub => c_len len 1 (c_bin A (pc + 1) 0 (fun x y S => some (c_norm A 0 (c_sub x y) S)))
  | .imul => c_len len 1 (c_bin A (pc + 1) 0 (fun x y S => some (c_mulx A 0 x y S)))
  | .idiv => c_len len 1 (c_bin A (pc + 1) 0 (fun _ y S => if c_nz A y then some (c_fr A 0 (c_lo 0) (c_hi 0) S) else none))
  | .irem => c_len len 1 (c_bin A (pc + 1) 0 (fun _ y S => if c_nz A y then some (c_fr A 0 (c_lo 0) (c_hi 0) S) else none))
  | .iand => c_len len 1 (c_and2 A (pc + 1))
  | .ior => c_len len 1 (c_bin A (pc + 1) 0 (fun x y S => some (c_orx A x y S)))
  | .ixor => c_len len 1 (c_bin A (pc + 1) 0 (fun _ _ S => some (c_fr A 0 (c_lo 0) (c_hi 0) S)))
  | .ishl => c_len len 1 (c_bin A (pc + 1) 0 (fun x y S => some (c_shlx A x y S)))
  | .ishr => c_len len 1 (c_bin A (pc + 1) 0 (fun _ _ S => some (c_fr A 0 (c_lo 0) (c_hi 0) S)))
  | .ineg => c_len len 1 (c_un A (pc + 1) 0 (fun x S => some (c_norm A 0 (c_mul (-1) x) S)))
  | .ladd => c_len len 1 (c_bin A (pc + 1) 1 (fun x y S => some (c_norm A 1 (c_add x y) S)))
  | .lsub => c_len len 1 (c_bin A (pc + 1) 1 (fun x y S => some (c_norm A 1 (c_sub x y) S)))
  | .lmul => c_len len 1 (c_bin A (pc + 1) 1 (fun x y S => some (c_mulx A 1 x y S)))
  | .ldiv => c_len len 1 (c_bin A (pc + 1) 1 (fun _ y S => if c_nz A y then some (c_fr A 1 (c_lo 1) (c_hi 1) S) else none))
  | .lrem => c_len len 1 (c_bin A (pc + 1) 1 (fun _ y S => if c_nz A y then some (c_fr A 1 (c_lo 1) (c_hi 1) S) else none))
  | .lxor => c_len len 1 (c_bin A (pc + 1) 1 (fun _ _ S => some (c_fr A 1 (c_lo 1) (c_hi 1) S)))
  | .lneg => c_len len 1 (c_un A (pc + 1) 1 (fun x S => some (c_norm A 1 (c_mul (-1) x) S)))
  | .i2l => c_len len 1 (c_un A (pc + 1) 0 (fun x S => some (c_setS A ((1, x) :: S))))
  | .l2i => c_len len 1 (c_un A (pc + 1) 1 (fun x S => some (c_cutx A (c_lo 0) (c_hi 0) x S)))
  | .i2b => c_len len 1 (c_un A (pc + 1) 0 (fun x S => some (c_cutx A (-128) 127 x S)))
  | .i2s => c_len len 1 (c_un A (pc + 1) 0 (fun x S => some (c_cutx A (-32768) 32767 x S)))
  | .lcmp => c_len len 1 (c_bin A (pc + 1) 1 (fun x y S => some (c_setS A ((3, c_sub x y) :: S))))
  | .ifCond o off => c_len len 3 (match c_stk A with
    | a :: S => if Nat.beq a.1 0 || Nat.beq a.1 3 then c_br A S pc (pc + 3) (c_cn o) off a.2 else none
    | _ => none)
  | .if_icmp o off => c_len len 3 (match c_stk A with
    | b :: a :: S => if Nat.beq a.1 0 && Nat.beq b.1 0 then c_br A S pc (pc + 3) (c_cn o) off (c_sub a.2 b.2) else none
    | _ => none)
  | .ifnonnull off => c_len len 3 (match c_stk A with
    | (2, (0, [(s, 1)])) :: S => if 0 ≤ (pc : Int) + off then some [(c_tgt pc off, c_setG (c_setS A S) ((s, 3) :: A.2.2.1)), (pc + 3, c_setF (c_setS A S) (((-1), [(s, (-1))]) :: A.2.2.2.2.1))] else none
    | _ => none)
  | .goto off => c_len len 3 (if 0 ≤ (pc : Int) + off then some [(c_tgt pc off, A)] else none)
  | .tableswitch d lo hi offs => (match c_stk A with
    | (0, x) :: S => if hi = lo + (offs.size : Int) - 1 ∧ 0 ≤ (pc : Int) + d ∧ offs.toList.all (fun o => decide (0 ≤ (pc : Int) + o)) = true then
        some (c_sw A S x pc lo offs.toList ++ (c_opt (c_tgt pc d) (c_pop S (c_asm A 2 (c_addc x (-lo)))) ++ c_opt (c_tgt pc d) (c_pop S (c_asm A 4 (c_addc x (-hi)))))) else none
    | _ => none)
  | .getfield i => c_len len 3 (match P.1 own i, c_stk A with
    | some (0, ci, k, _), o :: S => (match c_ref A o with
      | some x => if Nat.beq (K.2.1 x.2).1 0 && Nat.beq (K.2.1 x.2).2.2 ci && Nat.blt k (K.2.1 x.2).2.1 then c_seq (c_load K A x.1 (c_con (k : Int)) S) (pc + 3) else none
      | none => none)
    | _, _ => none)
  | .putfield i => c_len len 3 (match P.1 own i, c_stk A with
    | some (0, ci, k, _), a :: o :: S => (match c_ref A o with
      | some x => if Nat.beq (K.2.1 x.2).1 0 && Nat.beq (K.2.1 x.2).2.2 ci && Nat.blt k (K.2.1 x.2).2.1 && c_fieldK A a (P.2.2.2 ci k) (c_isIni an ci) then c_seq (c_pop S (c_store K (ct_eff O) A x.1 (c_con (k : Int)) a)) (pc + 3) else none
      | none => none)
    | _, _ => none)
  | .iaload => c_len len 1 (c_ald K A (pc + 1) (fun k => Nat.beq k 1))
  | .laload => c_len len 1 (c_ald K A (pc + 1) (fun k => Nat.beq k 2))
  | .baload => c_len len 1 (c_ald K A (pc + 1) (fun k => Nat.beq k 3 || Nat.beq k 5))
  | .saload => c_len len 1 (c_ald K A (pc + 1) (fun k => Nat.beq k 4))
  | .aaload => c_len len 1 (c_ald K A (pc + 1) (fun k => Nat.beq k 6 || Nat.beq k 7))
  | .iastore => c_len len 1 (c_ast K O A (pc + 1) (fun k a => Nat.beq k 1 && Nat.beq a.1 0))
  | .lastore => c_len len 1 (c_ast K O A (pc + 1) (fun k a => Nat.beq k 2 && Nat.beq a.1 1))
  | .bastore => c_len len 1 (c_ast K O A (pc + 1) (fun k a => Nat.beq a.1 0 && ((Nat.beq k 3 && c_in2 A (-128) 127 a.2) || (Nat.beq k 5 && c_in2 A 0 1 a.2))))
  | .sastore => c_len len 1 (c_ast K O A (pc + 1) (fun k a => Nat.beq k 4 && Nat.beq a.1 0 && c_in2 A (-32768) 32767 a.2))
  | .aastore => c_len len 1 (c_ast K O A (pc + 1) (fun k a => Nat.beq k 6 && (match c_ref A a with
    | some x => Nat.beq (K.2.1 x.2).1 0 && Nat.beq (K.2.1 x.2).2.2 0
    | none => false)))
  | .arraylength => c_len len 1 (match c_stk A with
    | o :: S => (match c_ref A o with
      | some x => if Nat.ble 1 (K.2.1 x.2).1 && Nat.ble (K.2.1 x.2).2.1 100000 && Nat.ble (K.2.1 x.2).1 7 then some [(pc + 1, c_setS A ((0, c_con ((K.2.1 x.2).2.1 : Int)) :: S))] else none
      | none => none)
    | _ => none)
  | .newarray ty => c_len len 2 (match ty with
    | .int => c_newA K O A (pc + 2) 1 (c_annOf pc 0 an)
    | .long => c_newA K O A (pc + 2) 2 (c_annOf pc 0 an)
    | .byte => c_newA K O A (pc + 2) 3 (c_annOf pc 0 an)
    | .short => c_newA K O A (pc + 2) 4 (c_annOf pc 0 an)
    | .boolean => c_newA K O A (pc + 2) 5 (c_annOf pc 0 an)
    | _ => none)
  | .anewarray i => c_len len 3 (match P.1 own i with
    | some (3, 0, _, _) => c_newA K O A (pc + 3) 6 (c_annOf pc 0 an)
    | _ => none)
  | .new i => c_len len 3 (match P.1 own i with
    | some (3, ci, N, _) => if Nat.ble (c_cu A + 1) (ct_mc O) && Nat.ble (c_su A + N) (ct_ms O) && decide (K.2.1 (101 + ci) = (0, N, ci)) && K.2.2.1.all (fun i => !(Nat.beq i.1 (101 + ci))) && K.2.2.2.2.1.all (fun i => !(Nat.beq i.1 (101 + ci))) && c_fldOk K A ci P.2.2.2 N then
        some [(pc + 3, c_setM (c_newR A (101 + ci) (c_stk A) 1 N) (c_fieldsM A.1 ci P.2.2.2 N (c_me A)))] else none
    | _ => none)
  | .invokevirtual i => c_len len 3 (c_inv K P O own A (pc + 3) i 0)
  | .invokestatic i => c_len len 3 (c_inv K P O own A (pc + 3) i 1)
  | .invokespecial i => c_len len 3 (c_inv K P O own A (pc + 3) i 2)
  | .ireturn => c_len len 1 (match c_stk A with
    | (0, x) :: [] => if (Nat.beq (ct_ret O) 1 || (Nat.beq (ct_ret O) 3 && c_in2 A 0 1 x)) && c_retOk K O A [x] then some [] else none
    | _ => none)
  | .lreturn => c_len len 1 (match c_stk A with
    | (1, x) :: [] => if Nat.beq (ct_ret O) 2 && c_retOk K O A [x] then some [] else none
    | _ => none)
  | .return_ => c_len len 1 (if Nat.beq (ct_ret O) 0 && (c_stk A).isEmpty && c_retOk K O A [] then some [] else none)
  | _ => none
