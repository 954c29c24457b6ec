/-! the reader's words and the rows of rows: what is done by hand in the class's own constructors -/
/-- addKeys, seen as a call: this, a number 0..26; the keys' row is written; a number 0..26 comes back -/
def k_cAK : cCtr := (42, [(2, 5, 0, 0), (0, 0, 0, 26)], [], [(8, [])], [], (8, []), [(36, 0, 25)], [], 0, 0, 0, 1, [([(0, [(3, 1)]), (26, [(3, (-1))])], [], [])])
def k_xs (O : cCtr) (nx : Nat) (e : cAV) (A : cSt) : Option (List (Nat × cSt)) := match c_stk A with
  | t :: S => c_call1 k_K O (c_setS A (e :: t :: S)) nx [t, e] S k_cAK
  | _ => none
def k_xsL (O : cCtr) (nx : Nat) (A : cSt) : Option (List (Nat × cSt)) := match c_locGet 1 (c_loc A) with
  | some e => if Nat.beq e.1 0 then k_xs O nx e A else none
  | none => none
def k_XS (O : cCtr) : cXs := (fun k A => match k with
  | 6930 => k_xs O 75 (0, (0, [])) A
  | 7730 => k_xsL O 83 A
  | 8530 => k_xsL O 91 A
  | _ => none, fun _ _ => none)
/-- the rows stand behind their table, one after another -/
def k_rows4 (n : Nat) (l : List (Nat × cLin × cAV)) : List (Nat × cLin × cAV) := (n, (0, []), (2, (1, [(n, 1)]))) :: (n, (1, []), (2, (2, [(n, 1)]))) :: (n, (2, []), (2, (3, [(n, 1)]))) :: (n, (3, []), (2, (4, [(n, 1)]))) :: l
def k_x31 (O : cCtr) (A : cSt) : Option (List (Nat × cSt)) := match c_stk A with
  | (0, (60, [])) :: (0, (4, [])) :: S => if Nat.ble (c_cu A + 5) (ct_mc O) && Nat.ble (c_su A + 244) (ct_ms O) then some [(34, c_setM (c_newR A 18 S 5 244) (k_rows4 A.1 (c_me A)))] else none
  | _ => none
def k_XR (O : cCtr) : cXs := (fun k A => match k with
  | 3031 => k_x31 O A
  | _ => none, fun _ _ => none)
