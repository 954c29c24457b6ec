/-! the tables, by regions of the ghost -/
def t_nth (l : List Int) (k : Nat) : Int := match l[k]? with
  | some x => x
  | none => 0
def t_b (b : Bool) : Int := if b then 1 else 0
def t_ix (X : t_X0) (m : Nat) : Int := match t_st X m with
  | some s => (s.1 : Int)
  | none => -1
def t_cn (f : t_St → List Int) (X : t_X0) (m : Nat) : Int := match t_st X m with
  | some s => ((f s).length : Int)
  | none => 0
/-- the first token at the text's end -/
def t_fe (X : t_X0) : Nat → Nat → Nat
  | 0, i => i
  | k + 1, i => if t_pl X i < X.2 then t_fe X k (i + 1) else i
def t_sz (X : t_X0) : Int := (t_fe X 700 0 : Int) + 1
def t_pt (X : t_X0) (m : Nat) : Int := match t_st X m with
  | some s => (match t_stp X s with
    | some s' => (s'.1 : Int)
    | none => -1)
  | none => -1
def t_tk (X : t_X0) (m c : Nat) : Int := match t_st X m with
  | some s => if t_nwp X s (if c = 0 then s.2.1 else if c = 1 then s.2.2.1 else s.2.2.2.1) (if c = 2 then 4 else 6) then (s.1 : Int) + 2 else -1
  | none => -1
def t_kw (X : t_X0) (m : Nat) (v : Int) : Int := match t_st X m with
  | some s => t_b (t_kno s v)
  | none => 0
def t_nb (X : t_X0) (i : Nat) : Int := if t_k X i = 2 ∧ t_v X i ≤ 11 then (i : Int) + 1 else -1
/-- names of the last land: found at place k or later, below cnt -/
def t_fd (l : List Int) (k cnt : Nat) (v : Int) : Int := t_at0 ((l.take cnt).drop k) v k
