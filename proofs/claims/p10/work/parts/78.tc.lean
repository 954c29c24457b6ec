/-! a text of bytes as tokens, and the land that it tells -/
abbrev t_X0 : Type := (Nat → Int) × Nat
def t_let (x : Int) : Bool := decide (97 ≤ x) && decide (x ≤ 122)
def t_dig (x : Int) : Bool := decide (48 ≤ x) && decide (x ≤ 57)
def t_sgn (x : Int) : Bool := (decide (40 ≤ x) && decide (x ≤ 43)) || decide (x = 45) || decide (x = 47) || decide (x = 59)
def t_blk (x : Int) : Bool := decide (x = 10) || decide (x = 32)
def t_run (f : Int → Bool) (X : t_X0) : Nat → Nat → Nat
  | 0, p => p
  | k + 1, p => if f (X.1 p) then t_run f X k (p + 1) else p
/-- the first place from p on (up to the text's end) that isn't so -/
def t_end (f : Int → Bool) (X : t_X0) (p : Nat) : Nat := t_run f X (X.2 - p) p
theorem t_end_s {f : Int → Bool} {X : t_X0} {p : Nat} (h : p < X.2) (hf : f (X.1 p) = true) : t_end f X p = t_end f X (p + 1) := by
  unfold t_end
  rw [show X.2 - p = (X.2 - (p + 1)) + 1 by omega]
  show (if f (X.1 p) then _ else _) = _
  rw [if_pos hf]
theorem t_end_e {f : Int → Bool} {X : t_X0} {p : Nat} (h : p < X.2 → f (X.1 p) = false) : t_end f X p = p := by
  unfold t_end
  cases hk : X.2 - p with
  | zero => rfl
  | succ k =>
    show (if f (X.1 p) then _ else _) = _
    rw [h (by omega)]
    rfl
theorem t_run_ge {f : Int → Bool} {X : t_X0} : ∀ (k p : Nat), p ≤ t_run f X k p ∧ t_run f X k p ≤ p + k
  | 0, p => ⟨Nat.le_refl _, Nat.le_refl _⟩
  | k + 1, p => by
    unfold t_run
    split
    · have := t_run_ge (f := f) (X := X) k (p + 1)
      omega
    · omega
theorem t_end_ge {f : Int → Bool} {X : t_X0} (p : Nat) : p ≤ t_end f X p := (t_run_ge _ _).1
theorem t_end_le {f : Int → Bool} {X : t_X0} {p : Nat} (h : p ≤ X.2) : t_end f X p ≤ X.2 := by
  have := (t_run_ge (f := f) (X := X) (X.2 - p) p).2
  unfold t_end
  omega
/-- the first k letters from a on, packed; the first k figures -/
def t_pk (X : t_X0) (a : Nat) : Nat → Int
  | 0 => 0
  | k + 1 => 32 * t_pk X a k + max 1 (min 26 (X.1 (a + k) - 96))
def t_nm (X : t_X0) (a : Nat) : Nat → Int
  | 0 => 0
  | k + 1 => 10 * t_nm X a k + max 0 (min 9 (X.1 (a + k) - 48))
/-- the token that begins at p: kind (0 end, 1 word, 2 number, 3 sign, 4 none), where it ends, what it is -/
def t_kd (X : t_X0) (p : Nat) : Int := if X.2 ≤ p then 0 else if t_let (X.1 p) then 1 else if t_dig (X.1 p) then (if 4 < t_end t_dig X p - p then 4 else 2) else if t_sgn (X.1 p) then 3 else 4
def t_en (X : t_X0) (p : Nat) : Nat := if X.2 ≤ p then X.2 else if t_let (X.1 p) then t_end t_let X p else if t_dig (X.1 p) then t_end t_dig X p else if t_sgn (X.1 p) then p + 1 else X.2
def t_vl (X : t_X0) (p : Nat) : Int := if X.2 ≤ p then 0 else if t_let (X.1 p) then (if 8 < t_end t_let X p - p then 0 else t_pk X p (t_end t_let X p - p)) else if t_dig (X.1 p) then t_nm X p (min 4 (t_end t_dig X p - p)) else if t_sgn (X.1 p) then X.1 p else 0
/-- where the i-th token begins; where the search for it begins -/
def t_ep (X : t_X0) : Nat → Nat
  | 0 => 0
  | i + 1 => t_en X (t_end t_blk X (t_ep X i))
def t_pl (X : t_X0) (i : Nat) : Nat := t_end t_blk X (t_ep X i)
def t_k (X : t_X0) (i : Nat) : Int := t_kd X (t_pl X i)
def t_v (X : t_X0) (i : Nat) : Int := t_vl X (t_pl X i)
/-- the words -/
def t_keys : List Int := [671470, 370116, 80948, 12343, 824370, 659100852, 8500, 149559, 72983685, 3764, 21091227283, 72564293, 1265842, 24157363, 19053203, 21081, 164968, 5572, 12748404, 498, 1476, 14836, 202124, 605797, 267652, 486]
def t_kf : List Int → Int → Int → Int
  | [], _, _ => -1
  | x :: l, v, k => if x = v then k else t_kf l v (k + 1)
def t_key (v : Int) : Int := t_kf t_keys v 0
def t_ky (X : t_X0) (i : Nat) : Int := if t_k X i = 1 then t_key (t_v X i) else -1
def t_sg (X : t_X0) (i : Nat) (x : Int) : Bool := decide (t_k X i = 3) && decide (t_v X i = x)
def t_nam (X : t_X0) (i : Nat) : Bool := decide (t_k X i = 1) && !(decide (t_v X i = 0)) && (decide (t_ky X i < 0) || decide (7 < t_ky X i))
def t_var (X : t_X0) (i : Nat) : Bool := decide (0 ≤ t_ky X i) && decide (t_ky X i ≤ 7) && !(decide (t_ky X i = 2)) && !(decide (t_ky X i = 3))
def t_need (X : t_X0) (i : Nat) (x : Int) : Int := if t_sg X i x then (i : Int) + 1 else -1
/-- 0 an atom, 1 what follows in an item, 2 an item, 3 what follows in a sum, 4 a sum: the token behind it, or -1 -/
def t_px (X : t_X0) (sel i d : Nat) : Int :=
  if hi : i < 700 then
    if h0 : sel = 0 then (if t_k X i = 2 || t_var X i then (i : Int) + 1 else if t_sg X i 40 then (if 6 ≤ d then -1 else (if (i : Int) < t_px X 4 (i + 1) (d + 1) then t_need X (t_px X 4 (i + 1) (d + 1)).toNat 41 else -1)) else -1)
    else if h1 : sel = 1 then (if t_sg X i 42 || t_sg X i 47 then (if h : (i : Int) < t_px X 0 (i + 1) d then t_px X 1 (t_px X 0 (i + 1) d).toNat d else -1) else (i : Int))
    else if h2 : sel = 2 then (if h : (i : Int) < t_px X 0 i d then t_px X 1 (t_px X 0 i d).toNat d else -1)
    else if h3 : sel = 3 then (if t_sg X i 43 || t_sg X i 45 then (if h : (i : Int) < t_px X 2 (i + 1) d then t_px X 3 (t_px X 2 (i + 1) d).toNat d else -1) else (i : Int))
    else (if h : (i : Int) < t_px X 2 i d then t_px X 3 (t_px X 2 i d).toNat d else -1)
  else -1
termination_by (700 - i) * 6 + sel
decreasing_by all_goals omega
theorem t_px0 {X : t_X0} {i d : Nat} (hi : i < 700) : t_px X 0 i d = if t_k X i = 2 || t_var X i then (i : Int) + 1 else if t_sg X i 40 then (if 6 ≤ d then -1 else (if (i : Int) < t_px X 4 (i + 1) (d + 1) then t_need X (t_px X 4 (i + 1) (d + 1)).toNat 41 else -1)) else -1 := by
  rw [t_px, dif_pos hi, dif_pos rfl]
theorem t_px1 {X : t_X0} {i d : Nat} (hi : i < 700) : t_px X 1 i d = if t_sg X i 42 || t_sg X i 47 then (if (i : Int) < t_px X 0 (i + 1) d then t_px X 1 (t_px X 0 (i + 1) d).toNat d else -1) else (i : Int) := by
  rw [t_px, dif_pos hi, dif_neg (by decide), dif_pos rfl]
  rfl
theorem t_px2 {X : t_X0} {i d : Nat} (hi : i < 700) : t_px X 2 i d = if (i : Int) < t_px X 0 i d then t_px X 1 (t_px X 0 i d).toNat d else -1 := by
  rw [t_px, dif_pos hi, dif_neg (by decide), dif_neg (by decide), dif_pos rfl]
  rfl
theorem t_px3 {X : t_X0} {i d : Nat} (hi : i < 700) : t_px X 3 i d = if t_sg X i 43 || t_sg X i 45 then (if (i : Int) < t_px X 2 (i + 1) d then t_px X 3 (t_px X 2 (i + 1) d).toNat d else -1) else (i : Int) := by
  rw [t_px, dif_pos hi, dif_neg (by decide), dif_neg (by decide), dif_neg (by decide), dif_pos rfl]
  rfl
theorem t_px4 {X : t_X0} {i d : Nat} (hi : i < 700) : t_px X 4 i d = if (i : Int) < t_px X 2 i d then t_px X 3 (t_px X 2 i d).toNat d else -1 := by
  rw [t_px, dif_pos hi, dif_neg (by decide), dif_neg (by decide), dif_neg (by decide), dif_neg (by decide)]
  rfl
/-- names told: towns, kinds, laws, boats -/
abbrev t_St : Type := Nat × List Int × List Int × List Int × List Int
def t_at0 : List Int → Int → Int → Int
  | [], _, _ => -1
  | x :: l, v, k => if x = v then k else t_at0 l v (k + 1)
def t_kno (s : t_St) (v : Int) : Bool := decide (0 ≤ t_at0 s.2.1 v 0) || decide (0 ≤ t_at0 s.2.2.1 v 0) || decide (0 ≤ t_at0 s.2.2.2.1 v 0)
/-- a new name at i + 1 is taken: it goes on at i + 2 -/
def t_nwp (X : t_X0) (s : t_St) (l : List Int) (m : Nat) : Bool := decide (l.length < m) && t_nam X (s.1 + 1) && !(t_kno s (t_v X (s.1 + 1)))
def t_stp (X : t_X0) (s : t_St) : Option t_St :=
  if t_ky X s.1 = 0 then (if t_nwp X s s.2.1 6 && t_sg X (s.1 + 2) 59 then some (s.1 + 3, s.2.1 ++ [t_v X (s.1 + 1)], s.2.2) else none)
  else if t_ky X s.1 = 1 then (if t_nwp X s s.2.2.1 6 && t_sg X (s.1 + 2) 59 then some (s.1 + 3, s.2.1, s.2.2.1 ++ [t_v X (s.1 + 1)], s.2.2.2) else none)
  else if t_ky X s.1 = 2 then (if decide (s.2.2.2.2.length < 3) && t_nam X (s.1 + 1) && decide (0 ≤ t_at0 s.2.1 (t_v X (s.1 + 1)) 0) && decide (t_at0 s.2.2.2.2 (t_at0 s.2.1 (t_v X (s.1 + 1)) 0) 0 < 0) && decide (t_k X (s.1 + 2) = 2) && decide (t_v X (s.1 + 2) ≤ 11) && t_sg X (s.1 + 3) 59 then some (s.1 + 4, s.2.1, s.2.2.1, s.2.2.2.1, s.2.2.2.2 ++ [t_at0 s.2.1 (t_v X (s.1 + 1)) 0]) else none)
  else if t_ky X s.1 = 3 then (if t_nwp X s s.2.2.2.1 4 && decide ((s.1 : Int) < t_px X 4 (s.1 + 2) 0) && t_sg X (t_px X 4 (s.1 + 2) 0).toNat 59 then some ((t_px X 4 (s.1 + 2) 0).toNat + 1, s.2.1, s.2.2.1, s.2.2.2.1 ++ [t_v X (s.1 + 1)], s.2.2.2.2) else none)
  else none
/-- after m parts -/
def t_st (X : t_X0) : Nat → Option t_St
  | 0 => some (0, [], [], [], [])
  | m + 1 => match t_st X m with
    | some s => if t_k X s.1 = 0 then some s else t_stp X s
    | none => none
def t_la (X : t_X0) : Nat → t_St
  | 0 => (0, [], [], [], [])
  | m + 1 => match t_st X (m + 1) with
    | some s => s
    | none => t_la X m
def t_ans (X : t_X0) : Int := match t_st X 700 with
  | some s => if t_k X s.1 = 0 then (s.2.1.length : Int) else -1
  | none => -1
