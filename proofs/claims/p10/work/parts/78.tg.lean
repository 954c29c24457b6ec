/-! the tables, by regions of the ghost -/
def t_vn (X : t_X0) (i : Nat) : Int := if t_k X i = 2 ∨ t_k X i = 3 then t_v X i else 0
def t_dn (X : t_X0) (i : Nat) : Int := if t_k X i = 2 ∨ t_k X i = 3 then 0 else 8589934592
def t_vw (X : t_X0) (i : Nat) : Int := if t_k X i = 1 then (if t_v X i = 0 then -1 else t_v X i) else 0
def t_dw (X : t_X0) (i : Nat) : Int := if t_k X i = 1 then 0 else 1
def t_ll (X : t_X0) (i : Nat) : Int := if t_k X i = 1 then (t_ep X (i + 1) : Int) - t_pl X i else 0
def t_d4 (X : t_X0) (i : Nat) : Int := if t_k X i = 4 then 1000 else 0
/-- what follows a sum: the sign x, then the token behind it, or -1 -/
def t_af (X : t_X0) (x : Int) (i d : Nat) : Int := if t_px X 4 i d < 0 then -1 else t_need X (t_px X 4 i d).toNat x
def t_isk (X : t_X0) (i j : Nat) : Int := if t_ky X i = j then 1 else 0
def t_shrV (a v : Nat) : Int := (Int32.ofInt ((v : Int) - 2147483648) >>> (Int32.ofInt a &&& 31)).toInt
def t_bytV (v : Nat) : Int := (Int32.ofInt ((v : Int) - 2147483648)).toInt8.toInt32.toInt
def t_reg (X : t_X0) (r a b c v : Nat) : Int := match r with
  | 2 => ((t_end t_blk X a : Nat) : Int)
  | 3 => ((t_end t_let X a : Nat) : Int)
  | 4 => ((t_end t_dig X a : Nat) : Int)
  | 5 => t_pk X a b
  | 6 => t_nm X a b
  | 7 => (t_pl X a : Int)
  | 8 => t_k X a
  | 9 => (t_ep X a : Int)
  | 10 => t_v X a
  | 11 => t_ky X a
  | 12 => t_kf (t_keys.drop a) v a
  | 13 => t_px X c a b
  | 14 => t_nth t_keys a
  | 15 => t_sz X
  | 16 => t_b (t_nam X a)
  | 17 => t_need X a b
  | 18 => t_nb X a
  | 19 => t_isk X a b
  | 20 => t_ix X a
  | 21 => t_cn (fun s => s.2.1) X a
  | 22 => t_cn (fun s => s.2.2.1) X a
  | 23 => t_cn (fun s => s.2.2.2.1) X a
  | 24 => t_cn (fun s => s.2.2.2.2) X a
  | 25 => t_nth (t_la X 700).2.1 a
  | 26 => t_nth (t_la X 700).2.2.1 a
  | 27 => t_nth (t_la X 700).2.2.2.1 a
  | 28 => t_nth (t_la X 700).2.2.2.2 a
  | 29 => t_fd (t_la X 700).2.1 a b v
  | 30 => t_fd (t_la X 700).2.2.1 a b v
  | 31 => t_fd (t_la X 700).2.2.2.1 a b v
  | 32 => t_fd (t_la X 700).2.2.2.2 a b v
  | 33 => t_ans X
  | 34 => t_tk X a c
  | 35 => t_kw X a v
  | 36 => t_pt X a
  | 37 => t_b (t_var X a)
  | 38 => t_af X 41 a b
  | 39 => t_af X 59 a b
  | 40 => t_shrV a v
  | 41 => t_bytV v
  | 43 => t_vn X a
  | 44 => t_dn X a
  | 45 => t_vw X a
  | 46 => t_dw X a
  | 47 => t_ll X a
  | 48 => t_d4 X a
  | _ => 0
def t_tx (g : Nat → Int) : t_X0 := (fun p => if p < 1023 then g (1208925819614629174706176 + p) else 0, (g 1208925819614629174707199).toNat)
theorem t_tx1 {g : Nat → Int} {p : Nat} (hp : p < 1023) : (t_tx g).1 p = g (1208925819614629174706176 + p) := if_pos hp
/-- a ghost whose tables are those of its text (of at most 600 bytes) -/
def t_G (g : Nat → Int) : Prop := (0 ≤ g 1208925819614629174707199 ∧ g 1208925819614629174707199 ≤ 600 ∧ ∀ p : Nat, p < 1023 → -128 ≤ g (1208925819614629174706176 + p) ∧ g (1208925819614629174706176 + p) ≤ 127) ∧ ∀ r a b c v : Nat, 2 ≤ r → r < 64 → a < 1024 → b < 1024 → c < 1024 → v < 1125899906842624 → g (1208925819614629174706176 * r + a + 1024 * b + 1048576 * c + 1073741824 * v) = t_reg (t_tx g) r a b c v
theorem t_G_far : t_far t_G := by
  intro g g' h ⟨h1, h2⟩
  have e : t_tx g' = t_tx g := by
    unfold t_tx
    rw [h 1208925819614629174707199 (by omega)]
    congr 1
    funext p
    by_cases hp : p < 1023
    · rw [if_pos hp, if_pos hp]
      exact h (1208925819614629174706176 + p) (by omega)
    · rw [if_neg hp, if_neg hp]
  refine ⟨⟨by rw [h 1208925819614629174707199 (by omega)]; exact h1.1, by rw [h 1208925819614629174707199 (by omega)]; exact h1.2.1, fun p hp => by rw [h (1208925819614629174706176 + p) (by omega)]; exact h1.2.2 p hp⟩, fun r a b c v k1 k2 k3 k4 k5 k6 => ?_⟩
  rw [e, h (1208925819614629174706176 * r + a + 1024 * b + 1048576 * c + 1073741824 * v) (by omega)]
  exact h2 r a b c v k1 k2 k3 k4 k5 k6
theorem t_G_ok {g : Nat → Int} (h : t_G g) : t_Xok (t_tx g) := by
  have h1 := h.1
  show (g 1208925819614629174707199).toNat ≤ 600
  omega
theorem t_G_by {g : Nat → Int} (h : t_G g) : ∀ p : Nat, p < (t_tx g).2 → (t_tx g).1 p ≤ 127 := fun p hp => by
  have h0 := t_G_ok h
  have h0 : (t_tx g).2 ≤ 600 := h0
  rw [t_tx1 (by omega)]
  exact (h.1.2.2 p (by omega)).2
theorem t_G_ge {g : Nat → Int} (h : t_G g) : ∀ p : Nat, p < 1023 → -128 ≤ (t_tx g).1 p ∧ (t_tx g).1 p ≤ 127 := fun p hp => by
  rw [t_tx1 hp]
  exact h.1.2.2 p hp
def t_cl (z : Int) : Int := max (-1099511627776) (min 1099511627776 z)
theorem t_cl_id {z : Int} (h : -1099511627776 ≤ z ∧ z ≤ 1099511627776) : t_cl z = z := by
  unfold t_cl
  omega
theorem t_cl_eq {z w : Int} (h : -1099511627776 < w ∧ w < 1099511627776) : t_cl z = w ↔ z = w := by
  unfold t_cl
  omega
/-- a table's number that is read -/
theorem t_rdR {g : Nat → Int} (h : t_G g) (r a b c w : Nat) {z val : Int} (hr : 2 ≤ r ∧ r < 64) (ha : a < 1024) (hb : b < 1024) (hc : c < 1024) (hw : w < 1125899906842624) (hz : ∃ j : Nat, z = (j : Int) ∧ c_gv j (g j) = val) (e : z = 1208925819614629174706176 * (r : Int) + a + 1024 * b + 1048576 * c + 1073741824 * w) : val = t_cl (t_reg (t_tx g) r a b c w) := by
  obtain ⟨j, j1, j2⟩ := hz
  have ej : j = 1208925819614629174706176 * r + a + 1024 * b + 1048576 * c + 1073741824 * w := by omega
  rw [ej, h.2 r _ _ _ _ hr.1 hr.2 ha hb hc hw] at j2
  rw [← j2, c_gv_c (by omega) (c_adr_off (by omega))]
  rfl
/-- a byte of the text; its length -/
theorem t_rdT {g : Nat → Int} (h : t_G g) (a : Nat) {z val : Int} (ha : a < 1023) (hz : ∃ j : Nat, z = (j : Int) ∧ c_gv j (g j) = val) (e : z = 1208925819614629174706176 + a) : val = (t_tx g).1 a := by
  obtain ⟨j, j1, j2⟩ := hz
  have ej : j = 1208925819614629174706176 + a := by omega
  have h3 := h.1.2.2 a ha
  rw [ej] at j2
  rw [c_gv_id (by omega) (by omega) (by omega)] at j2
  rw [← j2, t_tx1 ha]
theorem t_rdN {g : Nat → Int} (h : t_G g) {z val : Int} (hz : ∃ j : Nat, z = (j : Int) ∧ c_gv j (g j) = val) (e : z = 1208925819614629174707199) : val = ((t_tx g).2 : Int) := by
  obtain ⟨j, j1, j2⟩ := hz
  have ej : j = 1208925819614629174707199 := by omega
  have h3 := h.1
  rw [ej] at j2
  rw [c_gv_id (by omega) (by omega) (by omega)] at j2
  rw [← j2]
  show _ = (((g 1208925819614629174707199).toNat : Nat) : Int)
  omega
theorem t_G_fn : t_fnS t_G := by
  intro g h
  refine ⟨fun x y h1 h2 => ?_, fun x => ?_⟩
  · have hx := c_i32 x
    have := h.2 40 y.toInt.toNat 0 0 (x.toInt + 2147483648).toNat (by omega) (by omega) (by omega) (by omega) (by omega) (by omega)
    rw [show t_RS + (x.toInt + 2147483648).toNat * 1073741824 + y.toInt.toNat = 1208925819614629174706176 * 40 + y.toInt.toNat + 1024 * 0 + 1048576 * 0 + 1073741824 * (x.toInt + 2147483648).toNat by unfold t_RS; omega, this]
    show t_shrV _ _ = _
    unfold t_shrV
    rw [show (((x.toInt + 2147483648).toNat : Nat) : Int) - 2147483648 = x.toInt by omega, show ((y.toInt.toNat : Nat) : Int) = y.toInt by omega, Int32.ofInt_toInt, Int32.ofInt_toInt]
  · have hx := c_i32 x
    have := h.2 41 0 0 0 (x.toInt + 2147483648).toNat (by omega) (by omega) (by omega) (by omega) (by omega) (by omega)
    rw [show t_RB + (x.toInt + 2147483648).toNat * 1073741824 = 1208925819614629174706176 * 41 + 0 + 1024 * 0 + 1048576 * 0 + 1073741824 * (x.toInt + 2147483648).toNat by unfold t_RB; omega, this]
    show t_bytV _ = _
    unfold t_bytV
    rw [show (((x.toInt + 2147483648).toNat : Nat) : Int) - 2147483648 = x.toInt by omega, Int32.ofInt_toInt]
/-- small numbers -/
theorem t_b_bd (b : Bool) : 0 ≤ t_b b ∧ t_b b ≤ 1 := by
  unfold t_b
  split <;> omega
theorem t_need_bd {X : t_X0} (i : Nat) (x : Int) : -1 ≤ t_need X i x ∧ t_need X i x ≤ i + 1 := by
  unfold t_need
  split <;> omega
theorem t_px_sm {X : t_X0} (hX : t_Xok X) {i : Nat} (sel d : Nat) : -1 ≤ t_px X sel i d ∧ t_px X sel i d ≤ max 600 i := by
  by_cases hi : i ≤ 600
  · rcases t_px_ge hX sel d hi with h | ⟨h1, h2⟩
    · omega
    · have : (0 : Int) ≤ (if sel = 1 ∨ sel = 3 then 0 else 1) := by split <;> omega
      omega
  · rcases t_px_gt hX sel d (i := i) (by omega) with h | ⟨h, -⟩ <;> omega
theorem t_nth_keys (k : Nat) : 0 ≤ t_nth t_keys k ∧ t_nth t_keys k ≤ 21091227283 := by
  by_cases h : k < 26
  · have : ∀ j : Fin 26, 0 ≤ t_nth t_keys j.val ∧ t_nth t_keys j.val ≤ 21091227283 := by decide
    exact this ⟨k, h⟩
  · have e : t_nth t_keys k = 0 := by
      unfold t_nth
      rw [List.getElem?_eq_none (by show 26 ≤ k; omega)]
    omega
theorem t_kf_bd (l : List Int) (v k : Int) : t_kf l v k = -1 ∨ (k ≤ t_kf l v k ∧ t_kf l v k < k + l.length) := by
  rcases t_kf_is l v k with h | ⟨j, h1, h2, -⟩
  · exact Or.inl h
  · exact Or.inr (by omega)
theorem t_fd_sm (l : List Int) (k c : Nat) (v : Int) : -1 ≤ t_fd l k c v ∧ t_fd l k c v ≤ k + c := by
  unfold t_fd
  have h9 : ((l.take c).drop k).length ≤ c := by
    rw [List.length_drop]
    have := List.length_take_le c l
    omega
  rcases t_at_bd ((l.take c).drop k) v k with h | h <;> omega
theorem t_ix_bd {X : t_X0} (hX : t_Xok X) (m : Nat) : -1 ≤ t_ix X m ∧ t_ix X m ≤ 601 := by
  unfold t_ix
  split
  · rename_i s hs
    have := (t_st_bd hX m s hs).1
    omega
  · omega
theorem t_ix_s {X : t_X0} {m : Nat} {i : Nat} (h : t_ix X m = (i : Int)) : ∃ s, t_st X m = some s ∧ s.1 = i := by
  unfold t_ix at h
  split at h
  · rename_i s hs
    exact ⟨s, hs, by omega⟩
  · omega
theorem t_cn_s {f : t_St → List Int} {X : t_X0} {m : Nat} {s : t_St} (h : t_st X m = some s) : t_cn f X m = ((f s).length : Int) := by
  unfold t_cn
  rw [h]
theorem t_cn_n {f : t_St → List Int} {X : t_X0} {m : Nat} (h : t_st X m = none) : t_cn f X m = 0 := by
  unfold t_cn
  rw [h]
theorem t_cn_bd {X : t_X0} (hX : t_Xok X) (m : Nat) : (0 ≤ t_cn (fun s => s.2.1) X m ∧ t_cn (fun s => s.2.1) X m ≤ 6) ∧ (0 ≤ t_cn (fun s => s.2.2.1) X m ∧ t_cn (fun s => s.2.2.1) X m ≤ 6) ∧ (0 ≤ t_cn (fun s => s.2.2.2.1) X m ∧ t_cn (fun s => s.2.2.2.1) X m ≤ 4) ∧ 0 ≤ t_cn (fun s => s.2.2.2.2) X m ∧ t_cn (fun s => s.2.2.2.2) X m ≤ 3 := by
  cases hs : t_st X m with
  | none => rw [t_cn_n hs, t_cn_n hs, t_cn_n hs, t_cn_n hs]; omega
  | some s =>
    have := t_st_bd hX m s hs
    rw [t_cn_s hs, t_cn_s hs, t_cn_s hs, t_cn_s hs]
    omega
theorem t_pt_s {X : t_X0} {m : Nat} {s : t_St} (h : t_st X m = some s) : t_pt X m = (match t_stp X s with
    | some s' => (s'.1 : Int)
    | none => -1) := by
  unfold t_pt
  rw [h]
  rfl
theorem t_pt_bd {X : t_X0} (hX : t_Xok X) (m : Nat) : -1 ≤ t_pt X m ∧ t_pt X m ≤ 601 := by
  unfold t_pt
  split
  · split
    · rename_i s' h
      have := (t_stp_pre hX h).2.1
      omega
    · omega
  · omega
theorem t_tk_bd {X : t_X0} (hX : t_Xok X) (m c : Nat) : -1 ≤ t_tk X m c ∧ t_tk X m c ≤ 603 := by
  unfold t_tk
  split
  · rename_i s hs
    have := (t_st_bd hX m s hs).1
    split <;> omega
  · omega
theorem t_kw_bd {X : t_X0} (m : Nat) (v : Int) : 0 ≤ t_kw X m v ∧ t_kw X m v ≤ 1 := by
  unfold t_kw
  split
  · exact t_b_bd _
  · omega
theorem t_ans_bd {X : t_X0} (hX : t_Xok X) : -1 ≤ t_ans X ∧ t_ans X ≤ 6 := by
  unfold t_ans
  split
  · rename_i s hs
    have := (t_st_bd hX _ s hs).2.1
    split <;> omega
  · omega
theorem t_g2 {g : Nat → Int} (h : t_G g) {z val : Int} (a : Nat) (ha : a < 1024) (hz : ∃ j : Nat, z = (j : Int) ∧ c_gv j (g j) = val) (e : z = 2417851639229258349412352 + a) : val = ((t_end t_blk (t_tx g) a : Nat) : Int) := by
  have e1 := t_rdR h 2 a 0 0 0 (by omega) ha (by omega) (by omega) (by omega) hz (by omega)
  have e1 : val = t_cl (((t_end t_blk (t_tx g) a : Nat) : Int)) := e1
  rw [t_cl_id (by have := t_end_bd (f := t_blk) (X := t_tx g) a; have := t_G_ok h; have h7 : (t_tx g).2 ≤ 600 := this; omega)] at e1
  exact e1
theorem t_g3 {g : Nat → Int} (h : t_G g) {z val : Int} (a : Nat) (ha : a < 1024) (hz : ∃ j : Nat, z = (j : Int) ∧ c_gv j (g j) = val) (e : z = 3626777458843887524118528 + a) : val = ((t_end t_let (t_tx g) a : Nat) : Int) := by
  have e1 := t_rdR h 3 a 0 0 0 (by omega) ha (by omega) (by omega) (by omega) hz (by omega)
  have e1 : val = t_cl (((t_end t_let (t_tx g) a : Nat) : Int)) := e1
  rw [t_cl_id (by have := t_end_bd (f := t_let) (X := t_tx g) a; have := t_G_ok h; have h7 : (t_tx g).2 ≤ 600 := this; omega)] at e1
  exact e1
theorem t_g4 {g : Nat → Int} (h : t_G g) {z val : Int} (a : Nat) (ha : a < 1024) (hz : ∃ j : Nat, z = (j : Int) ∧ c_gv j (g j) = val) (e : z = 4835703278458516698824704 + a) : val = ((t_end t_dig (t_tx g) a : Nat) : Int) := by
  have e1 := t_rdR h 4 a 0 0 0 (by omega) ha (by omega) (by omega) (by omega) hz (by omega)
  have e1 : val = t_cl (((t_end t_dig (t_tx g) a : Nat) : Int)) := e1
  rw [t_cl_id (by have := t_end_bd (f := t_dig) (X := t_tx g) a; have := t_G_ok h; have h7 : (t_tx g).2 ≤ 600 := this; omega)] at e1
  exact e1
theorem t_g5 {g : Nat → Int} (h : t_G g) {z val : Int} (a b : Nat) (h8 : b ≤ 8) (ha : a < 1024) (hz : ∃ j : Nat, z = (j : Int) ∧ c_gv j (g j) = val) (e : z = 6044629098073145873530880 + a + 1024 * b) : val = t_pk (t_tx g) a b := by
  have e1 := t_rdR h 5 a b 0 0 (by omega) ha (by omega) (by omega) (by omega) hz (by omega)
  have e1 : val = t_cl (t_pk (t_tx g) a b) := e1
  rw [t_cl_id (by have := t_pk8 (X := t_tx g) a h8; omega)] at e1
  exact e1
theorem t_g6 {g : Nat → Int} (h : t_G g) {z val : Int} (a b : Nat) (h8 : b ≤ 4) (ha : a < 1024) (hz : ∃ j : Nat, z = (j : Int) ∧ c_gv j (g j) = val) (e : z = 7253554917687775048237056 + a + 1024 * b) : val = t_nm (t_tx g) a b := by
  have e1 := t_rdR h 6 a b 0 0 (by omega) ha (by omega) (by omega) (by omega) hz (by omega)
  have e1 : val = t_cl (t_nm (t_tx g) a b) := e1
  rw [t_cl_id (by have := t_nm4 (X := t_tx g) a h8; omega)] at e1
  exact e1
theorem t_g7 {g : Nat → Int} (h : t_G g) {z val : Int} (a : Nat) (ha : a < 1024) (hz : ∃ j : Nat, z = (j : Int) ∧ c_gv j (g j) = val) (e : z = 8462480737302404222943232 + a) : val = (t_pl (t_tx g) a : Int) := by
  have e1 := t_rdR h 7 a 0 0 0 (by omega) ha (by omega) (by omega) (by omega) hz (by omega)
  have e1 : val = t_cl ((t_pl (t_tx g) a : Int)) := e1
  rw [t_cl_id (by have := t_pl_le (X := t_tx g) a; have := t_G_ok h; have h7 : (t_tx g).2 ≤ 600 := this; omega)] at e1
  exact e1
theorem t_g8 {g : Nat → Int} (h : t_G g) {z val : Int} (a : Nat) (ha : a < 1024) (hz : ∃ j : Nat, z = (j : Int) ∧ c_gv j (g j) = val) (e : z = 9671406556917033397649408 + a) : val = t_k (t_tx g) a := by
  have e1 := t_rdR h 8 a 0 0 0 (by omega) ha (by omega) (by omega) (by omega) hz (by omega)
  have e1 : val = t_cl (t_k (t_tx g) a) := e1
  rw [t_cl_id (by have := t_k_bd (X := t_tx g) a; omega)] at e1
  exact e1
theorem t_g9 {g : Nat → Int} (h : t_G g) {z val : Int} (a : Nat) (ha : a < 1024) (hz : ∃ j : Nat, z = (j : Int) ∧ c_gv j (g j) = val) (e : z = 10880332376531662572355584 + a) : val = (t_ep (t_tx g) a : Int) := by
  have e1 := t_rdR h 9 a 0 0 0 (by omega) ha (by omega) (by omega) (by omega) hz (by omega)
  have e1 : val = t_cl ((t_ep (t_tx g) a : Int)) := e1
  rw [t_cl_id (by have := t_ep_le (X := t_tx g) a; have := t_G_ok h; have h7 : (t_tx g).2 ≤ 600 := this; omega)] at e1
  exact e1
theorem t_g10 {g : Nat → Int} (h : t_G g) {z val : Int} (a : Nat) (ha : a < 1024) (hz : ∃ j : Nat, z = (j : Int) ∧ c_gv j (g j) = val) (e : z = 12089258196146291747061760 + a) : val = t_v (t_tx g) a := by
  have e1 := t_rdR h 10 a 0 0 0 (by omega) ha (by omega) (by omega) (by omega) hz (by omega)
  have e1 : val = t_cl (t_v (t_tx g) a) := e1
  rw [t_cl_id (by have := t_v_bd (X := t_tx g) a (t_G_by h); omega)] at e1
  exact e1
theorem t_g11 {g : Nat → Int} (h : t_G g) {z val : Int} (a : Nat) (ha : a < 1024) (hz : ∃ j : Nat, z = (j : Int) ∧ c_gv j (g j) = val) (e : z = 13298184015760920921767936 + a) : val = t_ky (t_tx g) a := by
  have e1 := t_rdR h 11 a 0 0 0 (by omega) ha (by omega) (by omega) (by omega) hz (by omega)
  have e1 : val = t_cl (t_ky (t_tx g) a) := e1
  rw [t_cl_id (by have := t_ky_bd (X := t_tx g) a; omega)] at e1
  exact e1
theorem t_g12 {g : Nat → Int} (h : t_G g) {z val : Int} (a v : Nat) (ha : a < 1024) (hv : v < 1125899906842624) (hz : ∃ j : Nat, z = (j : Int) ∧ c_gv j (g j) = val) (e : z = 14507109835375550096474112 + a + 1073741824 * v) : val = t_kf (t_keys.drop a) v a := by
  have e1 := t_rdR h 12 a 0 0 v (by omega) ha (by omega) (by omega) hv hz (by omega)
  have e1 : val = t_cl (t_kf (t_keys.drop a) v a) := e1
  rw [t_cl_id (by have := t_kf_bd (t_keys.drop a) v a; have : (t_keys.drop a).length ≤ 26 := (by rw [List.length_drop]; show 26 - a ≤ 26; omega); omega)] at e1
  exact e1
theorem t_g13 {g : Nat → Int} (h : t_G g) {z val : Int} (a b c : Nat) (ha : a < 1024) (hb : b < 1024) (hc : c < 1024) (hz : ∃ j : Nat, z = (j : Int) ∧ c_gv j (g j) = val) (e : z = 15716035654990179271180288 + a + 1024 * b + 1048576 * c) : val = t_px (t_tx g) c a b := by
  have e1 := t_rdR h 13 a b c 0 (by omega) ha hb hc (by omega) hz (by omega)
  have e1 : val = t_cl (t_px (t_tx g) c a b) := e1
  rw [t_cl_id (by have := t_px_sm (X := t_tx g) (t_G_ok h) (i := a) c b; omega)] at e1
  exact e1
theorem t_g14 {g : Nat → Int} (h : t_G g) {z val : Int} (a : Nat) (ha : a < 1024) (hz : ∃ j : Nat, z = (j : Int) ∧ c_gv j (g j) = val) (e : z = 16924961474604808445886464 + a) : val = t_nth t_keys a := by
  have e1 := t_rdR h 14 a 0 0 0 (by omega) ha (by omega) (by omega) (by omega) hz (by omega)
  have e1 : val = t_cl (t_nth t_keys a) := e1
  rw [t_cl_id (by have := t_nth_keys a; omega)] at e1
  exact e1
theorem t_g15 {g : Nat → Int} (h : t_G g) {z val : Int}  (hz : ∃ j : Nat, z = (j : Int) ∧ c_gv j (g j) = val) (e : z = 18133887294219437620592640) : val = t_sz (t_tx g) := by
  have e1 := t_rdR h 15 0 0 0 0 (by omega) (by omega) (by omega) (by omega) (by omega) hz (by omega)
  have e1 : val = t_cl (t_sz (t_tx g)) := e1
  rw [t_cl_id (by have := t_sz_is (X := t_tx g) (t_G_ok h); obtain ⟨z9, h7, h6, -⟩ := this; omega)] at e1
  exact e1
theorem t_g16 {g : Nat → Int} (h : t_G g) {z val : Int} (a : Nat) (ha : a < 1024) (hz : ∃ j : Nat, z = (j : Int) ∧ c_gv j (g j) = val) (e : z = 19342813113834066795298816 + a) : val = t_b (t_nam (t_tx g) a) := by
  have e1 := t_rdR h 16 a 0 0 0 (by omega) ha (by omega) (by omega) (by omega) hz (by omega)
  have e1 : val = t_cl (t_b (t_nam (t_tx g) a)) := e1
  rw [t_cl_id (by have := t_b_bd (t_nam (t_tx g) a); omega)] at e1
  exact e1
theorem t_g17 {g : Nat → Int} (h : t_G g) {z val : Int} (a b : Nat) (ha : a < 1024) (hb : b < 1024) (hz : ∃ j : Nat, z = (j : Int) ∧ c_gv j (g j) = val) (e : z = 20551738933448695970004992 + a + 1024 * b) : val = t_need (t_tx g) a b := by
  have e1 := t_rdR h 17 a b 0 0 (by omega) ha hb (by omega) (by omega) hz (by omega)
  have e1 : val = t_cl (t_need (t_tx g) a b) := e1
  rw [t_cl_id (by have := t_need_bd (X := t_tx g) a (b : Int); omega)] at e1
  exact e1
theorem t_g18 {g : Nat → Int} (h : t_G g) {z val : Int} (a : Nat) (ha : a < 1024) (hz : ∃ j : Nat, z = (j : Int) ∧ c_gv j (g j) = val) (e : z = 21760664753063325144711168 + a) : val = t_nb (t_tx g) a := by
  have e1 := t_rdR h 18 a 0 0 0 (by omega) ha (by omega) (by omega) (by omega) hz (by omega)
  have e1 : val = t_cl (t_nb (t_tx g) a) := e1
  rw [t_cl_id (by show _ ∧ _; unfold t_nb; split <;> omega)] at e1
  exact e1
theorem t_g19 {g : Nat → Int} (h : t_G g) {z val : Int} (a b : Nat) (ha : a < 1024) (hb : b < 1024) (hz : ∃ j : Nat, z = (j : Int) ∧ c_gv j (g j) = val) (e : z = 22969590572677954319417344 + a + 1024 * b) : val = t_isk (t_tx g) a b := by
  have e1 := t_rdR h 19 a b 0 0 (by omega) ha hb (by omega) (by omega) hz (by omega)
  have e1 : val = t_cl (t_isk (t_tx g) a b) := e1
  rw [t_cl_id (by show _ ∧ _; unfold t_isk; split <;> omega)] at e1
  exact e1
theorem t_g20 {g : Nat → Int} (h : t_G g) {z val : Int} (a : Nat) (ha : a < 1024) (hz : ∃ j : Nat, z = (j : Int) ∧ c_gv j (g j) = val) (e : z = 24178516392292583494123520 + a) : val = t_ix (t_tx g) a := by
  have e1 := t_rdR h 20 a 0 0 0 (by omega) ha (by omega) (by omega) (by omega) hz (by omega)
  have e1 : val = t_cl (t_ix (t_tx g) a) := e1
  rw [t_cl_id (by have := t_ix_bd (X := t_tx g) (t_G_ok h) a; omega)] at e1
  exact e1
theorem t_g21 {g : Nat → Int} (h : t_G g) {z val : Int} (a : Nat) (ha : a < 1024) (hz : ∃ j : Nat, z = (j : Int) ∧ c_gv j (g j) = val) (e : z = 25387442211907212668829696 + a) : val = t_cn (fun s => s.2.1) (t_tx g) a := by
  have e1 := t_rdR h 21 a 0 0 0 (by omega) ha (by omega) (by omega) (by omega) hz (by omega)
  have e1 : val = t_cl (t_cn (fun s => s.2.1) (t_tx g) a) := e1
  rw [t_cl_id (by have := t_cn_bd (X := t_tx g) (t_G_ok h) a; omega)] at e1
  exact e1
theorem t_g22 {g : Nat → Int} (h : t_G g) {z val : Int} (a : Nat) (ha : a < 1024) (hz : ∃ j : Nat, z = (j : Int) ∧ c_gv j (g j) = val) (e : z = 26596368031521841843535872 + a) : val = t_cn (fun s => s.2.2.1) (t_tx g) a := by
  have e1 := t_rdR h 22 a 0 0 0 (by omega) ha (by omega) (by omega) (by omega) hz (by omega)
  have e1 : val = t_cl (t_cn (fun s => s.2.2.1) (t_tx g) a) := e1
  rw [t_cl_id (by have := t_cn_bd (X := t_tx g) (t_G_ok h) a; omega)] at e1
  exact e1
theorem t_g23 {g : Nat → Int} (h : t_G g) {z val : Int} (a : Nat) (ha : a < 1024) (hz : ∃ j : Nat, z = (j : Int) ∧ c_gv j (g j) = val) (e : z = 27805293851136471018242048 + a) : val = t_cn (fun s => s.2.2.2.1) (t_tx g) a := by
  have e1 := t_rdR h 23 a 0 0 0 (by omega) ha (by omega) (by omega) (by omega) hz (by omega)
  have e1 : val = t_cl (t_cn (fun s => s.2.2.2.1) (t_tx g) a) := e1
  rw [t_cl_id (by have := t_cn_bd (X := t_tx g) (t_G_ok h) a; omega)] at e1
  exact e1
theorem t_g24 {g : Nat → Int} (h : t_G g) {z val : Int} (a : Nat) (ha : a < 1024) (hz : ∃ j : Nat, z = (j : Int) ∧ c_gv j (g j) = val) (e : z = 29014219670751100192948224 + a) : val = t_cn (fun s => s.2.2.2.2) (t_tx g) a := by
  have e1 := t_rdR h 24 a 0 0 0 (by omega) ha (by omega) (by omega) (by omega) hz (by omega)
  have e1 : val = t_cl (t_cn (fun s => s.2.2.2.2) (t_tx g) a) := e1
  rw [t_cl_id (by have := t_cn_bd (X := t_tx g) (t_G_ok h) a; omega)] at e1
  exact e1
theorem t_g25 {g : Nat → Int} (h : t_G g) {z val : Int} (a : Nat) (ha : a < 1024) (hz : ∃ j : Nat, z = (j : Int) ∧ c_gv j (g j) = val) (e : z = 30223145490365729367654400 + a) : val = t_cl (t_nth (t_la (t_tx g) 700).2.1 a) := by
  have e1 := t_rdR h 25 a 0 0 0 (by omega) ha (by omega) (by omega) (by omega) hz (by omega)
  have e1 : val = t_cl (t_nth (t_la (t_tx g) 700).2.1 a) := e1
  exact e1
theorem t_g26 {g : Nat → Int} (h : t_G g) {z val : Int} (a : Nat) (ha : a < 1024) (hz : ∃ j : Nat, z = (j : Int) ∧ c_gv j (g j) = val) (e : z = 31432071309980358542360576 + a) : val = t_cl (t_nth (t_la (t_tx g) 700).2.2.1 a) := by
  have e1 := t_rdR h 26 a 0 0 0 (by omega) ha (by omega) (by omega) (by omega) hz (by omega)
  have e1 : val = t_cl (t_nth (t_la (t_tx g) 700).2.2.1 a) := e1
  exact e1
theorem t_g27 {g : Nat → Int} (h : t_G g) {z val : Int} (a : Nat) (ha : a < 1024) (hz : ∃ j : Nat, z = (j : Int) ∧ c_gv j (g j) = val) (e : z = 32640997129594987717066752 + a) : val = t_cl (t_nth (t_la (t_tx g) 700).2.2.2.1 a) := by
  have e1 := t_rdR h 27 a 0 0 0 (by omega) ha (by omega) (by omega) (by omega) hz (by omega)
  have e1 : val = t_cl (t_nth (t_la (t_tx g) 700).2.2.2.1 a) := e1
  exact e1
theorem t_g28 {g : Nat → Int} (h : t_G g) {z val : Int} (a : Nat) (ha : a < 1024) (hz : ∃ j : Nat, z = (j : Int) ∧ c_gv j (g j) = val) (e : z = 33849922949209616891772928 + a) : val = t_cl (t_nth (t_la (t_tx g) 700).2.2.2.2 a) := by
  have e1 := t_rdR h 28 a 0 0 0 (by omega) ha (by omega) (by omega) (by omega) hz (by omega)
  have e1 : val = t_cl (t_nth (t_la (t_tx g) 700).2.2.2.2 a) := e1
  exact e1
theorem t_g29 {g : Nat → Int} (h : t_G g) {z val : Int} (a b v : Nat) (ha : a < 1024) (hb : b < 1024) (hv : v < 1125899906842624) (hz : ∃ j : Nat, z = (j : Int) ∧ c_gv j (g j) = val) (e : z = 35058848768824246066479104 + a + 1024 * b + 1073741824 * v) : val = t_fd (t_la (t_tx g) 700).2.1 a b v := by
  have e1 := t_rdR h 29 a b 0 v (by omega) ha hb (by omega) hv hz (by omega)
  have e1 : val = t_cl (t_fd (t_la (t_tx g) 700).2.1 a b v) := e1
  rw [t_cl_id (by have := t_fd_sm (t_la (t_tx g) 700).2.1 a b v; omega)] at e1
  exact e1
theorem t_g30 {g : Nat → Int} (h : t_G g) {z val : Int} (a b v : Nat) (ha : a < 1024) (hb : b < 1024) (hv : v < 1125899906842624) (hz : ∃ j : Nat, z = (j : Int) ∧ c_gv j (g j) = val) (e : z = 36267774588438875241185280 + a + 1024 * b + 1073741824 * v) : val = t_fd (t_la (t_tx g) 700).2.2.1 a b v := by
  have e1 := t_rdR h 30 a b 0 v (by omega) ha hb (by omega) hv hz (by omega)
  have e1 : val = t_cl (t_fd (t_la (t_tx g) 700).2.2.1 a b v) := e1
  rw [t_cl_id (by have := t_fd_sm (t_la (t_tx g) 700).2.2.1 a b v; omega)] at e1
  exact e1
theorem t_g31 {g : Nat → Int} (h : t_G g) {z val : Int} (a b v : Nat) (ha : a < 1024) (hb : b < 1024) (hv : v < 1125899906842624) (hz : ∃ j : Nat, z = (j : Int) ∧ c_gv j (g j) = val) (e : z = 37476700408053504415891456 + a + 1024 * b + 1073741824 * v) : val = t_fd (t_la (t_tx g) 700).2.2.2.1 a b v := by
  have e1 := t_rdR h 31 a b 0 v (by omega) ha hb (by omega) hv hz (by omega)
  have e1 : val = t_cl (t_fd (t_la (t_tx g) 700).2.2.2.1 a b v) := e1
  rw [t_cl_id (by have := t_fd_sm (t_la (t_tx g) 700).2.2.2.1 a b v; omega)] at e1
  exact e1
theorem t_g32 {g : Nat → Int} (h : t_G g) {z val : Int} (a b v : Nat) (ha : a < 1024) (hb : b < 1024) (hv : v < 1125899906842624) (hz : ∃ j : Nat, z = (j : Int) ∧ c_gv j (g j) = val) (e : z = 38685626227668133590597632 + a + 1024 * b + 1073741824 * v) : val = t_fd (t_la (t_tx g) 700).2.2.2.2 a b v := by
  have e1 := t_rdR h 32 a b 0 v (by omega) ha hb (by omega) hv hz (by omega)
  have e1 : val = t_cl (t_fd (t_la (t_tx g) 700).2.2.2.2 a b v) := e1
  rw [t_cl_id (by have := t_fd_sm (t_la (t_tx g) 700).2.2.2.2 a b v; omega)] at e1
  exact e1
theorem t_g33 {g : Nat → Int} (h : t_G g) {z val : Int}  (hz : ∃ j : Nat, z = (j : Int) ∧ c_gv j (g j) = val) (e : z = 39894552047282762765303808) : val = t_ans (t_tx g) := by
  have e1 := t_rdR h 33 0 0 0 0 (by omega) (by omega) (by omega) (by omega) (by omega) hz (by omega)
  have e1 : val = t_cl (t_ans (t_tx g)) := e1
  rw [t_cl_id (by have := t_ans_bd (X := t_tx g) (t_G_ok h); omega)] at e1
  exact e1
theorem t_g34 {g : Nat → Int} (h : t_G g) {z val : Int} (a c : Nat) (ha : a < 1024) (hc : c < 1024) (hz : ∃ j : Nat, z = (j : Int) ∧ c_gv j (g j) = val) (e : z = 41103477866897391940009984 + a + 1048576 * c) : val = t_tk (t_tx g) a c := by
  have e1 := t_rdR h 34 a 0 c 0 (by omega) ha (by omega) hc (by omega) hz (by omega)
  have e1 : val = t_cl (t_tk (t_tx g) a c) := e1
  rw [t_cl_id (by have := t_tk_bd (X := t_tx g) (t_G_ok h) a c; omega)] at e1
  exact e1
theorem t_g35 {g : Nat → Int} (h : t_G g) {z val : Int} (a v : Nat) (ha : a < 1024) (hv : v < 1125899906842624) (hz : ∃ j : Nat, z = (j : Int) ∧ c_gv j (g j) = val) (e : z = 42312403686512021114716160 + a + 1073741824 * v) : val = t_kw (t_tx g) a v := by
  have e1 := t_rdR h 35 a 0 0 v (by omega) ha (by omega) (by omega) hv hz (by omega)
  have e1 : val = t_cl (t_kw (t_tx g) a v) := e1
  rw [t_cl_id (by have := t_kw_bd (X := t_tx g) a (v : Int); omega)] at e1
  exact e1
theorem t_g36 {g : Nat → Int} (h : t_G g) {z val : Int} (a : Nat) (ha : a < 1024) (hz : ∃ j : Nat, z = (j : Int) ∧ c_gv j (g j) = val) (e : z = 43521329506126650289422336 + a) : val = t_pt (t_tx g) a := by
  have e1 := t_rdR h 36 a 0 0 0 (by omega) ha (by omega) (by omega) (by omega) hz (by omega)
  have e1 : val = t_cl (t_pt (t_tx g) a) := e1
  rw [t_cl_id (by have := t_pt_bd (X := t_tx g) (t_G_ok h) a; omega)] at e1
  exact e1
theorem t_g37 {g : Nat → Int} (h : t_G g) {z val : Int} (a : Nat) (ha : a < 1024) (hz : ∃ j : Nat, z = (j : Int) ∧ c_gv j (g j) = val) (e : z = 44730255325741279464128512 + a) : val = t_b (t_var (t_tx g) a) := by
  have e1 := t_rdR h 37 a 0 0 0 (by omega) ha (by omega) (by omega) (by omega) hz (by omega)
  have e1 : val = t_cl (t_b (t_var (t_tx g) a)) := e1
  rw [t_cl_id (by have := t_b_bd (t_var (t_tx g) a); omega)] at e1
  exact e1
theorem t_g38 {g : Nat → Int} (h : t_G g) {z val : Int} (a b : Nat) (ha : a < 1024) (hb : b < 1024) (hz : ∃ j : Nat, z = (j : Int) ∧ c_gv j (g j) = val) (e : z = 45939181145355908638834688 + a + 1024 * b) : val = t_af (t_tx g) 41 a b := by
  have e1 := t_rdR h 38 a b 0 0 (by omega) ha hb (by omega) (by omega) hz (by omega)
  have e1 : val = t_cl (t_af (t_tx g) 41 a b) := e1
  rw [t_cl_id (by show _ ∧ _; unfold t_af; have h5 := t_px_sm (X := t_tx g) (t_G_ok h) (i := a) 4 b; have h6 := t_need_bd (X := t_tx g) (t_px (t_tx g) 4 a b).toNat 41; split <;> omega)] at e1
  exact e1
theorem t_g39 {g : Nat → Int} (h : t_G g) {z val : Int} (a b : Nat) (ha : a < 1024) (hb : b < 1024) (hz : ∃ j : Nat, z = (j : Int) ∧ c_gv j (g j) = val) (e : z = 47148106964970537813540864 + a + 1024 * b) : val = t_af (t_tx g) 59 a b := by
  have e1 := t_rdR h 39 a b 0 0 (by omega) ha hb (by omega) (by omega) hz (by omega)
  have e1 : val = t_cl (t_af (t_tx g) 59 a b) := e1
  rw [t_cl_id (by show _ ∧ _; unfold t_af; have h5 := t_px_sm (X := t_tx g) (t_G_ok h) (i := a) 4 b; have h6 := t_need_bd (X := t_tx g) (t_px (t_tx g) 4 a b).toNat 59; split <;> omega)] at e1
  exact e1
theorem t_g43 {g : Nat → Int} (h : t_G g) {z val : Int} (a : Nat) (ha : a < 1024) (hz : ∃ j : Nat, z = (j : Int) ∧ c_gv j (g j) = val) (e : z = 51983810243429054512365568 + a) : val = t_vn (t_tx g) a := by
  have e1 := t_rdR h 43 a 0 0 0 (by omega) ha (by omega) (by omega) (by omega) hz (by omega)
  have e1 : val = t_cl (t_vn (t_tx g) a) := e1
  rw [t_cl_id (by show _ ∧ _; unfold t_vn; have := t_v_bd (X := t_tx g) a (t_G_by h); split <;> omega)] at e1
  exact e1
theorem t_g44 {g : Nat → Int} (h : t_G g) {z val : Int} (a : Nat) (ha : a < 1024) (hz : ∃ j : Nat, z = (j : Int) ∧ c_gv j (g j) = val) (e : z = 53192736063043683687071744 + a) : val = t_dn (t_tx g) a := by
  have e1 := t_rdR h 44 a 0 0 0 (by omega) ha (by omega) (by omega) (by omega) hz (by omega)
  have e1 : val = t_cl (t_dn (t_tx g) a) := e1
  rw [t_cl_id (by show _ ∧ _; unfold t_dn; split <;> omega)] at e1
  exact e1
theorem t_g45 {g : Nat → Int} (h : t_G g) {z val : Int} (a : Nat) (ha : a < 1024) (hz : ∃ j : Nat, z = (j : Int) ∧ c_gv j (g j) = val) (e : z = 54401661882658312861777920 + a) : val = t_vw (t_tx g) a := by
  have e1 := t_rdR h 45 a 0 0 0 (by omega) ha (by omega) (by omega) (by omega) hz (by omega)
  have e1 : val = t_cl (t_vw (t_tx g) a) := e1
  rw [t_cl_id (by show _ ∧ _; unfold t_vw; have := t_v_bd (X := t_tx g) a (t_G_by h); split; split <;> omega; omega)] at e1
  exact e1
theorem t_g46 {g : Nat → Int} (h : t_G g) {z val : Int} (a : Nat) (ha : a < 1024) (hz : ∃ j : Nat, z = (j : Int) ∧ c_gv j (g j) = val) (e : z = 55610587702272942036484096 + a) : val = t_dw (t_tx g) a := by
  have e1 := t_rdR h 46 a 0 0 0 (by omega) ha (by omega) (by omega) (by omega) hz (by omega)
  have e1 : val = t_cl (t_dw (t_tx g) a) := e1
  rw [t_cl_id (by show _ ∧ _; unfold t_dw; split <;> omega)] at e1
  exact e1
theorem t_g47 {g : Nat → Int} (h : t_G g) {z val : Int} (a : Nat) (ha : a < 1024) (hz : ∃ j : Nat, z = (j : Int) ∧ c_gv j (g j) = val) (e : z = 56819513521887571211190272 + a) : val = t_ll (t_tx g) a := by
  have e1 := t_rdR h 47 a 0 0 0 (by omega) ha (by omega) (by omega) (by omega) hz (by omega)
  have e1 : val = t_cl (t_ll (t_tx g) a) := e1
  rw [t_cl_id (by show _ ∧ _; unfold t_ll; have := t_ep_le (X := t_tx g) (a + 1); have h6 := t_pl_le (X := t_tx g) a; have := t_G_ok h; have h7 : (t_tx g).2 ≤ 600 := this; split <;> omega)] at e1
  exact e1
theorem t_g48 {g : Nat → Int} (h : t_G g) {z val : Int} (a : Nat) (ha : a < 1024) (hz : ∃ j : Nat, z = (j : Int) ∧ c_gv j (g j) = val) (e : z = 58028439341502200385896448 + a) : val = t_d4 (t_tx g) a := by
  have e1 := t_rdR h 48 a 0 0 0 (by omega) ha (by omega) (by omega) (by omega) hz (by omega)
  have e1 : val = t_cl (t_d4 (t_tx g) a) := e1
  rw [t_cl_id (by show _ ∧ _; unfold t_d4; split <;> omega)] at e1
  exact e1
