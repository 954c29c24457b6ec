/-! the tapes alike, the reader's words; feed and land by the third layer -/
/-- one of the tapes: how many bytes, which -/
def k_Tp (a t i1 i2 tt : Nat) (w : cWld) (n tp : Nat) (f : Nat → Int) : Prop := k_fn w a t i1 (n : Int) ∧ k_fn w a t i2 (tp : Int) ∧ c_in w tp tt ∧ ∀ p, p < n → k_fn w tp tt p (f p)
def k_Ky (a1 : Nat) (w : cWld) (rd ke : Nat) : Prop := k_fn w a1 12 8 (rd : Int) ∧ k_fn w rd 5 4 (ke : Int) ∧ c_in w rd 5 ∧ c_in w ke 36 ∧ ∀ k, k < 26 → k_fn w ke 36 k (t_nth t_keys k)
def k_byt (f : Nat → Int) : Prop := ∀ p, -128 ≤ f p ∧ f p ≤ 127
def k_R4 (a1 a2 : Nat) (w : cWld) (n tp tm rd ke : Nat) (f : Nat → Int) : Prop := n ≤ 600 ∧ k_byt f ∧ k_Tp a1 12 7 6 16 w n tp f ∧ k_Tp a2 13 8 7 62 w n tm f ∧ k_Ky a1 w rd ke
def k_R (a1 a2 : Nat) (w : cWld) : Prop := ∃ (n tp tm rd ke : Nat) (f : Nat → Int), k_R4 a1 a2 w n tp tm rd ke f
def k_none (E : cEff) (t : Nat) : Bool := E.all (fun x => !(Nat.beq x.1 t))
theorem k_none_ok {E : cEff} {t : Nat} (h : k_none E t = true) (lo hi : Int) : c_off E t lo hi = true := by
  unfold c_off
  refine List.all_eq_true.mpr fun x hx => ?_
  have := List.all_eq_true.mp h x hx
  rw [this]
  rfl
theorem k_inK {E : cEff} {pros : List Nat} {w w' : cWld} {a t : Nat} (h : c_ext E pros w w') (hp : pros.all (fun t => Nat.ble 101 t) = true) (ht : t ≤ 100) (hf : c_in w a t) : c_in w' a t := by
  obtain ⟨e, h1, h2⟩ := hf
  obtain ⟨e', g1, g2⟩ := h.1 _ h1
  rcases g2 with ⟨g2, g3⟩ | g2
  · exact ⟨e', g1, g2.trans h2⟩
  · exfalso
    have h5 := Nat.le_of_ble_eq_true (List.all_eq_true.mp hp _ g2)
    dsimp only at h5
    omega
theorem k_fnU {AA : Nat → Prop} {w : cWld} {a t t' i : Nat} {z z' : Int} (hD : va_D AA w.2.1) (h : k_fn w a t i z) (h' : k_fn w a t' i z') : z = z' :=
  c_cell_fun (p := fun _ => (a : Int)) (p' := fun _ => (a : Int)) (b := 0 + 1) (idx := ((i : Int), [])) hD (fun _ => rfl) rfl (k_fnC h rfl (by show (i : Int) + 0 = _; omega)) (k_fnC h' rfl (by show (i : Int) + 0 = _; omega))
theorem k_fnT {w : cWld} {dA : Nat → ClassId} {a t i : Nat} {z lo hi : Int} (hT : c_TW k_K dA w) (hf : k_fn w a t i z) (hty : c_ty k_K t i = (0, lo, hi)) : lo ≤ z ∧ z ≤ hi := by
  obtain ⟨e, v, h1, h2, h3, h4⟩ := hf
  have h := (hT _ h1).2.1 i v h3
  dsimp only at h
  rw [h2, hty] at h
  obtain ⟨x, rfl, h5, h6⟩ := h
  have h4 : x.toInt = z := h4
  exact ⟨h4 ▸ h5, h4 ▸ h6⟩
theorem k_fnRf {w : cWld} {dA : Nat → ClassId} {a t i t' : Nat} {z : Int} (hT : c_TW k_K dA w) (hf : k_fn w a t i z) (hty : c_ty k_K t i = (3, (t' : Int), 0)) : ∃ x : Nat, z = (x : Int) ∧ c_in w x t' := by
  obtain ⟨e, v, h1, h2, h3, h4⟩ := hf
  have h := (hT _ h1).2.1 i v h3
  dsimp only at h
  rw [h2, hty] at h
  obtain ⟨x, rfl, h5⟩ := h
  exact ⟨x, h4.symm, h5⟩
theorem k_fnA {w : cWld} {dA : Nat → ClassId} {a t i N ci : Nat} (hT : c_TW k_K dA w) (hin : c_in w a t) (hs : k_K.2.1 t = (3, N, ci)) (hi : i < N) : ∃ z, k_fn w a t i z := by
  obtain ⟨e, h1, h2⟩ := hin
  have hf := (hT _ h1).1
  dsimp only at hf
  rw [h2, hs] at hf
  obtain ⟨f, rfl⟩ := hf
  exact ⟨_, _, .int (f i), h1, h2, if_pos hi, rfl⟩
theorem k_fnO {w : cWld} {dA : Nat → ClassId} {a t i N ci : Nat} (hT : c_TW k_K dA w) (hin : c_in w a t) (hs : k_K.2.1 t = (0, N, ci)) (hi : i < N) : ∃ z, k_fn w a t i z := k_fnE hT hin hs hi
section RL
variable {E : cEff} {pros : List Nat} {w w' : cWld} {a1 a2 n tp tm rd ke : Nat} {f : Nat → Int}
theorem k_TpK {a t i1 i2 tt : Nat} (h : c_ext E pros w w') (hp : pros.all (fun t => Nat.ble 101 t) = true) (ht : t ≤ 100) (htt : tt ≤ 100) (hE : (c_off E t (i1 : Int) (i1 : Int) && c_off E t (i2 : Int) (i2 : Int) && k_none E tt) = true) (hR : k_Tp a t i1 i2 tt w n tp f) : k_Tp a t i1 i2 tt w' n tp f := by
  rw [Bool.and_eq_true, Bool.and_eq_true] at hE
  obtain ⟨h1, h2, h3, h4⟩ := hR
  exact ⟨k_fnK h hp ht hE.1.1 h1, k_fnK h hp ht hE.1.2 h2, k_inK h hp htt h3, fun p hp2 => k_fnK h hp htt (k_none_ok hE.2 _ _) (h4 p hp2)⟩
theorem k_KyK (h : c_ext E pros w w') (hp : pros.all (fun t => Nat.ble 101 t) = true) (hE : (c_off E 12 8 8 && c_off E 5 4 4 && k_none E 36) = true) (hR : k_Ky a1 w rd ke) : k_Ky a1 w' rd ke := by
  rw [Bool.and_eq_true, Bool.and_eq_true] at hE
  obtain ⟨h1, h2, h3, h4, h5⟩ := hR
  exact ⟨k_fnK h hp (by decide) hE.1.1 h1, k_fnK h hp (by decide) hE.1.2 h2, k_inK h hp (by decide) h3, k_inK h hp (by decide) h4, fun k hk => k_fnK h hp (by decide) (k_none_ok hE.2 _ _) (h5 k hk)⟩
def k_offC (E : cEff) : Bool := c_off E 12 ((7 : Nat) : Int) ((7 : Nat) : Int) && c_off E 12 ((6 : Nat) : Int) ((6 : Nat) : Int) && k_none E 16
def k_offM (E : cEff) : Bool := c_off E 13 ((8 : Nat) : Int) ((8 : Nat) : Int) && c_off E 13 ((7 : Nat) : Int) ((7 : Nat) : Int) && k_none E 62
def k_offY (E : cEff) : Bool := c_off E 12 8 8 && c_off E 5 4 4 && k_none E 36
def k_offR (E : cEff) : Bool := k_offC E && k_offM E && k_offY E
theorem k_RK (h : c_ext E pros w w') (hp : pros.all (fun t => Nat.ble 101 t) = true) (hE : k_offR E = true) (hR : k_R a1 a2 w) : k_R a1 a2 w' := by
  unfold k_offR at hE
  rw [Bool.and_eq_true, Bool.and_eq_true] at hE
  obtain ⟨n, tp, tm, rd, ke, f, h1, h2, h3, h4, h5⟩ := hR
  exact ⟨n, tp, tm, rd, ke, f, h1, h2, k_TpK h hp (by decide) (by decide) hE.1.1 h3, k_TpK h hp (by decide) (by decide) hE.1.2 h4, k_KyK h hp hE.2 h5⟩
/-- what stays while the size alone changes -/
def k_Tb (a t i2 tt : Nat) (w : cWld) (n tp : Nat) (f : Nat → Int) : Prop := k_fn w a t i2 (tp : Int) ∧ c_in w tp tt ∧ ∀ p, p < n → k_fn w tp tt p (f p)
theorem k_Tb_of {a t i1 i2 tt : Nat} (h : k_Tp a t i1 i2 tt w n tp f) : k_Tb a t i2 tt w n tp f := ⟨h.2.1, h.2.2.1, h.2.2.2⟩
theorem k_TbK {a t i2 tt : Nat} (h : c_ext E pros w w') (hp : pros.all (fun t => Nat.ble 101 t) = true) (ht : t ≤ 100) (htt : tt ≤ 100) (hE : (c_off E t (i2 : Int) (i2 : Int) && k_none E tt) = true) (hR : k_Tb a t i2 tt w n tp f) : k_Tb a t i2 tt w' n tp f := by
  rw [Bool.and_eq_true] at hE
  obtain ⟨h2, h3, h4⟩ := hR
  exact ⟨k_fnK h hp ht hE.1 h2, k_inK h hp htt h3, fun p hp2 => k_fnK h hp htt (k_none_ok hE.2 _ _) (h4 p hp2)⟩
theorem k_Tp_of {a t i1 i2 tt : Nat} {n' : Nat} (h : k_Tb a t i2 tt w n tp f) (hn : n' ≤ n) (h1 : k_fn w a t i1 (n' : Int)) : k_Tp a t i1 i2 tt w n' tp f := ⟨h1, h.1, h.2.1, fun p hp => h.2.2 p (by omega)⟩
end RL
/-! a byte seen in both worlds -/
theorem t_cell_eq {c1 c2 : ClassId} {n1 n2 : Nat} {f g : Nat → Int32} (h : vp_cell c1 (n1, .inl f) = vp_cell c2 (n2, .inl g)) : n1 = n2 ∧ ∀ i, i < n1 → f i = g i := by
  have h : arrV c1 n1 (fun j => .int (f j)) = arrV c2 n2 (fun j => .int (g j)) := h
  have hs : (Array.ofFn (n := n1) fun j => Value.int (f j.val)) = Array.ofFn (n := n2) fun j => Value.int (g j.val) := congrArg (fun x : Cell => x.slots) h
  have hn : n1 = n2 := by
    have := congrArg Array.size hs
    rw [Array.size_ofFn, Array.size_ofFn] at this
    exact this
  subst hn
  refine ⟨rfl, fun i hi => ?_⟩
  have h3 : (Array.ofFn (n := n1) fun j => Value.int (f j.val))[i]? = (Array.ofFn (n := n1) fun j => Value.int (g j.val))[i]? := by rw [hs]
  rw [Array.getElem?_ofFn, Array.getElem?_ofFn, dif_pos hi, dif_pos hi] at h3
  have h4 := Option.some.inj h3
  injection h4
theorem t_back {D : va_G} {dA : Nat → ClassId} {w w2 : cWld} {H : Heap} {a t i : Nat} {z : Int} (hP : va_P D k_cl w.2.1 H) (hP2 : va_P D k_cl w2.2.1 H) (hT : c_TW k_K dA w) (hT2 : c_TW t_K dA w2) (hin : c_in w a t) (h1 : (k_K.2.1 t).1 = 3) (hf : k_fn w2 a t i z) : k_fn w a t i z := by
  obtain ⟨e, g1, g2⟩ := hin
  obtain ⟨e2, v, f1, f2, f3, f4⟩ := hf
  have a1 := (hT _ g1).1
  have a2 := (hT2 _ f1).1
  dsimp only at a1 a2
  rw [g2] at a1
  rw [f2] at a2
  have a2 : c_form dA (k_K.2.1 t) e2 := a2
  unfold c_form at a1 a2
  rw [h1] at a1 a2
  obtain ⟨f, rfl⟩ := a1
  obtain ⟨g, rfl⟩ := a2
  obtain ⟨k1, hk1⟩ := List.getElem?_of_mem g1
  obtain ⟨k2, hk2⟩ := List.getElem?_of_mem f1
  have b1 : H[a]? = some (vp_cell (dA 3) ((k_K.2.1 t).2.1, .inl f)) := hP k1 _ hk1
  have b2 : H[a]? = some (vp_cell (dA 3) ((k_K.2.1 t).2.1, .inl g)) := hP2 k2 _ hk2
  rw [b1] at b2
  obtain ⟨-, hv⟩ := t_cell_eq (Option.some.inj b2)
  refine ⟨_, v, g1, g2, ?_, f4⟩
  have f3 : (if i < (k_K.2.1 t).2.1 then some (Value.int (g i)) else none) = some v := f3
  show (if i < (k_K.2.1 t).2.1 then some (Value.int (f i)) else none) = some v
  by_cases hi : i < (k_K.2.1 t).2.1
  · rw [if_pos hi] at f3
    rw [if_pos hi, hv i hi]
    exact f3
  · rw [if_neg hi] at f3
    cases f3
def t_Ex (s : State) (D : va_G) (dA : Nat → ClassId) (a : Nat) (w : cWld) (vals : List Value) (H' : Heap) (rv : List Value) : Prop := ∀ i : t_Ix, i.1 ∈ t_P.2.1 a → ct_mc i.1 = 0 → ct_ms i.1 = 0 → c_Pre i.1 i.2.1 vals (t_Wi w i) → c_ev i.2.1 (ct_dep i.1) ≤ ((1000 : Nat) : Int) → c_TW t_K dA (t_Wi w i) → ∃ (rv2 : List Value) (res2 : List Int) (w2 : cWld), rv2.head? = rv.head? ∧ c_retV (ct_ret i.1) rv2 res2 ∧ c_Post i.1 i.2.1 (t_Wi w i) w2 res2 ∧ va_P D k_cl w2.2.1 H' ∧ va_D (k_AA s) w2.2.1 ∧ c_TW t_K dA w2
theorem t_exOf {s : State} {D : va_G} {dA : Nat → ClassId} {w : cWld} {H' : Heap} {a : Nat} {ct : cCtr} {vals : List Value} {rv : List Value} (h1 : ct_mc ct = 0) (h2 : ct_ms ct = 0) (hj : ∀ i : t_Ix, t_Pi dA a ct w vals i → ∃ (rv2 : List Value) (res2 : List Int) (w2 : cWld), rv2.head? = rv.head? ∧ c_retV (ct_ret i.1) rv2 res2 ∧ c_Post i.1 i.2.1 (t_Wi w i) w2 res2 ∧ va_P D k_cl w2.2.1 H' ∧ va_D (k_AA s) w2.2.1 ∧ c_TW t_K dA w2) : t_Ex s D dA a w vals H' rv := fun i b1 b2 b3 b4 b5 b6 => hj i ⟨b1, b2.trans h1.symm, b3.trans h2.symm, b4, b5, b6⟩
/-- numbers of the ghost, told one by one -/
def t_sm : List (Nat × Int) → Nat → Int
  | [], _ => 0
  | q :: l, j => if q.1 = j then q.2 else t_sm l j
/-- the word of the third layer at the start of a call -/
theorem t_J0 {AA : Nat → Prop} {w : cWld} {g : Nat → Int} (hD : va_D AA w.2.1) (hG : t_G g) (hrow : ∀ m ∈ t_rows, ∀ a : Nat, (a : Int) = c_gv m.2.1 (g m.2.1) → ∀ k : Nat, k < m.2.2.2.2.2 → (k : Int) < c_gv m.2.2.2.2.1 (g m.2.2.2.2.1) → k_fn w a m.1 (m.2.2.1 + k) (c_gv (m.2.2.2.1 + k) (g (m.2.2.2.1 + k)))) : ∀ q ∈ w.2.1, t_J t_G t_rows t_ctags (w.1 q.1) q.1 (c_rd q.2) g := fun q hq _ _ => ⟨hG, fun m hm _ hadr k hk hct => by
  obtain ⟨e, v, h1, -, h3, h4⟩ := hrow m hm q.1 hadr k hk hct
  have := c_uniq hD (show (q.1, q.2) ∈ w.2.1 from hq) h1
  exact ⟨v, by rw [this]; exact h3, h4⟩⟩
theorem t_J00 {AA : Nat → Prop} {w : cWld} (hD : va_D AA w.2.1) : ∀ q ∈ w.2.1, t_J t_G t_rows t_ctags (w.1 q.1) q.1 (c_rd q.2) (t_gh ((fun _ => 0, 0) : t_X0) (fun _ => 0)) := t_J0 hD (t_gh_G (by show 0 ≤ 600; omega) (fun p => by show -128 ≤ (0 : Int) ∧ (0 : Int) ≤ 127; omega) (fun _ _ => rfl)) fun m hm a hadr k hk hct => by
  simp only [t_rows, List.mem_cons, List.not_mem_nil, or_false] at hm
  rcases hm with rfl | rfl | rfl | rfl | rfl | rfl | rfl | rfl | rfl | rfl | rfl | rfl | rfl | rfl | rfl
  · exfalso
    have h9 : (k : Int) < c_gv 347 (t_gh _ _ 347) := hct
    rw [t_gh_lo (by omega)] at h9
    have h8 : c_gv 347 (0 : Int) = 0 := by rfl
    omega
  · exfalso
    have h9 : (k : Int) < c_gv 320 (t_gh _ _ 320) := hct
    rw [t_gh_lo (by omega)] at h9
    have h8 : c_gv 320 (0 : Int) = 0 := by rfl
    omega
  · exfalso
    have h9 : (k : Int) < c_gv 320 (t_gh _ _ 320) := hct
    rw [t_gh_lo (by omega)] at h9
    have h8 : c_gv 320 (0 : Int) = 0 := by rfl
    omega
  · exfalso
    have h9 : (k : Int) < c_gv 320 (t_gh _ _ 320) := hct
    rw [t_gh_lo (by omega)] at h9
    have h8 : c_gv 320 (0 : Int) = 0 := by rfl
    omega
  · exfalso
    have h9 : (k : Int) < c_gv 320 (t_gh _ _ 320) := hct
    rw [t_gh_lo (by omega)] at h9
    have h8 : c_gv 320 (0 : Int) = 0 := by rfl
    omega
  · exfalso
    have h9 : (k : Int) < c_gv 348 (t_gh _ _ 348) := hct
    rw [t_gh_lo (by omega)] at h9
    have h8 : c_gv 348 (0 : Int) = 0 := by rfl
    omega
  · exfalso
    have h9 : (k : Int) < c_gv 332 (t_gh _ _ 332) := hct
    rw [t_gh_lo (by omega)] at h9
    have h8 : c_gv 332 (0 : Int) = 0 := by rfl
    omega
  · exfalso
    have h9 : (k : Int) < c_gv 333 (t_gh _ _ 333) := hct
    rw [t_gh_lo (by omega)] at h9
    have h8 : c_gv 333 (0 : Int) = 0 := by rfl
    omega
  · exfalso
    have h9 : (k : Int) < c_gv 334 (t_gh _ _ 334) := hct
    rw [t_gh_lo (by omega)] at h9
    have h8 : c_gv 334 (0 : Int) = 0 := by rfl
    omega
  · exfalso
    have h9 : (k : Int) < c_gv 335 (t_gh _ _ 335) := hct
    rw [t_gh_lo (by omega)] at h9
    have h8 : c_gv 335 (0 : Int) = 0 := by rfl
    omega
  · exfalso
    have h9 : (k : Int) < c_gv 349 (t_gh _ _ 349) := hct
    rw [t_gh_lo (by omega)] at h9
    have h8 : c_gv 349 (0 : Int) = 0 := by rfl
    omega
  · exfalso
    have h9 : (k : Int) < c_gv 352 (t_gh _ _ 352) := hct
    rw [t_gh_lo (by omega)] at h9
    have h8 : c_gv 352 (0 : Int) = 0 := by rfl
    omega
  · exfalso
    have h9 : (k : Int) < c_gv 353 (t_gh _ _ 353) := hct
    rw [t_gh_lo (by omega)] at h9
    have h8 : c_gv 353 (0 : Int) = 0 := by rfl
    omega
  · exfalso
    have h9 : (k : Int) < c_gv 354 (t_gh _ _ 354) := hct
    rw [t_gh_lo (by omega)] at h9
    have h8 : c_gv 354 (0 : Int) = 0 := by rfl
    omega
  · exfalso
    have h9 : (k : Int) < c_gv 355 (t_gh _ _ 355) := hct
    rw [t_gh_lo (by omega)] at h9
    have h8 : c_gv 355 (0 : Int) = 0 := by rfl
    omega
theorem t_cellG {w : cWld} {r : Nat → Int} {idx : cLin} {z : Int} (j : Nat) (h1 : c_ev r idx = (j : Int)) (h2 : c_gv j (w.2.2 j) = z) : c_cell w r 0 idx z := ⟨j, h1, h2⟩
theorem t_i8 (x : Int32) : -128 ≤ x.toInt8.toInt32.toInt ∧ x.toInt8.toInt32.toInt ≤ 127 := by
  rw [Int8.toInt_toInt32]
  have a1 := x.toInt8.le_toInt
  have a2 := x.toInt8.toInt_lt
  omega
theorem t_bytB (v : Nat) : -128 ≤ t_bytV v ∧ t_bytV v ≤ 127 := t_i8 _
theorem t_shrB (a v : Nat) : -2147483648 ≤ t_shrV a v ∧ t_shrV a v ≤ 2147483647 := c_i32 _
/-- a byte of a number -/
def t_fs (y : Int32) (a : Nat) : Int := t_shrV a (y.toInt + 2147483648).toNat
def t_fb (y : Int32) (a : Nat) : Int := t_bytV (t_fs y a + 2147483648).toNat
theorem t_cS {X : t_X0} {s : Nat → Int} (hG : t_G (t_gh X s)) {w : cWld} (hw : w.2.2 = t_gh X s) {r : Nat → Int} {c : Int} {k a : Nat} {x : Int32} (hc : c = 48357035090428176201940992 + (a : Int)) (ha : a < 32) (hr : r k = x.toInt) : c_cell w r 0 (c, [(k, 1073741824)]) (t_fs x a) := by
  have hx := c_i32 x
  refine t_cellG (1208925819614629174706176 * 40 + a + 1024 * 0 + 1048576 * 0 + 1073741824 * (x.toInt + 2147483648).toNat) ?_ ?_
  · show c + (1073741824 * r k + 0) = _
    rw [hr]
    omega
  · rw [hw, hG.2 40 a 0 0 _ (by omega) (by omega) (by omega) (by omega) (by omega) (by omega)]
    have hb := t_shrB a (x.toInt + 2147483648).toNat
    exact c_gv_id (by omega) (by show -1099511627776 ≤ t_shrV a _; omega) (by show t_shrV a _ ≤ 1099511627776; omega)
theorem t_cB {X : t_X0} {s : Nat → Int} (hG : t_G (t_gh X s)) {w : cWld} (hw : w.2.2 = t_gh X s) {r : Nat → Int} {k a : Nat} {x : Int32} (hr : r k = t_fs x a) : c_cell w r 0 (49565960910042805376647168, [(k, 1073741824)]) (t_fb x a) := by
  have hx := t_shrB a (x.toInt + 2147483648).toNat
  have hx : -2147483648 ≤ t_fs x a ∧ t_fs x a ≤ 2147483647 := hx
  refine t_cellG (1208925819614629174706176 * 41 + 0 + 1024 * 0 + 1048576 * 0 + 1073741824 * (t_fs x a + 2147483648).toNat) ?_ ?_
  · show (49565960910042805376647168 : Int) + (1073741824 * r k + 0) = _
    rw [hr]
    omega
  · rw [hw, hG.2 41 0 0 0 _ (by omega) (by omega) (by omega) (by omega) (by omega) (by omega)]
    have hb := t_bytB (t_fs x a + 2147483648).toNat
    exact c_gv_id (by omega) (by show -1099511627776 ≤ t_bytV _; omega) (by show t_bytV _ ≤ 1099511627776; omega)
theorem t_cT {X : t_X0} {s : Nat → Int} {w : cWld} (hw : w.2.2 = t_gh X s) (hb : k_byt X.1) {r : Nat → Int} {c : Int} {k n d : Nat} {z : Int} (hc : c = 1208925819614629174706176 + (d : Int)) (hr : r k = (n : Int)) (hn : n + d < 1023) (hz : X.1 (n + d) = z) : c_cell w r 0 (c, [(k, 1)]) z := by
  refine t_cellG (1208925819614629174706176 + (n + d)) ?_ ?_
  · show c + (1 * r k + 0) = _
    rw [hr]
    omega
  · have h := hb (n + d)
    rw [hw, t_gh_by hn, ← hz]
    exact c_gv_id (by omega) (by omega) (by omega)
theorem t_c0 {X : t_X0} {s : Nat → Int} {w : cWld} (hw : w.2.2 = t_gh X s) {r : Nat → Int} {j : Nat} {z : Int} (hj : j < 1000) (hz : c_gv j (s j) = z) : c_cell w r 0 ((j : Int), []) z := by
  refine t_cellG j (by show (j : Int) + 0 = _; omega) ?_
  rw [hw, t_gh_lo (by omega)]
  exact hz
theorem t_cN {X : t_X0} {s : Nat → Int} {w : cWld} (hw : w.2.2 = t_gh X s) {r : Nat → Int} (h : X.2 ≤ 600) : c_cell w r 0 (1208925819614629174707199, []) (X.2 : Int) := by
  refine t_cellG 1208925819614629174707199 (by show (1208925819614629174707199 : Int) + 0 = _; omega) ?_
  rw [hw, t_gh_n]
  exact c_gv_id (by omega) (by omega) (by omega)
theorem t_cA {X : t_X0} {s : Nat → Int} {w : cWld} (hw : w.2.2 = t_gh X s) {r : Nat → Int} (j : Nat) (hj : 1208925819614629174706176 ≤ j) : c_cell w r 0 ((j : Int), []) (c_gv j (t_gh X (fun _ => 0) j)) := by
  refine t_cellG j (by show (j : Int) + 0 = _; omega) ?_
  rw [hw]
  congr 1
  unfold t_gh
  rw [if_neg (by omega), if_neg (by omega)]
/-- the tape with twenty bytes more -/
def t_fy (y1 y2 y3 y4 y5 : Int32) : Nat → Int
  | 0 => t_fb y1 24
  | 1 => t_fb y1 16
  | 2 => t_fb y1 8
  | 3 => t_fb y1 0
  | 4 => t_fb y2 24
  | 5 => t_fb y2 16
  | 6 => t_fb y2 8
  | 7 => t_fb y2 0
  | 8 => t_fb y3 24
  | 9 => t_fb y3 16
  | 10 => t_fb y3 8
  | 11 => t_fb y3 0
  | 12 => t_fb y4 24
  | 13 => t_fb y4 16
  | 14 => t_fb y4 8
  | 15 => t_fb y4 0
  | 16 => t_fb y5 24
  | 17 => t_fb y5 16
  | 18 => t_fb y5 8
  | 19 => t_fb y5 0
  | _ => 0
def t_nf (n : Nat) (f : Nat → Int) (y1 y2 y3 y4 y5 : Int32) (p : Nat) : Int := if p < n then f p else if p < n + 20 then t_fy y1 y2 y3 y4 y5 (p - n) else 0
theorem t_fyB {y1 y2 y3 y4 y5 : Int32} (c : Nat) : -128 ≤ t_fy y1 y2 y3 y4 y5 c ∧ t_fy y1 y2 y3 y4 y5 c ≤ 127 := by
  unfold t_fy
  split <;> first | exact t_bytB _ | omega
theorem t_nfB {n : Nat} {f : Nat → Int} {y1 y2 y3 y4 y5 : Int32} (h : k_byt f) : k_byt (t_nf n f y1 y2 y3 y4 y5) := fun p => by
  unfold t_nf
  split
  · exact h p
  · split
    · exact t_fyB _
    · omega
theorem t_nfA {n : Nat} {f : Nat → Int} {y1 y2 y3 y4 y5 : Int32} (c : Nat) (hc : c < 20) : t_nf n f y1 y2 y3 y4 y5 (n + c) = t_fy y1 y2 y3 y4 y5 c := by
  unfold t_nf
  rw [if_neg (by omega), if_pos (by omega), Nat.add_sub_cancel_left]
theorem t_nfL {n : Nat} {f : Nat → Int} {y1 y2 y3 y4 y5 : Int32} {p : Nat} (h : p < n) : t_nf n f y1 y2 y3 y4 y5 p = f p := if_pos h
theorem t_nfZ {n : Nat} {f : Nat → Int} {y1 y2 y3 y4 y5 : Int32} {p : Nat} (h : n + 20 ≤ p) : t_nf n f y1 y2 y3 y4 y5 p = 0 := by
  unfold t_nf
  rw [if_neg (by omega), if_neg (by omega)]
theorem k_feedC {w w' : cWld} {a : Nat} {x1 x2 x3 x4 x5 z r : Int} (h : c_Post k_c129_0 (k_rv [(a : Int), x1, x2, x3, x4, x5, z]) w w' [r]) (hin : c_in w' a 12) : ∃ n, k_fn w' a 12 7 n ∧ ((r = -1 ∧ n = z ∧ 581 ≤ z) ∨ (r = z + 20 ∧ n = z + 20 ∧ z ≤ 580)) := by
  obtain ⟨-, -, d, hd, rr, q1, q2, q3, q4, -⟩ := h
  have e1 : rr 1 = (a : Int) := q1 1 (by decide)
  have f1 : rr 2 = x1 := q1 2 (by decide)
  have f2 : rr 3 = x2 := q1 3 (by decide)
  have f3 : rr 4 = x3 := q1 4 (by decide)
  have f4 : rr 5 = x4 := q1 5 (by decide)
  have f5 : rr 6 = x5 := q1 6 (by decide)
  have e2 : rr 7 = z := q1 7 (by decide)
  have e3 : rr 8 = r := q2 0 _ rfl
  have hd : d ∈ ct_post k_c129_0 := hd
  simp only [ct_post, k_c129_0, List.mem_cons, List.not_mem_nil, or_false] at hd
  rcases hd with rfl | rfl <;>
    (have hc : k_fn w' a 12 7 (rr 9) := k_fnD (b := 0) (q3 0 _ rfl) e1 rfl hin
     simp only [List.forall_mem_cons, c_ev, c_evs, List.not_mem_nil, false_implies, implies_true, and_true, e2, e3, f1, f2, f3, f4, f5] at q4
     exact ⟨rr 9, hc, by omega⟩)
theorem k_feedM {w w' : cWld} {a : Nat} {x1 x2 x3 x4 x5 z r : Int} (h : c_Post k_c236_0 (k_rv [(a : Int), x1, x2, x3, x4, x5, z]) w w' [r]) (hin : c_in w' a 13) : ∃ n, k_fn w' a 13 8 n ∧ ((r = -1 ∧ n = z ∧ 581 ≤ z) ∨ (r = z + 20 ∧ n = z + 20 ∧ z ≤ 580)) := by
  obtain ⟨-, -, d, hd, rr, q1, q2, q3, q4, -⟩ := h
  have e1 : rr 1 = (a : Int) := q1 1 (by decide)
  have f1 : rr 2 = x1 := q1 2 (by decide)
  have f2 : rr 3 = x2 := q1 3 (by decide)
  have f3 : rr 4 = x3 := q1 4 (by decide)
  have f4 : rr 5 = x4 := q1 5 (by decide)
  have f5 : rr 6 = x5 := q1 6 (by decide)
  have e2 : rr 7 = z := q1 7 (by decide)
  have e3 : rr 8 = r := q2 0 _ rfl
  have hd : d ∈ ct_post k_c236_0 := hd
  simp only [ct_post, k_c236_0, List.mem_cons, List.not_mem_nil, or_false] at hd
  rcases hd with rfl | rfl <;>
    (have hc : k_fn w' a 13 8 (rr 9) := k_fnD (b := 0) (q3 0 _ rfl) e1 rfl hin
     simp only [List.forall_mem_cons, c_ev, c_evs, List.not_mem_nil, false_implies, implies_true, and_true, e2, e3, f1, f2, f3, f4, f5] at q4
     exact ⟨rr 9, hc, by omega⟩)
theorem k_landC {w w' : cWld} {a : Nat} {x1 z r : Int} (h : c_Post k_c132_0 (k_rv [(a : Int), x1, z]) w w' [r]) (hin : c_in w' a 12) : ∃ n, k_fn w' a 12 7 n ∧ ((n = 0 ∧ 0 ≤ x1 ∧ x1 ≤ z) ∨ (n = z ∧ (x1 < 0 ∨ z < x1))) := by
  obtain ⟨-, -, d, hd, rr, q1, q2, q3, q4, -⟩ := h
  have e1 : rr 1 = (a : Int) := q1 1 (by decide)
  have f1 : rr 2 = x1 := q1 2 (by decide)
  have e2 : rr 3 = z := q1 3 (by decide)
  have e3 : rr 4 = r := q2 0 _ rfl
  have hd : d ∈ ct_post k_c132_0 := hd
  simp only [ct_post, k_c132_0, List.mem_cons, List.not_mem_nil, or_false] at hd
  rcases hd with rfl | rfl | rfl <;>
    (have hc : k_fn w' a 12 7 (rr 5) := k_fnD (b := 0) (q3 0 _ rfl) e1 rfl hin
     simp only [List.forall_mem_cons, c_ev, c_evs, List.not_mem_nil, false_implies, implies_true, and_true, e2, e3, f1] at q4
     exact ⟨rr 5, hc, by omega⟩)
theorem k_landM {w w' : cWld} {a : Nat} {x1 z r : Int} (h : c_Post k_c250_0 (k_rv [(a : Int), x1, 0, z]) w w' [r]) (hin : c_in w' a 13) : ∃ n, k_fn w' a 13 8 n ∧ ((n = 0 ∧ 0 ≤ x1 ∧ x1 ≤ z) ∨ (n = z ∧ (x1 < 0 ∨ z < x1))) := by
  obtain ⟨-, -, d, hd, rr, q1, q2, q3, q4, -⟩ := h
  have e1 : rr 1 = (a : Int) := q1 1 (by decide)
  have f1 : rr 2 = x1 := q1 2 (by decide)
  have e2 : rr 4 = z := q1 4 (by decide)
  have e3 : rr 5 = r := q2 0 _ rfl
  have hd : d ∈ ct_post k_c250_0 := hd
  simp only [ct_post, k_c250_0, List.mem_cons, List.not_mem_nil, or_false] at hd
  rcases hd with rfl | rfl | rfl <;>
    (have hc : k_fn w' a 13 8 (rr 7) := k_fnD (b := 0) (q3 1 _ rfl) e1 rfl hin
     simp only [List.forall_mem_cons, c_ev, c_evs, List.not_mem_nil, false_implies, implies_true, and_true, e2, e3, f1] at q4
     exact ⟨rr 7, hc, by omega⟩)
theorem k_waysC {w w' : cWld} {a : Nat} {x1 z r : Int} (h : c_Post k_c190_0 (k_rv [(a : Int), x1, z]) w w' [r]) (hin : c_in w' a 12) : ∃ n, k_fn w' a 12 7 n ∧ ((n = 0 ∧ 0 ≤ x1 ∧ x1 ≤ z ∧ x1 ≤ 300) ∨ (n = z ∧ (x1 < 0 ∨ z < x1 ∨ 300 < x1))) := by
  obtain ⟨-, -, d, hd, rr, q1, q2, q3, q4, -⟩ := h
  have e1 : rr 1 = (a : Int) := q1 1 (by decide)
  have f1 : rr 2 = x1 := q1 2 (by decide)
  have e2 : rr 3 = z := q1 3 (by decide)
  have e3 : rr 4 = r := q2 0 _ rfl
  have hd : d ∈ ct_post k_c190_0 := hd
  simp only [ct_post, k_c190_0, List.mem_cons, List.not_mem_nil, or_false] at hd
  rcases hd with rfl | rfl | rfl | rfl <;>
    (have hc : k_fn w' a 12 7 (rr 5) := k_fnD (b := 0) (q3 0 _ rfl) e1 rfl hin
     simp only [List.forall_mem_cons, c_ev, c_evs, List.not_mem_nil, false_implies, implies_true, and_true, e2, e3, f1] at q4
     exact ⟨rr 5, hc, by omega⟩)
theorem k_waysM {w w' : cWld} {a : Nat} {x1 z r : Int} (h : c_Post k_c325_0 (k_rv [(a : Int), x1, z]) w w' [r]) (hin : c_in w' a 13) : ∃ n, k_fn w' a 13 8 n ∧ ((n = 0 ∧ 0 ≤ x1 ∧ x1 ≤ z ∧ x1 ≤ 300) ∨ (n = z ∧ (x1 < 0 ∨ z < x1 ∨ 300 < x1))) := by
  obtain ⟨-, -, d, hd, rr, q1, q2, q3, q4, -⟩ := h
  have e1 : rr 1 = (a : Int) := q1 1 (by decide)
  have f1 : rr 2 = x1 := q1 2 (by decide)
  have e2 : rr 3 = z := q1 3 (by decide)
  have e3 : rr 4 = r := q2 0 _ rfl
  have hd : d ∈ ct_post k_c325_0 := hd
  simp only [ct_post, k_c325_0, List.mem_cons, List.not_mem_nil, or_false] at hd
  rcases hd with rfl | rfl | rfl | rfl <;>
    (have hc : k_fn w' a 13 8 (rr 5) := k_fnD (b := 0) (q3 0 _ rfl) e1 rfl hin
     simp only [List.forall_mem_cons, c_ev, c_evs, List.not_mem_nil, false_implies, implies_true, and_true, e2, e3, f1] at q4
     exact ⟨rr 5, hc, by omega⟩)
theorem k_lineC {w w' : cWld} {a : Nat} {x1 z r : Int} (h : c_Post k_c193_0 (k_rv [(a : Int), x1, z]) w w' [r]) (hin : c_in w' a 12) : ∃ n, k_fn w' a 12 7 n ∧ ((n = 0 ∧ 0 ≤ x1 ∧ x1 ≤ z ∧ x1 ≤ 300) ∨ (n = z ∧ (x1 < 0 ∨ z < x1 ∨ 300 < x1))) := by
  obtain ⟨-, -, d, hd, rr, q1, q2, q3, q4, -⟩ := h
  have e1 : rr 1 = (a : Int) := q1 1 (by decide)
  have f1 : rr 2 = x1 := q1 2 (by decide)
  have e2 : rr 3 = z := q1 3 (by decide)
  have e3 : rr 4 = r := q2 0 _ rfl
  have hd : d ∈ ct_post k_c193_0 := hd
  simp only [ct_post, k_c193_0, List.mem_cons, List.not_mem_nil, or_false] at hd
  rcases hd with rfl | rfl | rfl | rfl <;>
    (have hc : k_fn w' a 12 7 (rr 5) := k_fnD (b := 0) (q3 0 _ rfl) e1 rfl hin
     simp only [List.forall_mem_cons, c_ev, c_evs, List.not_mem_nil, false_implies, implies_true, and_true, e2, e3, f1] at q4
     exact ⟨rr 5, hc, by omega⟩)
theorem k_lineM {w w' : cWld} {a : Nat} {x1 z r : Int} (h : c_Post k_c346_0 (k_rv [(a : Int), x1, 0, z]) w w' [r]) (hin : c_in w' a 13) : ∃ n, k_fn w' a 13 8 n ∧ ((n = 0 ∧ 0 ≤ x1 ∧ x1 ≤ z ∧ x1 ≤ 300) ∨ (n = z ∧ (x1 < 0 ∨ z < x1 ∨ 300 < x1))) := by
  obtain ⟨-, -, d, hd, rr, q1, q2, q3, q4, -⟩ := h
  have e1 : rr 1 = (a : Int) := q1 1 (by decide)
  have f1 : rr 2 = x1 := q1 2 (by decide)
  have e2 : rr 4 = z := q1 4 (by decide)
  have e3 : rr 5 = r := q2 0 _ rfl
  have hd : d ∈ ct_post k_c346_0 := hd
  simp only [ct_post, k_c346_0, List.mem_cons, List.not_mem_nil, or_false] at hd
  rcases hd with rfl | rfl | rfl | rfl <;>
    (have hc : k_fn w' a 13 8 (rr 7) := k_fnD (b := 0) (q3 1 _ rfl) e1 rfl hin
     simp only [List.forall_mem_cons, c_ev, c_evs, List.not_mem_nil, false_implies, implies_true, and_true, e2, e3, f1] at q4
     exact ⟨rr 7, hc, by omega⟩)
theorem t_pm129_0 : t_c129_0 ∈ t_P.2.1 129 := by
  have h : t_P.2.1 129 = [t_c129_0, t_c129_1] := by rfl
  rw [h]
  exact List.mem_cons_self
theorem t_pm129_1 : t_c129_1 ∈ t_P.2.1 129 := by
  have h : t_P.2.1 129 = [t_c129_0, t_c129_1] := by rfl
  rw [h]
  exact List.mem_cons_of_mem _ (List.mem_cons_self)
theorem t_pm236_0 : t_c236_0 ∈ t_P.2.1 236 := by
  have h : t_P.2.1 236 = [t_c236_0, t_c236_1] := by rfl
  rw [h]
  exact List.mem_cons_self
theorem t_pm236_1 : t_c236_1 ∈ t_P.2.1 236 := by
  have h : t_P.2.1 236 = [t_c236_0, t_c236_1] := by rfl
  rw [h]
  exact List.mem_cons_of_mem _ (List.mem_cons_self)
theorem t_pm132_0 : t_c132_0 ∈ t_P.2.1 132 := by
  have h : t_P.2.1 132 = [t_c132_0, t_c132_1, t_c132_2] := by rfl
  rw [h]
  exact List.mem_cons_self
theorem t_pm132_1 : t_c132_1 ∈ t_P.2.1 132 := by
  have h : t_P.2.1 132 = [t_c132_0, t_c132_1, t_c132_2] := by rfl
  rw [h]
  exact List.mem_cons_of_mem _ (List.mem_cons_self)
theorem t_pm132_2 : t_c132_2 ∈ t_P.2.1 132 := by
  have h : t_P.2.1 132 = [t_c132_0, t_c132_1, t_c132_2] := by rfl
  rw [h]
  exact List.mem_cons_of_mem _ (List.mem_cons_of_mem _ (List.mem_cons_self))
theorem t_pm250_0 : t_c250_0 ∈ t_P.2.1 250 := by
  have h : t_P.2.1 250 = [t_c250_0, t_c250_1, t_c250_2] := by rfl
  rw [h]
  exact List.mem_cons_self
theorem t_pm250_1 : t_c250_1 ∈ t_P.2.1 250 := by
  have h : t_P.2.1 250 = [t_c250_0, t_c250_1, t_c250_2] := by rfl
  rw [h]
  exact List.mem_cons_of_mem _ (List.mem_cons_self)
theorem t_pm250_2 : t_c250_2 ∈ t_P.2.1 250 := by
  have h : t_P.2.1 250 = [t_c250_0, t_c250_1, t_c250_2] := by rfl
  rw [h]
  exact List.mem_cons_of_mem _ (List.mem_cons_of_mem _ (List.mem_cons_self))
section FD
variable {s : State} {D : va_G} {dA : Nat → ClassId} {a1 a2 n tp tm rd ke : Nat} {f : Nat → Int} {w w' : cWld} {H H' : Heap} {locs locs' : List Loc}
theorem k_fedC {y1 y2 y3 y4 y5 r9 : Int32} (I : k_In s D dA a1 a2 w H locs) (hin : c_in w a1 12) (hT : k_Tp a1 12 7 6 16 w n tp f) (hf : k_byt f) (hn : n ≤ 580) (I1 : k_In s D dA a1 a2 w' H' locs') (hi1 : c_in w' tp 16) (hj : t_Ex s D dA 129 w [.ref a1, .int y1, .int y2, .int y3, .int y4, .int y5] H' [.int r9]) : ∀ p, p < n + 20 → k_fn w' tp 16 p (t_nf n f y1 y2 y3 y4 y5 p) := by
  have hG : t_G (t_gh (t_nf n f y1 y2 y3 y4 y5, n + 20) (t_sm [(326, (tp : Int)), (347, (n : Int))])) := t_gh_G (by show n + 20 ≤ 600; omega) (t_nfB hf) (fun p hp => t_nfZ (by omega))
  have hTW : c_TW t_K dA (t_Wi w (t_c129_0, k_rv [(a1 : Int), y1.toInt, y2.toInt, y3.toInt, y4.toInt, y5.toInt, 0, (n : Int), (tp : Int), (tp : Int), (n : Int), t_fs y1 24, t_fs y1 16, t_fs y1 8, t_fs y1 0, t_fb y1 24, t_fb y1 16, t_fb y1 8, t_fb y1 0, t_fb y1 24, t_fb y1 16, t_fb y1 8, t_fb y1 0, t_fs y2 24, t_fs y2 16, t_fs y2 8, t_fs y2 0, t_fb y2 24, t_fb y2 16, t_fb y2 8, t_fb y2 0, t_fb y2 24, t_fb y2 16, t_fb y2 8, t_fb y2 0, t_fs y3 24, t_fs y3 16, t_fs y3 8, t_fs y3 0, t_fb y3 24, t_fb y3 16, t_fb y3 8, t_fb y3 0, t_fb y3 24, t_fb y3 16, t_fb y3 8, t_fb y3 0, t_fs y4 24, t_fs y4 16, t_fs y4 8, t_fs y4 0, t_fb y4 24, t_fb y4 16, t_fb y4 8, t_fb y4 0, t_fb y4 24, t_fb y4 16, t_fb y4 8, t_fb y4 0, t_fs y5 24, t_fs y5 16, t_fs y5 8, t_fs y5 0, t_fb y5 24, t_fb y5 16, t_fb y5 8, t_fb y5 0, t_fb y5 24, t_fb y5 16, t_fb y5 8, t_fb y5 0], t_gh (t_nf n f y1 y2 y3 y4 y5, n + 20) (t_sm [(326, (tp : Int)), (347, (n : Int))]))) := t_TW I.2.2.1 _ (t_J0 I.2.1 hG fun m hm a hadr k hk hct => by
    simp only [t_rows, List.mem_cons, List.not_mem_nil, or_false] at hm
    rcases hm with rfl | rfl | rfl | rfl | rfl | rfl | rfl | rfl | rfl | rfl | rfl | rfl | rfl | rfl | rfl
    · have h9 : (k : Int) < c_gv 347 (t_gh _ _ 347) := hct
      rw [t_gh_lo (by omega)] at h9
      have h8 : c_gv 347 (t_sm [(326, (tp : Int)), (347, (n : Int))] 347) = (n : Int) := c_gv_id (by omega) (by show -1099511627776 ≤ (n : Int); omega) (by show (n : Int) ≤ 1099511627776; omega)
      have ha9 : (a : Int) = c_gv 326 (t_gh _ _ 326) := hadr
      rw [t_gh_lo (by omega), c_gv_a (by decide)] at ha9
      have ha9 : (a : Int) = (tp : Int) := ha9
      have ea : a = tp := by omega
      rw [ea]
      have hk9 : k < n := by omega
      have hb := hf k
      show k_fn w tp 16 (0 + k) (c_gv (1208925819614629174706176 + k) (t_gh (t_nf n f y1 y2 y3 y4 y5, n + 20) _ (1208925819614629174706176 + k)))
      rw [t_gh_by (by omega), c_gv_id (by omega) (by show -1099511627776 ≤ t_nf n f y1 y2 y3 y4 y5 k; rw [t_nfL hk9]; omega) (by show t_nf n f y1 y2 y3 y4 y5 k ≤ 1099511627776; rw [t_nfL hk9]; omega), Nat.zero_add]
      show k_fn w tp 16 k (t_nf n f y1 y2 y3 y4 y5 k)
      rw [t_nfL hk9]
      exact hT.2.2.2 k hk9
    · exfalso
      have h9 : (k : Int) < c_gv 320 (t_gh _ _ 320) := hct
      rw [t_gh_lo (by omega)] at h9
      have h8 : c_gv 320 (t_sm [(326, (tp : Int)), (347, (n : Int))] 320) = 0 := by rfl
      omega
    · exfalso
      have h9 : (k : Int) < c_gv 320 (t_gh _ _ 320) := hct
      rw [t_gh_lo (by omega)] at h9
      have h8 : c_gv 320 (t_sm [(326, (tp : Int)), (347, (n : Int))] 320) = 0 := by rfl
      omega
    · exfalso
      have h9 : (k : Int) < c_gv 320 (t_gh _ _ 320) := hct
      rw [t_gh_lo (by omega)] at h9
      have h8 : c_gv 320 (t_sm [(326, (tp : Int)), (347, (n : Int))] 320) = 0 := by rfl
      omega
    · exfalso
      have h9 : (k : Int) < c_gv 320 (t_gh _ _ 320) := hct
      rw [t_gh_lo (by omega)] at h9
      have h8 : c_gv 320 (t_sm [(326, (tp : Int)), (347, (n : Int))] 320) = 0 := by rfl
      omega
    · exfalso
      have h9 : (k : Int) < c_gv 348 (t_gh _ _ 348) := hct
      rw [t_gh_lo (by omega)] at h9
      have h8 : c_gv 348 (t_sm [(326, (tp : Int)), (347, (n : Int))] 348) = 0 := by rfl
      omega
    · exfalso
      have h9 : (k : Int) < c_gv 332 (t_gh _ _ 332) := hct
      rw [t_gh_lo (by omega)] at h9
      have h8 : c_gv 332 (t_sm [(326, (tp : Int)), (347, (n : Int))] 332) = 0 := by rfl
      omega
    · exfalso
      have h9 : (k : Int) < c_gv 333 (t_gh _ _ 333) := hct
      rw [t_gh_lo (by omega)] at h9
      have h8 : c_gv 333 (t_sm [(326, (tp : Int)), (347, (n : Int))] 333) = 0 := by rfl
      omega
    · exfalso
      have h9 : (k : Int) < c_gv 334 (t_gh _ _ 334) := hct
      rw [t_gh_lo (by omega)] at h9
      have h8 : c_gv 334 (t_sm [(326, (tp : Int)), (347, (n : Int))] 334) = 0 := by rfl
      omega
    · exfalso
      have h9 : (k : Int) < c_gv 335 (t_gh _ _ 335) := hct
      rw [t_gh_lo (by omega)] at h9
      have h8 : c_gv 335 (t_sm [(326, (tp : Int)), (347, (n : Int))] 335) = 0 := by rfl
      omega
    · exfalso
      have h9 : (k : Int) < c_gv 349 (t_gh _ _ 349) := hct
      rw [t_gh_lo (by omega)] at h9
      have h8 : c_gv 349 (t_sm [(326, (tp : Int)), (347, (n : Int))] 349) = 0 := by rfl
      omega
    · exfalso
      have h9 : (k : Int) < c_gv 352 (t_gh _ _ 352) := hct
      rw [t_gh_lo (by omega)] at h9
      have h8 : c_gv 352 (t_sm [(326, (tp : Int)), (347, (n : Int))] 352) = 0 := by rfl
      omega
    · exfalso
      have h9 : (k : Int) < c_gv 353 (t_gh _ _ 353) := hct
      rw [t_gh_lo (by omega)] at h9
      have h8 : c_gv 353 (t_sm [(326, (tp : Int)), (347, (n : Int))] 353) = 0 := by rfl
      omega
    · exfalso
      have h9 : (k : Int) < c_gv 354 (t_gh _ _ 354) := hct
      rw [t_gh_lo (by omega)] at h9
      have h8 : c_gv 354 (t_sm [(326, (tp : Int)), (347, (n : Int))] 354) = 0 := by rfl
      omega
    · exfalso
      have h9 : (k : Int) < c_gv 355 (t_gh _ _ 355) := hct
      rw [t_gh_lo (by omega)] at h9
      have h8 : c_gv 355 (t_sm [(326, (tp : Int)), (347, (n : Int))] 355) = 0 := by rfl
      omega)
  have hw : (t_Wi w (t_c129_0, k_rv [(a1 : Int), y1.toInt, y2.toInt, y3.toInt, y4.toInt, y5.toInt, 0, (n : Int), (tp : Int), (tp : Int), (n : Int), t_fs y1 24, t_fs y1 16, t_fs y1 8, t_fs y1 0, t_fb y1 24, t_fb y1 16, t_fb y1 8, t_fb y1 0, t_fb y1 24, t_fb y1 16, t_fb y1 8, t_fb y1 0, t_fs y2 24, t_fs y2 16, t_fs y2 8, t_fs y2 0, t_fb y2 24, t_fb y2 16, t_fb y2 8, t_fb y2 0, t_fb y2 24, t_fb y2 16, t_fb y2 8, t_fb y2 0, t_fs y3 24, t_fs y3 16, t_fs y3 8, t_fs y3 0, t_fb y3 24, t_fb y3 16, t_fb y3 8, t_fb y3 0, t_fb y3 24, t_fb y3 16, t_fb y3 8, t_fb y3 0, t_fs y4 24, t_fs y4 16, t_fs y4 8, t_fs y4 0, t_fb y4 24, t_fb y4 16, t_fb y4 8, t_fb y4 0, t_fb y4 24, t_fb y4 16, t_fb y4 8, t_fb y4 0, t_fs y5 24, t_fs y5 16, t_fs y5 8, t_fs y5 0, t_fb y5 24, t_fb y5 16, t_fb y5 8, t_fb y5 0, t_fb y5 24, t_fb y5 16, t_fb y5 8, t_fb y5 0], t_gh (t_nf n f y1 y2 y3 y4 y5, n + 20) (t_sm [(326, (tp : Int)), (347, (n : Int))]))).2.2 = t_gh (t_nf n f y1 y2 y3 y4 y5, n + 20) (t_sm [(326, (tp : Int)), (347, (n : Int))]) := rfl
  have hpd := k_preD (ct := t_c129_0) (r := k_rv [(a1 : Int), y1.toInt, y2.toInt, y3.toInt, y4.toInt, y5.toInt, 0, (n : Int), (tp : Int), (tp : Int), (n : Int), t_fs y1 24, t_fs y1 16, t_fs y1 8, t_fs y1 0, t_fb y1 24, t_fb y1 16, t_fb y1 8, t_fb y1 0, t_fb y1 24, t_fb y1 16, t_fb y1 8, t_fb y1 0, t_fs y2 24, t_fs y2 16, t_fs y2 8, t_fs y2 0, t_fb y2 24, t_fb y2 16, t_fb y2 8, t_fb y2 0, t_fb y2 24, t_fb y2 16, t_fb y2 8, t_fb y2 0, t_fs y3 24, t_fs y3 16, t_fs y3 8, t_fs y3 0, t_fb y3 24, t_fb y3 16, t_fb y3 8, t_fb y3 0, t_fb y3 24, t_fb y3 16, t_fb y3 8, t_fb y3 0, t_fs y4 24, t_fs y4 16, t_fs y4 8, t_fs y4 0, t_fb y4 24, t_fb y4 16, t_fb y4 8, t_fb y4 0, t_fb y4 24, t_fb y4 16, t_fb y4 8, t_fb y4 0, t_fs y5 24, t_fs y5 16, t_fs y5 8, t_fs y5 0, t_fb y5 24, t_fb y5 16, t_fb y5 8, t_fb y5 0, t_fb y5 24, t_fb y5 16, t_fb y5 8, t_fb y5 0]) (vals := [.ref a1, .int y1, .int y2, .int y3, .int y4, .int y5]) (w := t_Wi w (t_c129_0, k_rv [(a1 : Int), y1.toInt, y2.toInt, y3.toInt, y4.toInt, y5.toInt, 0, (n : Int), (tp : Int), (tp : Int), (n : Int), t_fs y1 24, t_fs y1 16, t_fs y1 8, t_fs y1 0, t_fb y1 24, t_fb y1 16, t_fb y1 8, t_fb y1 0, t_fb y1 24, t_fb y1 16, t_fb y1 8, t_fb y1 0, t_fs y2 24, t_fs y2 16, t_fs y2 8, t_fs y2 0, t_fb y2 24, t_fb y2 16, t_fb y2 8, t_fb y2 0, t_fb y2 24, t_fb y2 16, t_fb y2 8, t_fb y2 0, t_fs y3 24, t_fs y3 16, t_fs y3 8, t_fs y3 0, t_fb y3 24, t_fb y3 16, t_fb y3 8, t_fb y3 0, t_fb y3 24, t_fb y3 16, t_fb y3 8, t_fb y3 0, t_fs y4 24, t_fs y4 16, t_fs y4 8, t_fs y4 0, t_fb y4 24, t_fb y4 16, t_fb y4 8, t_fb y4 0, t_fb y4 24, t_fb y4 16, t_fb y4 8, t_fb y4 0, t_fs y5 24, t_fs y5 16, t_fs y5 8, t_fs y5 0, t_fb y5 24, t_fb y5 16, t_fb y5 8, t_fb y5 0, t_fb y5 24, t_fb y5 16, t_fb y5 8, t_fb y5 0], t_gh (t_nf n f y1 y2 y3 y4 y5, n + 20) (t_sm [(326, (tp : Int)), (347, (n : Int))]))) (by decide +kernel) ⟨(by show (0 : Int) ≤ (0) + ((1) * 0 + (0)); omega), (by show (0 : Int) ≤ (0) + ((-1) * 0 + (0)); omega), (by show (0 : Int) ≤ (0) + ((1) * (tp : Int) + ((-1) * (tp : Int) + (0))); omega), (by show (0 : Int) ≤ (0) + ((-1) * (tp : Int) + ((1) * (tp : Int) + (0))); omega), (by show (0 : Int) ≤ (0) + ((-1) * (n : Int) + ((1) * (n : Int) + (0))); omega), (by show (0 : Int) ≤ (0) + ((1) * (n : Int) + ((-1) * (n : Int) + (0))); omega), (by show (0 : Int) ≤ (0) + ((1) * (n : Int) + (0)); omega), (by show (0 : Int) ≤ (580) + ((-1) * (n : Int) + (0)); omega), (by show (0 : Int) ≤ (0) + ((-1) * t_fb y1 24 + ((1) * t_fb y1 24 + (0))); omega), (by show (0 : Int) ≤ (0) + ((1) * t_fb y1 24 + ((-1) * t_fb y1 24 + (0))); omega), (by show (0 : Int) ≤ (0) + ((-1) * t_fb y1 16 + ((1) * t_fb y1 16 + (0))); omega), (by show (0 : Int) ≤ (0) + ((1) * t_fb y1 16 + ((-1) * t_fb y1 16 + (0))); omega), (by show (0 : Int) ≤ (0) + ((-1) * t_fb y1 8 + ((1) * t_fb y1 8 + (0))); omega), (by show (0 : Int) ≤ (0) + ((1) * t_fb y1 8 + ((-1) * t_fb y1 8 + (0))); omega), (by show (0 : Int) ≤ (0) + ((-1) * t_fb y1 0 + ((1) * t_fb y1 0 + (0))); omega), (by show (0 : Int) ≤ (0) + ((1) * t_fb y1 0 + ((-1) * t_fb y1 0 + (0))); omega), (by show (0 : Int) ≤ (0) + ((-1) * t_fb y2 24 + ((1) * t_fb y2 24 + (0))); omega), (by show (0 : Int) ≤ (0) + ((1) * t_fb y2 24 + ((-1) * t_fb y2 24 + (0))); omega), (by show (0 : Int) ≤ (0) + ((-1) * t_fb y2 16 + ((1) * t_fb y2 16 + (0))); omega), (by show (0 : Int) ≤ (0) + ((1) * t_fb y2 16 + ((-1) * t_fb y2 16 + (0))); omega), (by show (0 : Int) ≤ (0) + ((-1) * t_fb y2 8 + ((1) * t_fb y2 8 + (0))); omega), (by show (0 : Int) ≤ (0) + ((1) * t_fb y2 8 + ((-1) * t_fb y2 8 + (0))); omega), (by show (0 : Int) ≤ (0) + ((-1) * t_fb y2 0 + ((1) * t_fb y2 0 + (0))); omega), (by show (0 : Int) ≤ (0) + ((1) * t_fb y2 0 + ((-1) * t_fb y2 0 + (0))); omega), (by show (0 : Int) ≤ (0) + ((-1) * t_fb y3 24 + ((1) * t_fb y3 24 + (0))); omega), (by show (0 : Int) ≤ (0) + ((1) * t_fb y3 24 + ((-1) * t_fb y3 24 + (0))); omega), (by show (0 : Int) ≤ (0) + ((-1) * t_fb y3 16 + ((1) * t_fb y3 16 + (0))); omega), (by show (0 : Int) ≤ (0) + ((1) * t_fb y3 16 + ((-1) * t_fb y3 16 + (0))); omega), (by show (0 : Int) ≤ (0) + ((-1) * t_fb y3 8 + ((1) * t_fb y3 8 + (0))); omega), (by show (0 : Int) ≤ (0) + ((1) * t_fb y3 8 + ((-1) * t_fb y3 8 + (0))); omega), (by show (0 : Int) ≤ (0) + ((-1) * t_fb y3 0 + ((1) * t_fb y3 0 + (0))); omega), (by show (0 : Int) ≤ (0) + ((1) * t_fb y3 0 + ((-1) * t_fb y3 0 + (0))); omega), (by show (0 : Int) ≤ (0) + ((-1) * t_fb y4 24 + ((1) * t_fb y4 24 + (0))); omega), (by show (0 : Int) ≤ (0) + ((1) * t_fb y4 24 + ((-1) * t_fb y4 24 + (0))); omega), (by show (0 : Int) ≤ (0) + ((-1) * t_fb y4 16 + ((1) * t_fb y4 16 + (0))); omega), (by show (0 : Int) ≤ (0) + ((1) * t_fb y4 16 + ((-1) * t_fb y4 16 + (0))); omega), (by show (0 : Int) ≤ (0) + ((-1) * t_fb y4 8 + ((1) * t_fb y4 8 + (0))); omega), (by show (0 : Int) ≤ (0) + ((1) * t_fb y4 8 + ((-1) * t_fb y4 8 + (0))); omega), (by show (0 : Int) ≤ (0) + ((-1) * t_fb y4 0 + ((1) * t_fb y4 0 + (0))); omega), (by show (0 : Int) ≤ (0) + ((1) * t_fb y4 0 + ((-1) * t_fb y4 0 + (0))); omega), (by show (0 : Int) ≤ (0) + ((-1) * t_fb y5 24 + ((1) * t_fb y5 24 + (0))); omega), (by show (0 : Int) ≤ (0) + ((1) * t_fb y5 24 + ((-1) * t_fb y5 24 + (0))); omega), (by show (0 : Int) ≤ (0) + ((-1) * t_fb y5 16 + ((1) * t_fb y5 16 + (0))); omega), (by show (0 : Int) ≤ (0) + ((1) * t_fb y5 16 + ((-1) * t_fb y5 16 + (0))); omega), (by show (0 : Int) ≤ (0) + ((-1) * t_fb y5 8 + ((1) * t_fb y5 8 + (0))); omega), (by show (0 : Int) ≤ (0) + ((1) * t_fb y5 8 + ((-1) * t_fb y5 8 + (0))); omega), (by show (0 : Int) ≤ (0) + ((-1) * t_fb y5 0 + ((1) * t_fb y5 0 + (0))); omega), (by show (0 : Int) ≤ (0) + ((1) * t_fb y5 0 + ((-1) * t_fb y5 0 + (0))); omega), (by show (0 : Int) ≤ (3) + (0); omega), trivial⟩ ⟨(k_aR hin), (k_aI _), (k_aI _), (k_aI _), (k_aI _), (k_aI _), trivial⟩ ⟨t_c0 (j := 1) hw (by omega) rfl, k_fnC (b := 0) hT.1 rfl rfl, k_fnC (b := 0) hT.2.1 rfl rfl, t_c0 (j := 326) hw (by omega) rfl, t_c0 (j := 347) hw (by omega) (c_gv_id (by omega) (by show -1099511627776 ≤ (n : Int); omega) (by show (n : Int) ≤ 1099511627776; omega)), t_cS (a := 24) hG hw (by omega) (by omega) rfl, t_cS (a := 16) hG hw (by omega) (by omega) rfl, t_cS (a := 8) hG hw (by omega) (by omega) rfl, t_cS (a := 0) hG hw (by omega) (by omega) rfl, t_cB (x := y1) (a := 24) hG hw rfl, t_cB (x := y1) (a := 16) hG hw rfl, t_cB (x := y1) (a := 8) hG hw rfl, t_cB (x := y1) (a := 0) hG hw rfl, t_cT (d := 0) (n := n) hw (t_nfB hf) (by omega) rfl (by omega) (t_nfA 0 (by omega)), t_cT (d := 1) (n := n) hw (t_nfB hf) (by omega) rfl (by omega) (t_nfA 1 (by omega)), t_cT (d := 2) (n := n) hw (t_nfB hf) (by omega) rfl (by omega) (t_nfA 2 (by omega)), t_cT (d := 3) (n := n) hw (t_nfB hf) (by omega) rfl (by omega) (t_nfA 3 (by omega)), t_cS (a := 24) hG hw (by omega) (by omega) rfl, t_cS (a := 16) hG hw (by omega) (by omega) rfl, t_cS (a := 8) hG hw (by omega) (by omega) rfl, t_cS (a := 0) hG hw (by omega) (by omega) rfl, t_cB (x := y2) (a := 24) hG hw rfl, t_cB (x := y2) (a := 16) hG hw rfl, t_cB (x := y2) (a := 8) hG hw rfl, t_cB (x := y2) (a := 0) hG hw rfl, t_cT (d := 4) (n := n) hw (t_nfB hf) (by omega) rfl (by omega) (t_nfA 4 (by omega)), t_cT (d := 5) (n := n) hw (t_nfB hf) (by omega) rfl (by omega) (t_nfA 5 (by omega)), t_cT (d := 6) (n := n) hw (t_nfB hf) (by omega) rfl (by omega) (t_nfA 6 (by omega)), t_cT (d := 7) (n := n) hw (t_nfB hf) (by omega) rfl (by omega) (t_nfA 7 (by omega)), t_cS (a := 24) hG hw (by omega) (by omega) rfl, t_cS (a := 16) hG hw (by omega) (by omega) rfl, t_cS (a := 8) hG hw (by omega) (by omega) rfl, t_cS (a := 0) hG hw (by omega) (by omega) rfl, t_cB (x := y3) (a := 24) hG hw rfl, t_cB (x := y3) (a := 16) hG hw rfl, t_cB (x := y3) (a := 8) hG hw rfl, t_cB (x := y3) (a := 0) hG hw rfl, t_cT (d := 8) (n := n) hw (t_nfB hf) (by omega) rfl (by omega) (t_nfA 8 (by omega)), t_cT (d := 9) (n := n) hw (t_nfB hf) (by omega) rfl (by omega) (t_nfA 9 (by omega)), t_cT (d := 10) (n := n) hw (t_nfB hf) (by omega) rfl (by omega) (t_nfA 10 (by omega)), t_cT (d := 11) (n := n) hw (t_nfB hf) (by omega) rfl (by omega) (t_nfA 11 (by omega)), t_cS (a := 24) hG hw (by omega) (by omega) rfl, t_cS (a := 16) hG hw (by omega) (by omega) rfl, t_cS (a := 8) hG hw (by omega) (by omega) rfl, t_cS (a := 0) hG hw (by omega) (by omega) rfl, t_cB (x := y4) (a := 24) hG hw rfl, t_cB (x := y4) (a := 16) hG hw rfl, t_cB (x := y4) (a := 8) hG hw rfl, t_cB (x := y4) (a := 0) hG hw rfl, t_cT (d := 12) (n := n) hw (t_nfB hf) (by omega) rfl (by omega) (t_nfA 12 (by omega)), t_cT (d := 13) (n := n) hw (t_nfB hf) (by omega) rfl (by omega) (t_nfA 13 (by omega)), t_cT (d := 14) (n := n) hw (t_nfB hf) (by omega) rfl (by omega) (t_nfA 14 (by omega)), t_cT (d := 15) (n := n) hw (t_nfB hf) (by omega) rfl (by omega) (t_nfA 15 (by omega)), t_cS (a := 24) hG hw (by omega) (by omega) rfl, t_cS (a := 16) hG hw (by omega) (by omega) rfl, t_cS (a := 8) hG hw (by omega) (by omega) rfl, t_cS (a := 0) hG hw (by omega) (by omega) rfl, t_cB (x := y5) (a := 24) hG hw rfl, t_cB (x := y5) (a := 16) hG hw rfl, t_cB (x := y5) (a := 8) hG hw rfl, t_cB (x := y5) (a := 0) hG hw rfl, t_cT (d := 16) (n := n) hw (t_nfB hf) (by omega) rfl (by omega) (t_nfA 16 (by omega)), t_cT (d := 17) (n := n) hw (t_nfB hf) (by omega) rfl (by omega) (t_nfA 17 (by omega)), t_cT (d := 18) (n := n) hw (t_nfB hf) (by omega) rfl (by omega) (t_nfA 18 (by omega)), t_cT (d := 19) (n := n) hw (t_nfB hf) (by omega) rfl (by omega) (t_nfA 19 (by omega)), trivial⟩
  obtain ⟨rv2, res2, w2, -, -, hp, q1, q2, q3⟩ := hj (t_c129_0, k_rv [(a1 : Int), y1.toInt, y2.toInt, y3.toInt, y4.toInt, y5.toInt, 0, (n : Int), (tp : Int), (tp : Int), (n : Int), t_fs y1 24, t_fs y1 16, t_fs y1 8, t_fs y1 0, t_fb y1 24, t_fb y1 16, t_fb y1 8, t_fb y1 0, t_fb y1 24, t_fb y1 16, t_fb y1 8, t_fb y1 0, t_fs y2 24, t_fs y2 16, t_fs y2 8, t_fs y2 0, t_fb y2 24, t_fb y2 16, t_fb y2 8, t_fb y2 0, t_fb y2 24, t_fb y2 16, t_fb y2 8, t_fb y2 0, t_fs y3 24, t_fs y3 16, t_fs y3 8, t_fs y3 0, t_fb y3 24, t_fb y3 16, t_fb y3 8, t_fb y3 0, t_fb y3 24, t_fb y3 16, t_fb y3 8, t_fb y3 0, t_fs y4 24, t_fs y4 16, t_fs y4 8, t_fs y4 0, t_fb y4 24, t_fb y4 16, t_fb y4 8, t_fb y4 0, t_fb y4 24, t_fb y4 16, t_fb y4 8, t_fb y4 0, t_fs y5 24, t_fs y5 16, t_fs y5 8, t_fs y5 0, t_fb y5 24, t_fb y5 16, t_fb y5 8, t_fb y5 0, t_fb y5 24, t_fb y5 16, t_fb y5 8, t_fb y5 0], t_gh (t_nf n f y1 y2 y3 y4 y5, n + 20) (t_sm [(326, (tp : Int)), (347, (n : Int))])) t_pm129_0 rfl rfl hpd.1 hpd.2 hTW
  obtain ⟨he, -, d, hd, r', b1, b2, b3, b4, -⟩ := hp
  have hd : d ∈ ct_post t_c129_0 := hd
  simp only [ct_post, t_c129_0, List.mem_cons, List.not_mem_nil, or_false] at hd
  subst hd
  have e8 : r' 8 = (n : Int) := b1 8 (by decide)
  obtain ⟨j9, u1, u2⟩ := b3 1 _ rfl
  have u1 : (347 : Int) + 0 = (j9 : Int) := u1
  have ej : j9 = 347 := by omega
  subst ej
  have u2 : c_gv 347 (w2.2.2 347) = r' 74 := u2
  simp only [List.forall_mem_cons, c_ev, c_evs, List.not_mem_nil, false_implies, implies_true, and_true, e8] at b4
  obtain ⟨e0, g1, g2⟩ := hT.2.2.1
  obtain ⟨e1, g3, g4⟩ := he.1 _ g1
  have htag : w2.1 tp = 16 := by
    rcases g4 with ⟨g4, -⟩ | g4
    · exact g4.trans g2
    · cases g4
  have hJ : t_J t_G t_rows t_ctags 16 tp (c_rd e1) w2.2.2 := by
    have h9 := (q3 _ g3).2.2.2
    dsimp only at h9
    rw [htag] at h9
    exact h9
  have k1 : w2.2.2 1 = 0 := (he.2 1 (c_off_ok (lo := 1) (hi := 1) (by decide +kernel) (by omega) (by omega))).trans rfl
  obtain ⟨-, hrow⟩ := hJ (by decide +kernel) (by rw [k1]; omega)
  have kA : w2.2.2 326 = (tp : Int) := (he.2 326 (c_off_ok (lo := 326) (hi := 326) (by decide +kernel) (by omega) (by omega))).trans rfl
  intro p hp
  have kB : w2.2.2 (1208925819614629174706176 + p) = t_nf n f y1 y2 y3 y4 y5 p := (he.2 _ (c_off_ok (lo := 1208925819614629174706176) (hi := 1208925819614629174707198) (by decide +kernel) (by omega) (by omega))).trans (t_gh_by (X := (t_nf n f y1 y2 y3 y4 y5, n + 20)) (by omega))
  have hb := t_nfB (n := n) (y1 := y1) (y2 := y2) (y3 := y3) (y4 := y4) (y5 := y5) hf p
  obtain ⟨v, v1, v2⟩ := hrow (16, 326, 0, 1208925819614629174706176, 347, 600) (List.mem_cons_self) rfl (by show (tp : Int) = c_gv 326 (w2.2.2 326); rw [kA, c_gv_a (by decide)]) p (by show p < 600; omega) (by show (p : Int) < c_gv 347 (w2.2.2 347); rw [u2]; omega)
  have v2 : c_num v = c_gv (1208925819614629174706176 + p) (w2.2.2 (1208925819614629174706176 + p)) := v2
  rw [kB, c_gv_id (by omega) (by omega) (by omega)] at v2
  have v1 : c_rd e1 (0 + p) = some v := v1
  rw [Nat.zero_add] at v1
  exact t_back I1.1 q1 I1.2.2.1 q3 hi1 (by decide +kernel) ⟨e1, v, g3, htag, v1, v2⟩
theorem k_fdhC {y1 y2 y3 y4 y5 r9 : Int32} (I : k_In s D dA a1 a2 w H locs) (hin : c_in w a1 12) (hT : k_Tp a1 12 7 6 16 w n tp f) (hn : 581 ≤ n) (I1 : k_In s D dA a1 a2 w' H' locs') (hi1 : c_in w' tp 16) (hj : t_Ex s D dA 129 w [.ref a1, .int y1, .int y2, .int y3, .int y4, .int y5] H' [.int r9]) : ∀ p, p < n → k_fn w' tp 16 p (f p) := by
  have hTW : c_TW t_K dA (t_Wi w (t_c129_1, k_rv [(a1 : Int), y1.toInt, y2.toInt, y3.toInt, y4.toInt, y5.toInt, (n : Int)], (t_gh ((fun _ => 0, 0) : t_X0) (fun _ => 0)))) := t_TW I.2.2.1 _ (t_J00 I.2.1)
  have hpd := k_preD (ct := t_c129_1) (r := k_rv [(a1 : Int), y1.toInt, y2.toInt, y3.toInt, y4.toInt, y5.toInt, (n : Int)]) (vals := [.ref a1, .int y1, .int y2, .int y3, .int y4, .int y5]) (w := t_Wi w (t_c129_1, k_rv [(a1 : Int), y1.toInt, y2.toInt, y3.toInt, y4.toInt, y5.toInt, (n : Int)], (t_gh ((fun _ => 0, 0) : t_X0) (fun _ => 0)))) (by decide +kernel) ⟨(by show (0 : Int) ≤ (-581) + ((1) * (n : Int) + (0)); omega), (by show (0 : Int) ≤ (2) + (0); omega), trivial⟩ ⟨(k_aR hin), (k_aI _), (k_aI _), (k_aI _), (k_aI _), (k_aI _), trivial⟩ ⟨k_fnC (b := 0) hT.1 rfl rfl, trivial⟩
  obtain ⟨rv2, res2, w2, -, -, hp, q1, q2, q3⟩ := hj (t_c129_1, k_rv [(a1 : Int), y1.toInt, y2.toInt, y3.toInt, y4.toInt, y5.toInt, (n : Int)], (t_gh ((fun _ => 0, 0) : t_X0) (fun _ => 0))) t_pm129_1 rfl rfl hpd.1 hpd.2 hTW
  intro p hp2
  have h1 : k_fn (t_Wi w (t_c129_1, k_rv [(a1 : Int), y1.toInt, y2.toInt, y3.toInt, y4.toInt, y5.toInt, (n : Int)], (t_gh ((fun _ => 0, 0) : t_X0) (fun _ => 0)))) tp 16 p (f p) := hT.2.2.2 p hp2
  exact t_back I1.1 q1 I1.2.2.1 q3 hi1 (by decide +kernel) (k_fnK hp.1 (by decide +kernel) (by decide) (k_none_ok (by decide +kernel) _ _) h1)
theorem k_fedM {y1 y2 y3 y4 y5 r9 : Int32} (I : k_In s D dA a1 a2 w H locs) (hin : c_in w a2 13) (hT : k_Tp a2 13 8 7 62 w n tp f) (hf : k_byt f) (hn : n ≤ 580) (I1 : k_In s D dA a1 a2 w' H' locs') (hi1 : c_in w' tp 62) (hj : t_Ex s D dA 236 w [.ref a2, .int y1, .int y2, .int y3, .int y4, .int y5] H' [.int r9]) : ∀ p, p < n + 20 → k_fn w' tp 62 p (t_nf n f y1 y2 y3 y4 y5 p) := by
  have hG : t_G (t_gh (t_nf n f y1 y2 y3 y4 y5, n + 20) (t_sm [(342, (tp : Int)), (349, (n : Int))])) := t_gh_G (by show n + 20 ≤ 600; omega) (t_nfB hf) (fun p hp => t_nfZ (by omega))
  have hTW : c_TW t_K dA (t_Wi w (t_c236_0, k_rv [(a2 : Int), y1.toInt, y2.toInt, y3.toInt, y4.toInt, y5.toInt, 0, (n : Int), (tp : Int), (tp : Int), (n : Int), t_fs y1 24, t_fs y1 16, t_fs y1 8, t_fs y1 0, t_fb y1 24, t_fb y1 16, t_fb y1 8, t_fb y1 0, t_fb y1 24, t_fb y1 16, t_fb y1 8, t_fb y1 0, t_fs y2 24, t_fs y2 16, t_fs y2 8, t_fs y2 0, t_fb y2 24, t_fb y2 16, t_fb y2 8, t_fb y2 0, t_fb y2 24, t_fb y2 16, t_fb y2 8, t_fb y2 0, t_fs y3 24, t_fs y3 16, t_fs y3 8, t_fs y3 0, t_fb y3 24, t_fb y3 16, t_fb y3 8, t_fb y3 0, t_fb y3 24, t_fb y3 16, t_fb y3 8, t_fb y3 0, t_fs y4 24, t_fs y4 16, t_fs y4 8, t_fs y4 0, t_fb y4 24, t_fb y4 16, t_fb y4 8, t_fb y4 0, t_fb y4 24, t_fb y4 16, t_fb y4 8, t_fb y4 0, t_fs y5 24, t_fs y5 16, t_fs y5 8, t_fs y5 0, t_fb y5 24, t_fb y5 16, t_fb y5 8, t_fb y5 0, t_fb y5 24, t_fb y5 16, t_fb y5 8, t_fb y5 0], t_gh (t_nf n f y1 y2 y3 y4 y5, n + 20) (t_sm [(342, (tp : Int)), (349, (n : Int))]))) := t_TW I.2.2.1 _ (t_J0 I.2.1 hG fun m hm a hadr k hk hct => by
    simp only [t_rows, List.mem_cons, List.not_mem_nil, or_false] at hm
    rcases hm with rfl | rfl | rfl | rfl | rfl | rfl | rfl | rfl | rfl | rfl | rfl | rfl | rfl | rfl | rfl
    · exfalso
      have h9 : (k : Int) < c_gv 347 (t_gh _ _ 347) := hct
      rw [t_gh_lo (by omega)] at h9
      have h8 : c_gv 347 (t_sm [(342, (tp : Int)), (349, (n : Int))] 347) = 0 := by rfl
      omega
    · exfalso
      have h9 : (k : Int) < c_gv 320 (t_gh _ _ 320) := hct
      rw [t_gh_lo (by omega)] at h9
      have h8 : c_gv 320 (t_sm [(342, (tp : Int)), (349, (n : Int))] 320) = 0 := by rfl
      omega
    · exfalso
      have h9 : (k : Int) < c_gv 320 (t_gh _ _ 320) := hct
      rw [t_gh_lo (by omega)] at h9
      have h8 : c_gv 320 (t_sm [(342, (tp : Int)), (349, (n : Int))] 320) = 0 := by rfl
      omega
    · exfalso
      have h9 : (k : Int) < c_gv 320 (t_gh _ _ 320) := hct
      rw [t_gh_lo (by omega)] at h9
      have h8 : c_gv 320 (t_sm [(342, (tp : Int)), (349, (n : Int))] 320) = 0 := by rfl
      omega
    · exfalso
      have h9 : (k : Int) < c_gv 320 (t_gh _ _ 320) := hct
      rw [t_gh_lo (by omega)] at h9
      have h8 : c_gv 320 (t_sm [(342, (tp : Int)), (349, (n : Int))] 320) = 0 := by rfl
      omega
    · exfalso
      have h9 : (k : Int) < c_gv 348 (t_gh _ _ 348) := hct
      rw [t_gh_lo (by omega)] at h9
      have h8 : c_gv 348 (t_sm [(342, (tp : Int)), (349, (n : Int))] 348) = 0 := by rfl
      omega
    · exfalso
      have h9 : (k : Int) < c_gv 332 (t_gh _ _ 332) := hct
      rw [t_gh_lo (by omega)] at h9
      have h8 : c_gv 332 (t_sm [(342, (tp : Int)), (349, (n : Int))] 332) = 0 := by rfl
      omega
    · exfalso
      have h9 : (k : Int) < c_gv 333 (t_gh _ _ 333) := hct
      rw [t_gh_lo (by omega)] at h9
      have h8 : c_gv 333 (t_sm [(342, (tp : Int)), (349, (n : Int))] 333) = 0 := by rfl
      omega
    · exfalso
      have h9 : (k : Int) < c_gv 334 (t_gh _ _ 334) := hct
      rw [t_gh_lo (by omega)] at h9
      have h8 : c_gv 334 (t_sm [(342, (tp : Int)), (349, (n : Int))] 334) = 0 := by rfl
      omega
    · exfalso
      have h9 : (k : Int) < c_gv 335 (t_gh _ _ 335) := hct
      rw [t_gh_lo (by omega)] at h9
      have h8 : c_gv 335 (t_sm [(342, (tp : Int)), (349, (n : Int))] 335) = 0 := by rfl
      omega
    · have h9 : (k : Int) < c_gv 349 (t_gh _ _ 349) := hct
      rw [t_gh_lo (by omega)] at h9
      have h8 : c_gv 349 (t_sm [(342, (tp : Int)), (349, (n : Int))] 349) = (n : Int) := c_gv_id (by omega) (by show -1099511627776 ≤ (n : Int); omega) (by show (n : Int) ≤ 1099511627776; omega)
      have ha9 : (a : Int) = c_gv 342 (t_gh _ _ 342) := hadr
      rw [t_gh_lo (by omega), c_gv_a (by decide)] at ha9
      have ha9 : (a : Int) = (tp : Int) := ha9
      have ea : a = tp := by omega
      rw [ea]
      have hk9 : k < n := by omega
      have hb := hf k
      show k_fn w tp 62 (0 + k) (c_gv (1208925819614629174706176 + k) (t_gh (t_nf n f y1 y2 y3 y4 y5, n + 20) _ (1208925819614629174706176 + k)))
      rw [t_gh_by (by omega), c_gv_id (by omega) (by show -1099511627776 ≤ t_nf n f y1 y2 y3 y4 y5 k; rw [t_nfL hk9]; omega) (by show t_nf n f y1 y2 y3 y4 y5 k ≤ 1099511627776; rw [t_nfL hk9]; omega), Nat.zero_add]
      show k_fn w tp 62 k (t_nf n f y1 y2 y3 y4 y5 k)
      rw [t_nfL hk9]
      exact hT.2.2.2 k hk9
    · exfalso
      have h9 : (k : Int) < c_gv 352 (t_gh _ _ 352) := hct
      rw [t_gh_lo (by omega)] at h9
      have h8 : c_gv 352 (t_sm [(342, (tp : Int)), (349, (n : Int))] 352) = 0 := by rfl
      omega
    · exfalso
      have h9 : (k : Int) < c_gv 353 (t_gh _ _ 353) := hct
      rw [t_gh_lo (by omega)] at h9
      have h8 : c_gv 353 (t_sm [(342, (tp : Int)), (349, (n : Int))] 353) = 0 := by rfl
      omega
    · exfalso
      have h9 : (k : Int) < c_gv 354 (t_gh _ _ 354) := hct
      rw [t_gh_lo (by omega)] at h9
      have h8 : c_gv 354 (t_sm [(342, (tp : Int)), (349, (n : Int))] 354) = 0 := by rfl
      omega
    · exfalso
      have h9 : (k : Int) < c_gv 355 (t_gh _ _ 355) := hct
      rw [t_gh_lo (by omega)] at h9
      have h8 : c_gv 355 (t_sm [(342, (tp : Int)), (349, (n : Int))] 355) = 0 := by rfl
      omega)
  have hw : (t_Wi w (t_c236_0, k_rv [(a2 : Int), y1.toInt, y2.toInt, y3.toInt, y4.toInt, y5.toInt, 0, (n : Int), (tp : Int), (tp : Int), (n : Int), t_fs y1 24, t_fs y1 16, t_fs y1 8, t_fs y1 0, t_fb y1 24, t_fb y1 16, t_fb y1 8, t_fb y1 0, t_fb y1 24, t_fb y1 16, t_fb y1 8, t_fb y1 0, t_fs y2 24, t_fs y2 16, t_fs y2 8, t_fs y2 0, t_fb y2 24, t_fb y2 16, t_fb y2 8, t_fb y2 0, t_fb y2 24, t_fb y2 16, t_fb y2 8, t_fb y2 0, t_fs y3 24, t_fs y3 16, t_fs y3 8, t_fs y3 0, t_fb y3 24, t_fb y3 16, t_fb y3 8, t_fb y3 0, t_fb y3 24, t_fb y3 16, t_fb y3 8, t_fb y3 0, t_fs y4 24, t_fs y4 16, t_fs y4 8, t_fs y4 0, t_fb y4 24, t_fb y4 16, t_fb y4 8, t_fb y4 0, t_fb y4 24, t_fb y4 16, t_fb y4 8, t_fb y4 0, t_fs y5 24, t_fs y5 16, t_fs y5 8, t_fs y5 0, t_fb y5 24, t_fb y5 16, t_fb y5 8, t_fb y5 0, t_fb y5 24, t_fb y5 16, t_fb y5 8, t_fb y5 0], t_gh (t_nf n f y1 y2 y3 y4 y5, n + 20) (t_sm [(342, (tp : Int)), (349, (n : Int))]))).2.2 = t_gh (t_nf n f y1 y2 y3 y4 y5, n + 20) (t_sm [(342, (tp : Int)), (349, (n : Int))]) := rfl
  have hpd := k_preD (ct := t_c236_0) (r := k_rv [(a2 : Int), y1.toInt, y2.toInt, y3.toInt, y4.toInt, y5.toInt, 0, (n : Int), (tp : Int), (tp : Int), (n : Int), t_fs y1 24, t_fs y1 16, t_fs y1 8, t_fs y1 0, t_fb y1 24, t_fb y1 16, t_fb y1 8, t_fb y1 0, t_fb y1 24, t_fb y1 16, t_fb y1 8, t_fb y1 0, t_fs y2 24, t_fs y2 16, t_fs y2 8, t_fs y2 0, t_fb y2 24, t_fb y2 16, t_fb y2 8, t_fb y2 0, t_fb y2 24, t_fb y2 16, t_fb y2 8, t_fb y2 0, t_fs y3 24, t_fs y3 16, t_fs y3 8, t_fs y3 0, t_fb y3 24, t_fb y3 16, t_fb y3 8, t_fb y3 0, t_fb y3 24, t_fb y3 16, t_fb y3 8, t_fb y3 0, t_fs y4 24, t_fs y4 16, t_fs y4 8, t_fs y4 0, t_fb y4 24, t_fb y4 16, t_fb y4 8, t_fb y4 0, t_fb y4 24, t_fb y4 16, t_fb y4 8, t_fb y4 0, t_fs y5 24, t_fs y5 16, t_fs y5 8, t_fs y5 0, t_fb y5 24, t_fb y5 16, t_fb y5 8, t_fb y5 0, t_fb y5 24, t_fb y5 16, t_fb y5 8, t_fb y5 0]) (vals := [.ref a2, .int y1, .int y2, .int y3, .int y4, .int y5]) (w := t_Wi w (t_c236_0, k_rv [(a2 : Int), y1.toInt, y2.toInt, y3.toInt, y4.toInt, y5.toInt, 0, (n : Int), (tp : Int), (tp : Int), (n : Int), t_fs y1 24, t_fs y1 16, t_fs y1 8, t_fs y1 0, t_fb y1 24, t_fb y1 16, t_fb y1 8, t_fb y1 0, t_fb y1 24, t_fb y1 16, t_fb y1 8, t_fb y1 0, t_fs y2 24, t_fs y2 16, t_fs y2 8, t_fs y2 0, t_fb y2 24, t_fb y2 16, t_fb y2 8, t_fb y2 0, t_fb y2 24, t_fb y2 16, t_fb y2 8, t_fb y2 0, t_fs y3 24, t_fs y3 16, t_fs y3 8, t_fs y3 0, t_fb y3 24, t_fb y3 16, t_fb y3 8, t_fb y3 0, t_fb y3 24, t_fb y3 16, t_fb y3 8, t_fb y3 0, t_fs y4 24, t_fs y4 16, t_fs y4 8, t_fs y4 0, t_fb y4 24, t_fb y4 16, t_fb y4 8, t_fb y4 0, t_fb y4 24, t_fb y4 16, t_fb y4 8, t_fb y4 0, t_fs y5 24, t_fs y5 16, t_fs y5 8, t_fs y5 0, t_fb y5 24, t_fb y5 16, t_fb y5 8, t_fb y5 0, t_fb y5 24, t_fb y5 16, t_fb y5 8, t_fb y5 0], t_gh (t_nf n f y1 y2 y3 y4 y5, n + 20) (t_sm [(342, (tp : Int)), (349, (n : Int))]))) (by decide +kernel) ⟨(by show (0 : Int) ≤ (0) + ((1) * 0 + (0)); omega), (by show (0 : Int) ≤ (0) + ((-1) * 0 + (0)); omega), (by show (0 : Int) ≤ (0) + ((1) * (tp : Int) + ((-1) * (tp : Int) + (0))); omega), (by show (0 : Int) ≤ (0) + ((-1) * (tp : Int) + ((1) * (tp : Int) + (0))); omega), (by show (0 : Int) ≤ (0) + ((-1) * (n : Int) + ((1) * (n : Int) + (0))); omega), (by show (0 : Int) ≤ (0) + ((1) * (n : Int) + ((-1) * (n : Int) + (0))); omega), (by show (0 : Int) ≤ (0) + ((1) * (n : Int) + (0)); omega), (by show (0 : Int) ≤ (580) + ((-1) * (n : Int) + (0)); omega), (by show (0 : Int) ≤ (0) + ((-1) * t_fb y1 24 + ((1) * t_fb y1 24 + (0))); omega), (by show (0 : Int) ≤ (0) + ((1) * t_fb y1 24 + ((-1) * t_fb y1 24 + (0))); omega), (by show (0 : Int) ≤ (0) + ((-1) * t_fb y1 16 + ((1) * t_fb y1 16 + (0))); omega), (by show (0 : Int) ≤ (0) + ((1) * t_fb y1 16 + ((-1) * t_fb y1 16 + (0))); omega), (by show (0 : Int) ≤ (0) + ((-1) * t_fb y1 8 + ((1) * t_fb y1 8 + (0))); omega), (by show (0 : Int) ≤ (0) + ((1) * t_fb y1 8 + ((-1) * t_fb y1 8 + (0))); omega), (by show (0 : Int) ≤ (0) + ((-1) * t_fb y1 0 + ((1) * t_fb y1 0 + (0))); omega), (by show (0 : Int) ≤ (0) + ((1) * t_fb y1 0 + ((-1) * t_fb y1 0 + (0))); omega), (by show (0 : Int) ≤ (0) + ((-1) * t_fb y2 24 + ((1) * t_fb y2 24 + (0))); omega), (by show (0 : Int) ≤ (0) + ((1) * t_fb y2 24 + ((-1) * t_fb y2 24 + (0))); omega), (by show (0 : Int) ≤ (0) + ((-1) * t_fb y2 16 + ((1) * t_fb y2 16 + (0))); omega), (by show (0 : Int) ≤ (0) + ((1) * t_fb y2 16 + ((-1) * t_fb y2 16 + (0))); omega), (by show (0 : Int) ≤ (0) + ((-1) * t_fb y2 8 + ((1) * t_fb y2 8 + (0))); omega), (by show (0 : Int) ≤ (0) + ((1) * t_fb y2 8 + ((-1) * t_fb y2 8 + (0))); omega), (by show (0 : Int) ≤ (0) + ((-1) * t_fb y2 0 + ((1) * t_fb y2 0 + (0))); omega), (by show (0 : Int) ≤ (0) + ((1) * t_fb y2 0 + ((-1) * t_fb y2 0 + (0))); omega), (by show (0 : Int) ≤ (0) + ((-1) * t_fb y3 24 + ((1) * t_fb y3 24 + (0))); omega), (by show (0 : Int) ≤ (0) + ((1) * t_fb y3 24 + ((-1) * t_fb y3 24 + (0))); omega), (by show (0 : Int) ≤ (0) + ((-1) * t_fb y3 16 + ((1) * t_fb y3 16 + (0))); omega), (by show (0 : Int) ≤ (0) + ((1) * t_fb y3 16 + ((-1) * t_fb y3 16 + (0))); omega), (by show (0 : Int) ≤ (0) + ((-1) * t_fb y3 8 + ((1) * t_fb y3 8 + (0))); omega), (by show (0 : Int) ≤ (0) + ((1) * t_fb y3 8 + ((-1) * t_fb y3 8 + (0))); omega), (by show (0 : Int) ≤ (0) + ((-1) * t_fb y3 0 + ((1) * t_fb y3 0 + (0))); omega), (by show (0 : Int) ≤ (0) + ((1) * t_fb y3 0 + ((-1) * t_fb y3 0 + (0))); omega), (by show (0 : Int) ≤ (0) + ((-1) * t_fb y4 24 + ((1) * t_fb y4 24 + (0))); omega), (by show (0 : Int) ≤ (0) + ((1) * t_fb y4 24 + ((-1) * t_fb y4 24 + (0))); omega), (by show (0 : Int) ≤ (0) + ((-1) * t_fb y4 16 + ((1) * t_fb y4 16 + (0))); omega), (by show (0 : Int) ≤ (0) + ((1) * t_fb y4 16 + ((-1) * t_fb y4 16 + (0))); omega), (by show (0 : Int) ≤ (0) + ((-1) * t_fb y4 8 + ((1) * t_fb y4 8 + (0))); omega), (by show (0 : Int) ≤ (0) + ((1) * t_fb y4 8 + ((-1) * t_fb y4 8 + (0))); omega), (by show (0 : Int) ≤ (0) + ((-1) * t_fb y4 0 + ((1) * t_fb y4 0 + (0))); omega), (by show (0 : Int) ≤ (0) + ((1) * t_fb y4 0 + ((-1) * t_fb y4 0 + (0))); omega), (by show (0 : Int) ≤ (0) + ((-1) * t_fb y5 24 + ((1) * t_fb y5 24 + (0))); omega), (by show (0 : Int) ≤ (0) + ((1) * t_fb y5 24 + ((-1) * t_fb y5 24 + (0))); omega), (by show (0 : Int) ≤ (0) + ((-1) * t_fb y5 16 + ((1) * t_fb y5 16 + (0))); omega), (by show (0 : Int) ≤ (0) + ((1) * t_fb y5 16 + ((-1) * t_fb y5 16 + (0))); omega), (by show (0 : Int) ≤ (0) + ((-1) * t_fb y5 8 + ((1) * t_fb y5 8 + (0))); omega), (by show (0 : Int) ≤ (0) + ((1) * t_fb y5 8 + ((-1) * t_fb y5 8 + (0))); omega), (by show (0 : Int) ≤ (0) + ((-1) * t_fb y5 0 + ((1) * t_fb y5 0 + (0))); omega), (by show (0 : Int) ≤ (0) + ((1) * t_fb y5 0 + ((-1) * t_fb y5 0 + (0))); omega), (by show (0 : Int) ≤ (3) + (0); omega), trivial⟩ ⟨(k_aR hin), (k_aI _), (k_aI _), (k_aI _), (k_aI _), (k_aI _), trivial⟩ ⟨t_c0 (j := 1) hw (by omega) rfl, k_fnC (b := 0) hT.1 rfl rfl, k_fnC (b := 0) hT.2.1 rfl rfl, t_c0 (j := 342) hw (by omega) rfl, t_c0 (j := 349) hw (by omega) (c_gv_id (by omega) (by show -1099511627776 ≤ (n : Int); omega) (by show (n : Int) ≤ 1099511627776; omega)), t_cS (a := 24) hG hw (by omega) (by omega) rfl, t_cS (a := 16) hG hw (by omega) (by omega) rfl, t_cS (a := 8) hG hw (by omega) (by omega) rfl, t_cS (a := 0) hG hw (by omega) (by omega) rfl, t_cB (x := y1) (a := 24) hG hw rfl, t_cB (x := y1) (a := 16) hG hw rfl, t_cB (x := y1) (a := 8) hG hw rfl, t_cB (x := y1) (a := 0) hG hw rfl, t_cT (d := 0) (n := n) hw (t_nfB hf) (by omega) rfl (by omega) (t_nfA 0 (by omega)), t_cT (d := 1) (n := n) hw (t_nfB hf) (by omega) rfl (by omega) (t_nfA 1 (by omega)), t_cT (d := 2) (n := n) hw (t_nfB hf) (by omega) rfl (by omega) (t_nfA 2 (by omega)), t_cT (d := 3) (n := n) hw (t_nfB hf) (by omega) rfl (by omega) (t_nfA 3 (by omega)), t_cS (a := 24) hG hw (by omega) (by omega) rfl, t_cS (a := 16) hG hw (by omega) (by omega) rfl, t_cS (a := 8) hG hw (by omega) (by omega) rfl, t_cS (a := 0) hG hw (by omega) (by omega) rfl, t_cB (x := y2) (a := 24) hG hw rfl, t_cB (x := y2) (a := 16) hG hw rfl, t_cB (x := y2) (a := 8) hG hw rfl, t_cB (x := y2) (a := 0) hG hw rfl, t_cT (d := 4) (n := n) hw (t_nfB hf) (by omega) rfl (by omega) (t_nfA 4 (by omega)), t_cT (d := 5) (n := n) hw (t_nfB hf) (by omega) rfl (by omega) (t_nfA 5 (by omega)), t_cT (d := 6) (n := n) hw (t_nfB hf) (by omega) rfl (by omega) (t_nfA 6 (by omega)), t_cT (d := 7) (n := n) hw (t_nfB hf) (by omega) rfl (by omega) (t_nfA 7 (by omega)), t_cS (a := 24) hG hw (by omega) (by omega) rfl, t_cS (a := 16) hG hw (by omega) (by omega) rfl, t_cS (a := 8) hG hw (by omega) (by omega) rfl, t_cS (a := 0) hG hw (by omega) (by omega) rfl, t_cB (x := y3) (a := 24) hG hw rfl, t_cB (x := y3) (a := 16) hG hw rfl, t_cB (x := y3) (a := 8) hG hw rfl, t_cB (x := y3) (a := 0) hG hw rfl, t_cT (d := 8) (n := n) hw (t_nfB hf) (by omega) rfl (by omega) (t_nfA 8 (by omega)), t_cT (d := 9) (n := n) hw (t_nfB hf) (by omega) rfl (by omega) (t_nfA 9 (by omega)), t_cT (d := 10) (n := n) hw (t_nfB hf) (by omega) rfl (by omega) (t_nfA 10 (by omega)), t_cT (d := 11) (n := n) hw (t_nfB hf) (by omega) rfl (by omega) (t_nfA 11 (by omega)), t_cS (a := 24) hG hw (by omega) (by omega) rfl, t_cS (a := 16) hG hw (by omega) (by omega) rfl, t_cS (a := 8) hG hw (by omega) (by omega) rfl, t_cS (a := 0) hG hw (by omega) (by omega) rfl, t_cB (x := y4) (a := 24) hG hw rfl, t_cB (x := y4) (a := 16) hG hw rfl, t_cB (x := y4) (a := 8) hG hw rfl, t_cB (x := y4) (a := 0) hG hw rfl, t_cT (d := 12) (n := n) hw (t_nfB hf) (by omega) rfl (by omega) (t_nfA 12 (by omega)), t_cT (d := 13) (n := n) hw (t_nfB hf) (by omega) rfl (by omega) (t_nfA 13 (by omega)), t_cT (d := 14) (n := n) hw (t_nfB hf) (by omega) rfl (by omega) (t_nfA 14 (by omega)), t_cT (d := 15) (n := n) hw (t_nfB hf) (by omega) rfl (by omega) (t_nfA 15 (by omega)), t_cS (a := 24) hG hw (by omega) (by omega) rfl, t_cS (a := 16) hG hw (by omega) (by omega) rfl, t_cS (a := 8) hG hw (by omega) (by omega) rfl, t_cS (a := 0) hG hw (by omega) (by omega) rfl, t_cB (x := y5) (a := 24) hG hw rfl, t_cB (x := y5) (a := 16) hG hw rfl, t_cB (x := y5) (a := 8) hG hw rfl, t_cB (x := y5) (a := 0) hG hw rfl, t_cT (d := 16) (n := n) hw (t_nfB hf) (by omega) rfl (by omega) (t_nfA 16 (by omega)), t_cT (d := 17) (n := n) hw (t_nfB hf) (by omega) rfl (by omega) (t_nfA 17 (by omega)), t_cT (d := 18) (n := n) hw (t_nfB hf) (by omega) rfl (by omega) (t_nfA 18 (by omega)), t_cT (d := 19) (n := n) hw (t_nfB hf) (by omega) rfl (by omega) (t_nfA 19 (by omega)), trivial⟩
  obtain ⟨rv2, res2, w2, -, -, hp, q1, q2, q3⟩ := hj (t_c236_0, k_rv [(a2 : Int), y1.toInt, y2.toInt, y3.toInt, y4.toInt, y5.toInt, 0, (n : Int), (tp : Int), (tp : Int), (n : Int), t_fs y1 24, t_fs y1 16, t_fs y1 8, t_fs y1 0, t_fb y1 24, t_fb y1 16, t_fb y1 8, t_fb y1 0, t_fb y1 24, t_fb y1 16, t_fb y1 8, t_fb y1 0, t_fs y2 24, t_fs y2 16, t_fs y2 8, t_fs y2 0, t_fb y2 24, t_fb y2 16, t_fb y2 8, t_fb y2 0, t_fb y2 24, t_fb y2 16, t_fb y2 8, t_fb y2 0, t_fs y3 24, t_fs y3 16, t_fs y3 8, t_fs y3 0, t_fb y3 24, t_fb y3 16, t_fb y3 8, t_fb y3 0, t_fb y3 24, t_fb y3 16, t_fb y3 8, t_fb y3 0, t_fs y4 24, t_fs y4 16, t_fs y4 8, t_fs y4 0, t_fb y4 24, t_fb y4 16, t_fb y4 8, t_fb y4 0, t_fb y4 24, t_fb y4 16, t_fb y4 8, t_fb y4 0, t_fs y5 24, t_fs y5 16, t_fs y5 8, t_fs y5 0, t_fb y5 24, t_fb y5 16, t_fb y5 8, t_fb y5 0, t_fb y5 24, t_fb y5 16, t_fb y5 8, t_fb y5 0], t_gh (t_nf n f y1 y2 y3 y4 y5, n + 20) (t_sm [(342, (tp : Int)), (349, (n : Int))])) t_pm236_0 rfl rfl hpd.1 hpd.2 hTW
  obtain ⟨he, -, d, hd, r', b1, b2, b3, b4, -⟩ := hp
  have hd : d ∈ ct_post t_c236_0 := hd
  simp only [ct_post, t_c236_0, List.mem_cons, List.not_mem_nil, or_false] at hd
  subst hd
  have e8 : r' 8 = (n : Int) := b1 8 (by decide)
  obtain ⟨j9, u1, u2⟩ := b3 1 _ rfl
  have u1 : (349 : Int) + 0 = (j9 : Int) := u1
  have ej : j9 = 349 := by omega
  subst ej
  have u2 : c_gv 349 (w2.2.2 349) = r' 74 := u2
  simp only [List.forall_mem_cons, c_ev, c_evs, List.not_mem_nil, false_implies, implies_true, and_true, e8] at b4
  obtain ⟨e0, g1, g2⟩ := hT.2.2.1
  obtain ⟨e1, g3, g4⟩ := he.1 _ g1
  have htag : w2.1 tp = 62 := by
    rcases g4 with ⟨g4, -⟩ | g4
    · exact g4.trans g2
    · cases g4
  have hJ : t_J t_G t_rows t_ctags 62 tp (c_rd e1) w2.2.2 := by
    have h9 := (q3 _ g3).2.2.2
    dsimp only at h9
    rw [htag] at h9
    exact h9
  have k1 : w2.2.2 1 = 0 := (he.2 1 (c_off_ok (lo := 1) (hi := 1) (by decide +kernel) (by omega) (by omega))).trans rfl
  obtain ⟨-, hrow⟩ := hJ (by decide +kernel) (by rw [k1]; omega)
  have kA : w2.2.2 342 = (tp : Int) := (he.2 342 (c_off_ok (lo := 342) (hi := 342) (by decide +kernel) (by omega) (by omega))).trans rfl
  intro p hp
  have kB : w2.2.2 (1208925819614629174706176 + p) = t_nf n f y1 y2 y3 y4 y5 p := (he.2 _ (c_off_ok (lo := 1208925819614629174706176) (hi := 1208925819614629174707198) (by decide +kernel) (by omega) (by omega))).trans (t_gh_by (X := (t_nf n f y1 y2 y3 y4 y5, n + 20)) (by omega))
  have hb := t_nfB (n := n) (y1 := y1) (y2 := y2) (y3 := y3) (y4 := y4) (y5 := y5) hf p
  obtain ⟨v, v1, v2⟩ := hrow (62, 342, 0, 1208925819614629174706176, 349, 600) (List.mem_cons_of_mem _ (List.mem_cons_of_mem _ (List.mem_cons_of_mem _ (List.mem_cons_of_mem _ (List.mem_cons_of_mem _ (List.mem_cons_of_mem _ (List.mem_cons_of_mem _ (List.mem_cons_of_mem _ (List.mem_cons_of_mem _ (List.mem_cons_of_mem _ (List.mem_cons_self))))))))))) rfl (by show (tp : Int) = c_gv 342 (w2.2.2 342); rw [kA, c_gv_a (by decide)]) p (by show p < 600; omega) (by show (p : Int) < c_gv 349 (w2.2.2 349); rw [u2]; omega)
  have v2 : c_num v = c_gv (1208925819614629174706176 + p) (w2.2.2 (1208925819614629174706176 + p)) := v2
  rw [kB, c_gv_id (by omega) (by omega) (by omega)] at v2
  have v1 : c_rd e1 (0 + p) = some v := v1
  rw [Nat.zero_add] at v1
  exact t_back I1.1 q1 I1.2.2.1 q3 hi1 (by decide +kernel) ⟨e1, v, g3, htag, v1, v2⟩
theorem k_fdhM {y1 y2 y3 y4 y5 r9 : Int32} (I : k_In s D dA a1 a2 w H locs) (hin : c_in w a2 13) (hT : k_Tp a2 13 8 7 62 w n tp f) (hn : 581 ≤ n) (I1 : k_In s D dA a1 a2 w' H' locs') (hi1 : c_in w' tp 62) (hj : t_Ex s D dA 236 w [.ref a2, .int y1, .int y2, .int y3, .int y4, .int y5] H' [.int r9]) : ∀ p, p < n → k_fn w' tp 62 p (f p) := by
  have hTW : c_TW t_K dA (t_Wi w (t_c236_1, k_rv [(a2 : Int), y1.toInt, y2.toInt, y3.toInt, y4.toInt, y5.toInt, (n : Int)], (t_gh ((fun _ => 0, 0) : t_X0) (fun _ => 0)))) := t_TW I.2.2.1 _ (t_J00 I.2.1)
  have hpd := k_preD (ct := t_c236_1) (r := k_rv [(a2 : Int), y1.toInt, y2.toInt, y3.toInt, y4.toInt, y5.toInt, (n : Int)]) (vals := [.ref a2, .int y1, .int y2, .int y3, .int y4, .int y5]) (w := t_Wi w (t_c236_1, k_rv [(a2 : Int), y1.toInt, y2.toInt, y3.toInt, y4.toInt, y5.toInt, (n : Int)], (t_gh ((fun _ => 0, 0) : t_X0) (fun _ => 0)))) (by decide +kernel) ⟨(by show (0 : Int) ≤ (-581) + ((1) * (n : Int) + (0)); omega), (by show (0 : Int) ≤ (2) + (0); omega), trivial⟩ ⟨(k_aR hin), (k_aI _), (k_aI _), (k_aI _), (k_aI _), (k_aI _), trivial⟩ ⟨k_fnC (b := 0) hT.1 rfl rfl, trivial⟩
  obtain ⟨rv2, res2, w2, -, -, hp, q1, q2, q3⟩ := hj (t_c236_1, k_rv [(a2 : Int), y1.toInt, y2.toInt, y3.toInt, y4.toInt, y5.toInt, (n : Int)], (t_gh ((fun _ => 0, 0) : t_X0) (fun _ => 0))) t_pm236_1 rfl rfl hpd.1 hpd.2 hTW
  intro p hp2
  have h1 : k_fn (t_Wi w (t_c236_1, k_rv [(a2 : Int), y1.toInt, y2.toInt, y3.toInt, y4.toInt, y5.toInt, (n : Int)], (t_gh ((fun _ => 0, 0) : t_X0) (fun _ => 0)))) tp 62 p (f p) := hT.2.2.2 p hp2
  exact t_back I1.1 q1 I1.2.2.1 q3 hi1 (by decide +kernel) (k_fnK hp.1 (by decide +kernel) (by decide) (k_none_ok (by decide +kernel) _ _) h1)
def t_lx (n1 : Nat) (f : Nat → Int) : t_X0 := (fun p => if p < n1 then f p else 0, n1)
def t_lans (n1 : Nat) (f : Nat → Int) : Int := c_gv 39894552047282762765303808 (t_gh (t_lx n1 f) (fun _ => 0) 39894552047282762765303808)
theorem t_lxB {n1 : Nat} {f : Nat → Int} (h : k_byt f) : k_byt (t_lx n1 f).1 := fun p => by
  show -128 ≤ (if p < n1 then f p else 0) ∧ (if p < n1 then f p else 0) ≤ 127
  have := h p
  split <;> omega
theorem t_lxZ {n1 : Nat} {f : Nat → Int} (h : n1 ≤ 600) : ∀ p, 1023 ≤ p → (t_lx n1 f).1 p = 0 := fun p hp => if_neg (by omega)
theorem t_lxL {n1 : Nat} {f : Nat → Int} {p : Nat} (h : p < n1) : (t_lx n1 f).1 p = f p := if_pos h
set_option maxHeartbeats 1000000 in
theorem k_lndC {n1 : Nat} {y1 r9 : Int32} (I : k_In s D dA a1 a2 w H locs) (hin : c_in w a1 12) (hT : k_Tp a1 12 7 6 16 w n tp f) (hy : k_Ky a1 w rd ke) (hf : k_byt f) (hn6 : n ≤ 600) (hn : n1 ≤ n) (hy1 : y1.toInt = (n1 : Int)) (hj : t_Ex s D dA 132 w [.ref a1, .int y1] H' [.int r9]) : r9.toInt = t_lans n1 f := by
  obtain ⟨z1, hsl⟩ := k_fnE (i := 10) I.2.2.1 hin k_sh12 (by decide)
  obtain ⟨sl, rfl, hsl9⟩ := k_fnRf (t' := 3) I.2.2.1 hsl (by decide +kernel)
  obtain ⟨z2, hbk⟩ := k_fnE (i := 9) I.2.2.1 hin k_sh12 (by decide)
  obtain ⟨bk, rfl, hbk9⟩ := k_fnRf (t' := 1) I.2.2.1 hbk (by decide +kernel)
  obtain ⟨z3, hso⟩ := k_fnE (i := 0) (N := 12) (ci := 4) I.2.2.1 hy.2.2.1 (by decide +kernel) (by decide)
  obtain ⟨so, rfl, -⟩ := k_fnRf (t' := 32) I.2.2.1 hso (by decide +kernel)
  obtain ⟨z3, hwn⟩ := k_fnE (i := 1) (N := 12) (ci := 4) I.2.2.1 hy.2.2.1 (by decide +kernel) (by decide)
  obtain ⟨wn, rfl, -⟩ := k_fnRf (t' := 33) I.2.2.1 hwn (by decide +kernel)
  obtain ⟨z3, hpl⟩ := k_fnE (i := 2) (N := 12) (ci := 4) I.2.2.1 hy.2.2.1 (by decide +kernel) (by decide)
  obtain ⟨pl, rfl, -⟩ := k_fnRf (t' := 34) I.2.2.1 hpl (by decide +kernel)
  obtain ⟨z3, hva⟩ := k_fnE (i := 3) (N := 12) (ci := 4) I.2.2.1 hy.2.2.1 (by decide +kernel) (by decide)
  obtain ⟨va, rfl, -⟩ := k_fnRf (t' := 35) I.2.2.1 hva (by decide +kernel)
  obtain ⟨z3, htn⟩ := k_fnE (i := 0) (N := 14) (ci := 2) I.2.2.1 hsl9 (by decide +kernel) (by decide)
  obtain ⟨tnm, rfl, -⟩ := k_fnRf (t' := 76) I.2.2.1 htn (by decide +kernel)
  obtain ⟨z3, hkn⟩ := k_fnE (i := 1) (N := 14) (ci := 2) I.2.2.1 hsl9 (by decide +kernel) (by decide)
  obtain ⟨knm, rfl, -⟩ := k_fnRf (t' := 77) I.2.2.1 hkn (by decide +kernel)
  obtain ⟨z3, hln⟩ := k_fnE (i := 2) (N := 14) (ci := 2) I.2.2.1 hsl9 (by decide +kernel) (by decide)
  obtain ⟨lnm, rfl, -⟩ := k_fnRf (t' := 21) I.2.2.1 hln (by decide +kernel)
  obtain ⟨z3, hbt⟩ := k_fnE (i := 3) (N := 14) (ci := 2) I.2.2.1 hsl9 (by decide +kernel) (by decide)
  obtain ⟨bt, rfl, -⟩ := k_fnRf (t' := 22) I.2.2.1 hbt (by decide +kernel)
  obtain ⟨z3, hbl⟩ := k_fnE (i := 0) (N := 6) (ci := 0) I.2.2.1 hbk9 (by decide +kernel) (by decide)
  obtain ⟨bl, rfl, -⟩ := k_fnRf (t' := 3) I.2.2.1 hbl (by decide +kernel)
  have hG : t_G (t_gh (t_lx n1 f) (t_sm [(326, (tp : Int)), (321, (so : Int)), (322, (pl : Int)), (323, (va : Int)), (324, (wn : Int)), (325, (ke : Int)), (327, (tnm : Int)), (328, (knm : Int)), (329, (lnm : Int)), (338, (bt : Int)), (347, (n1 : Int)), (348, 26)])) := t_gh_G (by show n1 ≤ 600; omega) (t_lxB hf) (t_lxZ (by omega))
  have hTW : c_TW t_K dA (t_Wi w (t_c132_0, k_rv [(a1 : Int), y1.toInt, 0, (n : Int), (rd : Int), (tp : Int), (tp : Int), (n1 : Int), (n1 : Int), (sl : Int), (so : Int), (so : Int), (pl : Int), (pl : Int), (va : Int), (va : Int), (wn : Int), (wn : Int), (ke : Int), (ke : Int), 26, (tnm : Int), (tnm : Int), (knm : Int), (knm : Int), (lnm : Int), (lnm : Int), (bt : Int), (bt : Int), t_lans n1 f, (bk : Int), (bl : Int)], t_gh (t_lx n1 f) (t_sm [(326, (tp : Int)), (321, (so : Int)), (322, (pl : Int)), (323, (va : Int)), (324, (wn : Int)), (325, (ke : Int)), (327, (tnm : Int)), (328, (knm : Int)), (329, (lnm : Int)), (338, (bt : Int)), (347, (n1 : Int)), (348, 26)]))) := t_TW I.2.2.1 _ (t_J0 I.2.1 hG fun m hm a hadr k hk hct => by
    simp only [t_rows, List.mem_cons, List.not_mem_nil, or_false] at hm
    rcases hm with rfl | rfl | rfl | rfl | rfl | rfl | rfl | rfl | rfl | rfl | rfl | rfl | rfl | rfl | rfl
    · have h9 : (k : Int) < c_gv 347 (t_gh _ _ 347) := hct
      rw [t_gh_lo (by omega)] at h9
      have h8 : c_gv 347 (t_sm [(326, (tp : Int)), (321, (so : Int)), (322, (pl : Int)), (323, (va : Int)), (324, (wn : Int)), (325, (ke : Int)), (327, (tnm : Int)), (328, (knm : Int)), (329, (lnm : Int)), (338, (bt : Int)), (347, (n1 : Int)), (348, 26)] 347) = (n1 : Int) := c_gv_id (by omega) (by show -1099511627776 ≤ (n1 : Int); omega) (by show (n1 : Int) ≤ 1099511627776; omega)
      have ha9 : (a : Int) = c_gv 326 (t_gh _ _ 326) := hadr
      rw [t_gh_lo (by omega), c_gv_a (by decide)] at ha9
      have ha9 : (a : Int) = (tp : Int) := ha9
      have ea : a = tp := by omega
      rw [ea]
      have hk9 : k < n1 := by omega
      have hb := hf k
      show k_fn w tp 16 (0 + k) (c_gv (1208925819614629174706176 + k) (t_gh (t_lx n1 f) _ (1208925819614629174706176 + k)))
      rw [t_gh_by (by omega), t_lxL hk9, c_gv_id (by omega) (by omega) (by omega), Nat.zero_add]
      exact hT.2.2.2 k (by omega)
    · exfalso
      have h9 : (k : Int) < c_gv 320 (t_gh _ _ 320) := hct
      rw [t_gh_lo (by omega)] at h9
      have h8 : c_gv 320 (t_sm [(326, (tp : Int)), (321, (so : Int)), (322, (pl : Int)), (323, (va : Int)), (324, (wn : Int)), (325, (ke : Int)), (327, (tnm : Int)), (328, (knm : Int)), (329, (lnm : Int)), (338, (bt : Int)), (347, (n1 : Int)), (348, 26)] 320) = 0 := by rfl
      omega
    · exfalso
      have h9 : (k : Int) < c_gv 320 (t_gh _ _ 320) := hct
      rw [t_gh_lo (by omega)] at h9
      have h8 : c_gv 320 (t_sm [(326, (tp : Int)), (321, (so : Int)), (322, (pl : Int)), (323, (va : Int)), (324, (wn : Int)), (325, (ke : Int)), (327, (tnm : Int)), (328, (knm : Int)), (329, (lnm : Int)), (338, (bt : Int)), (347, (n1 : Int)), (348, 26)] 320) = 0 := by rfl
      omega
    · exfalso
      have h9 : (k : Int) < c_gv 320 (t_gh _ _ 320) := hct
      rw [t_gh_lo (by omega)] at h9
      have h8 : c_gv 320 (t_sm [(326, (tp : Int)), (321, (so : Int)), (322, (pl : Int)), (323, (va : Int)), (324, (wn : Int)), (325, (ke : Int)), (327, (tnm : Int)), (328, (knm : Int)), (329, (lnm : Int)), (338, (bt : Int)), (347, (n1 : Int)), (348, 26)] 320) = 0 := by rfl
      omega
    · exfalso
      have h9 : (k : Int) < c_gv 320 (t_gh _ _ 320) := hct
      rw [t_gh_lo (by omega)] at h9
      have h8 : c_gv 320 (t_sm [(326, (tp : Int)), (321, (so : Int)), (322, (pl : Int)), (323, (va : Int)), (324, (wn : Int)), (325, (ke : Int)), (327, (tnm : Int)), (328, (knm : Int)), (329, (lnm : Int)), (338, (bt : Int)), (347, (n1 : Int)), (348, 26)] 320) = 0 := by rfl
      omega
    · have h9 : (k : Int) < c_gv 348 (t_gh _ _ 348) := hct
      rw [t_gh_lo (by omega)] at h9
      have h8 : c_gv 348 (t_sm [(326, (tp : Int)), (321, (so : Int)), (322, (pl : Int)), (323, (va : Int)), (324, (wn : Int)), (325, (ke : Int)), (327, (tnm : Int)), (328, (knm : Int)), (329, (lnm : Int)), (338, (bt : Int)), (347, (n1 : Int)), (348, 26)] 348) = 26 := rfl
      have ha9 : (a : Int) = c_gv 325 (t_gh _ _ 325) := hadr
      rw [t_gh_lo (by omega), c_gv_a (by decide)] at ha9
      have ha9 : (a : Int) = (ke : Int) := ha9
      have ea : a = ke := by omega
      rw [ea]
      have hk9 : k < 26 := by omega
      have hb := t_nth_keys k
      have e14 : t_gh (t_lx n1 f) (t_sm [(326, (tp : Int)), (321, (so : Int)), (322, (pl : Int)), (323, (va : Int)), (324, (wn : Int)), (325, (ke : Int)), (327, (tnm : Int)), (328, (knm : Int)), (329, (lnm : Int)), (338, (bt : Int)), (347, (n1 : Int)), (348, 26)]) (16924961474604808445886464 + k) = t_nth t_keys k := by
        have := hG.2 14 k 0 0 0 (by omega) (by omega) (by omega) (by omega) (by omega) (by omega)
        exact this
      show k_fn w ke 36 (0 + k) (c_gv (16924961474604808445886464 + k) (t_gh (t_lx n1 f) _ (16924961474604808445886464 + k)))
      rw [e14, c_gv_id (by omega) (by omega) (by omega), Nat.zero_add]
      exact hy.2.2.2.2 k hk9
    · exfalso
      have h9 : (k : Int) < c_gv 332 (t_gh _ _ 332) := hct
      rw [t_gh_lo (by omega)] at h9
      have h8 : c_gv 332 (t_sm [(326, (tp : Int)), (321, (so : Int)), (322, (pl : Int)), (323, (va : Int)), (324, (wn : Int)), (325, (ke : Int)), (327, (tnm : Int)), (328, (knm : Int)), (329, (lnm : Int)), (338, (bt : Int)), (347, (n1 : Int)), (348, 26)] 332) = 0 := by rfl
      omega
    · exfalso
      have h9 : (k : Int) < c_gv 333 (t_gh _ _ 333) := hct
      rw [t_gh_lo (by omega)] at h9
      have h8 : c_gv 333 (t_sm [(326, (tp : Int)), (321, (so : Int)), (322, (pl : Int)), (323, (va : Int)), (324, (wn : Int)), (325, (ke : Int)), (327, (tnm : Int)), (328, (knm : Int)), (329, (lnm : Int)), (338, (bt : Int)), (347, (n1 : Int)), (348, 26)] 333) = 0 := by rfl
      omega
    · exfalso
      have h9 : (k : Int) < c_gv 334 (t_gh _ _ 334) := hct
      rw [t_gh_lo (by omega)] at h9
      have h8 : c_gv 334 (t_sm [(326, (tp : Int)), (321, (so : Int)), (322, (pl : Int)), (323, (va : Int)), (324, (wn : Int)), (325, (ke : Int)), (327, (tnm : Int)), (328, (knm : Int)), (329, (lnm : Int)), (338, (bt : Int)), (347, (n1 : Int)), (348, 26)] 334) = 0 := by rfl
      omega
    · exfalso
      have h9 : (k : Int) < c_gv 335 (t_gh _ _ 335) := hct
      rw [t_gh_lo (by omega)] at h9
      have h8 : c_gv 335 (t_sm [(326, (tp : Int)), (321, (so : Int)), (322, (pl : Int)), (323, (va : Int)), (324, (wn : Int)), (325, (ke : Int)), (327, (tnm : Int)), (328, (knm : Int)), (329, (lnm : Int)), (338, (bt : Int)), (347, (n1 : Int)), (348, 26)] 335) = 0 := by rfl
      omega
    · exfalso
      have h9 : (k : Int) < c_gv 349 (t_gh _ _ 349) := hct
      rw [t_gh_lo (by omega)] at h9
      have h8 : c_gv 349 (t_sm [(326, (tp : Int)), (321, (so : Int)), (322, (pl : Int)), (323, (va : Int)), (324, (wn : Int)), (325, (ke : Int)), (327, (tnm : Int)), (328, (knm : Int)), (329, (lnm : Int)), (338, (bt : Int)), (347, (n1 : Int)), (348, 26)] 349) = 0 := by rfl
      omega
    · exfalso
      have h9 : (k : Int) < c_gv 352 (t_gh _ _ 352) := hct
      rw [t_gh_lo (by omega)] at h9
      have h8 : c_gv 352 (t_sm [(326, (tp : Int)), (321, (so : Int)), (322, (pl : Int)), (323, (va : Int)), (324, (wn : Int)), (325, (ke : Int)), (327, (tnm : Int)), (328, (knm : Int)), (329, (lnm : Int)), (338, (bt : Int)), (347, (n1 : Int)), (348, 26)] 352) = 0 := by rfl
      omega
    · exfalso
      have h9 : (k : Int) < c_gv 353 (t_gh _ _ 353) := hct
      rw [t_gh_lo (by omega)] at h9
      have h8 : c_gv 353 (t_sm [(326, (tp : Int)), (321, (so : Int)), (322, (pl : Int)), (323, (va : Int)), (324, (wn : Int)), (325, (ke : Int)), (327, (tnm : Int)), (328, (knm : Int)), (329, (lnm : Int)), (338, (bt : Int)), (347, (n1 : Int)), (348, 26)] 353) = 0 := by rfl
      omega
    · exfalso
      have h9 : (k : Int) < c_gv 354 (t_gh _ _ 354) := hct
      rw [t_gh_lo (by omega)] at h9
      have h8 : c_gv 354 (t_sm [(326, (tp : Int)), (321, (so : Int)), (322, (pl : Int)), (323, (va : Int)), (324, (wn : Int)), (325, (ke : Int)), (327, (tnm : Int)), (328, (knm : Int)), (329, (lnm : Int)), (338, (bt : Int)), (347, (n1 : Int)), (348, 26)] 354) = 0 := by rfl
      omega
    · exfalso
      have h9 : (k : Int) < c_gv 355 (t_gh _ _ 355) := hct
      rw [t_gh_lo (by omega)] at h9
      have h8 : c_gv 355 (t_sm [(326, (tp : Int)), (321, (so : Int)), (322, (pl : Int)), (323, (va : Int)), (324, (wn : Int)), (325, (ke : Int)), (327, (tnm : Int)), (328, (knm : Int)), (329, (lnm : Int)), (338, (bt : Int)), (347, (n1 : Int)), (348, 26)] 355) = 0 := by rfl
      omega)
  have hw : (t_Wi w (t_c132_0, k_rv [(a1 : Int), y1.toInt, 0, (n : Int), (rd : Int), (tp : Int), (tp : Int), (n1 : Int), (n1 : Int), (sl : Int), (so : Int), (so : Int), (pl : Int), (pl : Int), (va : Int), (va : Int), (wn : Int), (wn : Int), (ke : Int), (ke : Int), 26, (tnm : Int), (tnm : Int), (knm : Int), (knm : Int), (lnm : Int), (lnm : Int), (bt : Int), (bt : Int), t_lans n1 f, (bk : Int), (bl : Int)], t_gh (t_lx n1 f) (t_sm [(326, (tp : Int)), (321, (so : Int)), (322, (pl : Int)), (323, (va : Int)), (324, (wn : Int)), (325, (ke : Int)), (327, (tnm : Int)), (328, (knm : Int)), (329, (lnm : Int)), (338, (bt : Int)), (347, (n1 : Int)), (348, 26)]))).2.2 = t_gh (t_lx n1 f) (t_sm [(326, (tp : Int)), (321, (so : Int)), (322, (pl : Int)), (323, (va : Int)), (324, (wn : Int)), (325, (ke : Int)), (327, (tnm : Int)), (328, (knm : Int)), (329, (lnm : Int)), (338, (bt : Int)), (347, (n1 : Int)), (348, 26)]) := rfl
  have hpd := k_preD (ct := t_c132_0) (r := k_rv [(a1 : Int), y1.toInt, 0, (n : Int), (rd : Int), (tp : Int), (tp : Int), (n1 : Int), (n1 : Int), (sl : Int), (so : Int), (so : Int), (pl : Int), (pl : Int), (va : Int), (va : Int), (wn : Int), (wn : Int), (ke : Int), (ke : Int), 26, (tnm : Int), (tnm : Int), (knm : Int), (knm : Int), (lnm : Int), (lnm : Int), (bt : Int), (bt : Int), t_lans n1 f, (bk : Int), (bl : Int)]) (vals := [.ref a1, .int y1]) (w := t_Wi w (t_c132_0, k_rv [(a1 : Int), y1.toInt, 0, (n : Int), (rd : Int), (tp : Int), (tp : Int), (n1 : Int), (n1 : Int), (sl : Int), (so : Int), (so : Int), (pl : Int), (pl : Int), (va : Int), (va : Int), (wn : Int), (wn : Int), (ke : Int), (ke : Int), 26, (tnm : Int), (tnm : Int), (knm : Int), (knm : Int), (lnm : Int), (lnm : Int), (bt : Int), (bt : Int), t_lans n1 f, (bk : Int), (bl : Int)], t_gh (t_lx n1 f) (t_sm [(326, (tp : Int)), (321, (so : Int)), (322, (pl : Int)), (323, (va : Int)), (324, (wn : Int)), (325, (ke : Int)), (327, (tnm : Int)), (328, (knm : Int)), (329, (lnm : Int)), (338, (bt : Int)), (347, (n1 : Int)), (348, 26)]))) (by decide +kernel) ⟨(by show (0 : Int) ≤ (0) + ((1) * 0 + (0)); omega), (by show (0 : Int) ≤ (0) + ((-1) * 0 + (0)); omega), (by show (0 : Int) ≤ (0) + ((1) * (so : Int) + ((-1) * (so : Int) + (0))); omega), (by show (0 : Int) ≤ (0) + ((-1) * (so : Int) + ((1) * (so : Int) + (0))); omega), (by show (0 : Int) ≤ (0) + ((1) * (pl : Int) + ((-1) * (pl : Int) + (0))); omega), (by show (0 : Int) ≤ (0) + ((-1) * (pl : Int) + ((1) * (pl : Int) + (0))); omega), (by show (0 : Int) ≤ (0) + ((1) * (va : Int) + ((-1) * (va : Int) + (0))); omega), (by show (0 : Int) ≤ (0) + ((-1) * (va : Int) + ((1) * (va : Int) + (0))); omega), (by show (0 : Int) ≤ (0) + ((1) * (wn : Int) + ((-1) * (wn : Int) + (0))); omega), (by show (0 : Int) ≤ (0) + ((-1) * (wn : Int) + ((1) * (wn : Int) + (0))); omega), (by show (0 : Int) ≤ (0) + ((1) * (ke : Int) + ((-1) * (ke : Int) + (0))); omega), (by show (0 : Int) ≤ (0) + ((-1) * (ke : Int) + ((1) * (ke : Int) + (0))); omega), (by show (0 : Int) ≤ (-26) + ((1) * 26 + (0)); omega), (by show (0 : Int) ≤ (26) + ((-1) * 26 + (0)); omega), (by show (0 : Int) ≤ (0) + ((1) * (tp : Int) + ((-1) * (tp : Int) + (0))); omega), (by show (0 : Int) ≤ (0) + ((-1) * (tp : Int) + ((1) * (tp : Int) + (0))); omega), (by show (0 : Int) ≤ (0) + ((1) * (n1 : Int) + ((-1) * (n1 : Int) + (0))); omega), (by show (0 : Int) ≤ (0) + ((1) * y1.toInt + ((-1) * (n1 : Int) + (0))); omega), (by show (0 : Int) ≤ (0) + ((-1) * y1.toInt + ((1) * (n1 : Int) + (0))); omega), (by show (0 : Int) ≤ (0) + ((-1) * y1.toInt + ((1) * (n : Int) + (0))); omega), (by show (0 : Int) ≤ (0) + ((1) * y1.toInt + (0)); omega), (by show (0 : Int) ≤ (0) + ((1) * (tnm : Int) + ((-1) * (tnm : Int) + (0))); omega), (by show (0 : Int) ≤ (0) + ((-1) * (tnm : Int) + ((1) * (tnm : Int) + (0))); omega), (by show (0 : Int) ≤ (0) + ((1) * (knm : Int) + ((-1) * (knm : Int) + (0))); omega), (by show (0 : Int) ≤ (0) + ((-1) * (knm : Int) + ((1) * (knm : Int) + (0))); omega), (by show (0 : Int) ≤ (0) + ((1) * (lnm : Int) + ((-1) * (lnm : Int) + (0))); omega), (by show (0 : Int) ≤ (0) + ((-1) * (lnm : Int) + ((1) * (lnm : Int) + (0))); omega), (by show (0 : Int) ≤ (0) + ((1) * (bt : Int) + ((-1) * (bt : Int) + (0))); omega), (by show (0 : Int) ≤ (0) + ((-1) * (bt : Int) + ((1) * (bt : Int) + (0))); omega), (by show (0 : Int) ≤ (34) + (0); omega), trivial⟩ ⟨(k_aR hin), (k_aI _), trivial⟩ ⟨t_c0 (j := 1) hw (by omega) rfl, k_fnC (b := 0) hT.1 rfl rfl, k_fnC (b := 0) hy.1 rfl rfl, k_fnC (b := 0) hT.2.1 rfl rfl, t_c0 (j := 326) hw (by omega) rfl, t_c0 (j := 347) hw (by omega) (c_gv_id (by omega) (by show -1099511627776 ≤ (n1 : Int); omega) (by show (n1 : Int) ≤ 1099511627776; omega)), t_cN hw (by show n1 ≤ 600; omega), k_fnC (b := 0) hsl rfl rfl, k_fnC (b := 4) hso rfl rfl, t_c0 (j := 321) hw (by omega) rfl, k_fnC (b := 4) hpl rfl rfl, t_c0 (j := 322) hw (by omega) rfl, k_fnC (b := 4) hva rfl rfl, t_c0 (j := 323) hw (by omega) rfl, k_fnC (b := 4) hwn rfl rfl, t_c0 (j := 324) hw (by omega) rfl, k_fnC (b := 4) hy.2.1 rfl rfl, t_c0 (j := 325) hw (by omega) rfl, t_c0 (j := 348) hw (by omega) rfl, k_fnC (b := 9) htn rfl rfl, t_c0 (j := 327) hw (by omega) rfl, k_fnC (b := 9) hkn rfl rfl, t_c0 (j := 328) hw (by omega) rfl, k_fnC (b := 9) hln rfl rfl, t_c0 (j := 329) hw (by omega) rfl, k_fnC (b := 9) hbt rfl rfl, t_c0 (j := 338) hw (by omega) rfl, t_cA hw 39894552047282762765303808 (by omega), k_fnC (b := 0) hbk rfl rfl, k_fnC (b := 30) hbl rfl rfl, trivial⟩
  obtain ⟨rv2, res2, w2, hh, hrt, hp, q1, q2, q3⟩ := hj (t_c132_0, k_rv [(a1 : Int), y1.toInt, 0, (n : Int), (rd : Int), (tp : Int), (tp : Int), (n1 : Int), (n1 : Int), (sl : Int), (so : Int), (so : Int), (pl : Int), (pl : Int), (va : Int), (va : Int), (wn : Int), (wn : Int), (ke : Int), (ke : Int), 26, (tnm : Int), (tnm : Int), (knm : Int), (knm : Int), (lnm : Int), (lnm : Int), (bt : Int), (bt : Int), t_lans n1 f, (bk : Int), (bl : Int)], t_gh (t_lx n1 f) (t_sm [(326, (tp : Int)), (321, (so : Int)), (322, (pl : Int)), (323, (va : Int)), (324, (wn : Int)), (325, (ke : Int)), (327, (tnm : Int)), (328, (knm : Int)), (329, (lnm : Int)), (338, (bt : Int)), (347, (n1 : Int)), (348, 26)])) t_pm132_0 rfl rfl hpd.1 hpd.2 hTW
  obtain ⟨x9, rfl, rfl⟩ : ∃ x : Int32, rv2 = [.int x] ∧ res2 = [x.toInt] := hrt
  have hx : x9 = r9 := by
    have hh : some (Value.int x9) = some (Value.int r9) := hh
    injection hh with hh
    injection hh
  subst hx
  obtain ⟨he, -, d, hd, r', b1, b2, b3, b4, -⟩ := hp
  have hd : d ∈ ct_post t_c132_0 := hd
  have ea : r' 30 = t_lans n1 f := b1 30 (by decide)
  have er : r' 33 = x9.toInt := b2 0 _ rfl
  simp only [ct_post, t_c132_0, List.mem_cons, List.not_mem_nil, or_false] at hd
  rcases hd with rfl | rfl <;>
    (simp only [List.forall_mem_cons, c_ev, c_evs, List.not_mem_nil, false_implies, implies_true, and_true, ea, er] at b4
     omega)
theorem k_lndCL {y1 r9 : Int32} (I : k_In s D dA a1 a2 w H locs) (hin : c_in w a1 12) (hT : k_Tp a1 12 7 6 16 w n tp f) (hy1 : y1.toInt < 0) (hj : t_Ex s D dA 132 w [.ref a1, .int y1] H' [.int r9]) : r9.toInt = -1 := by
  have hTW : c_TW t_K dA (t_Wi w (t_c132_1, k_rv [(a1 : Int), y1.toInt], (t_gh ((fun _ => 0, 0) : t_X0) (fun _ => 0)))) := t_TW I.2.2.1 _ (t_J00 I.2.1)
  have hpd := k_preD (ct := t_c132_1) (r := k_rv [(a1 : Int), y1.toInt]) (vals := [.ref a1, .int y1]) (w := t_Wi w (t_c132_1, k_rv [(a1 : Int), y1.toInt], (t_gh ((fun _ => 0, 0) : t_X0) (fun _ => 0)))) (by decide +kernel) ⟨(by show (0 : Int) ≤ (3) + (0); omega), trivial⟩ ⟨(k_aR hin), ⟨_, rfl, rfl, (by have := y1.le_toInt; show (-2147483648 : Int) ≤ y1.toInt; omega), (by show y1.toInt ≤ (-1 : Int); omega)⟩, trivial⟩ trivial
  obtain ⟨rv2, res2, w2, hh, hrt, hp, q1, q2, q3⟩ := hj (t_c132_1, k_rv [(a1 : Int), y1.toInt], (t_gh ((fun _ => 0, 0) : t_X0) (fun _ => 0))) t_pm132_1 rfl rfl hpd.1 hpd.2 hTW
  obtain ⟨x9, rfl, rfl⟩ : ∃ x : Int32, rv2 = [.int x] ∧ res2 = [x.toInt] := hrt
  have hx : x9 = r9 := by
    have hh : some (Value.int x9) = some (Value.int r9) := hh
    injection hh with hh
    injection hh
  subst hx
  obtain ⟨he, -, d, hd, r', b1, b2, b3, b4, -⟩ := hp
  have hd : d ∈ ct_post t_c132_1 := hd
  have er : r' 3 = x9.toInt := b2 0 _ rfl
  simp only [ct_post, t_c132_1, List.mem_cons, List.not_mem_nil, or_false] at hd
  subst hd
  simp only [List.forall_mem_cons, c_ev, c_evs, List.not_mem_nil, false_implies, implies_true, and_true, er] at b4
  omega
theorem k_lndCH {y1 r9 : Int32} (I : k_In s D dA a1 a2 w H locs) (hin : c_in w a1 12) (hT : k_Tp a1 12 7 6 16 w n tp f) (hy1 : (n : Int) < y1.toInt) (hj : t_Ex s D dA 132 w [.ref a1, .int y1] H' [.int r9]) : r9.toInt = -1 := by
  have hTW : c_TW t_K dA (t_Wi w (t_c132_2, k_rv [(a1 : Int), y1.toInt, (n : Int)], (t_gh ((fun _ => 0, 0) : t_X0) (fun _ => 0)))) := t_TW I.2.2.1 _ (t_J00 I.2.1)
  have hpd := k_preD (ct := t_c132_2) (r := k_rv [(a1 : Int), y1.toInt, (n : Int)]) (vals := [.ref a1, .int y1]) (w := t_Wi w (t_c132_2, k_rv [(a1 : Int), y1.toInt, (n : Int)], (t_gh ((fun _ => 0, 0) : t_X0) (fun _ => 0)))) (by decide +kernel) ⟨(by show (0 : Int) ≤ (-1) + ((1) * y1.toInt + ((-1) * (n : Int) + (0))); omega), (by show (0 : Int) ≤ (3) + (0); omega), trivial⟩ ⟨(k_aR hin), (k_aI _), trivial⟩ ⟨k_fnC (b := 0) hT.1 rfl rfl, trivial⟩
  obtain ⟨rv2, res2, w2, hh, hrt, hp, q1, q2, q3⟩ := hj (t_c132_2, k_rv [(a1 : Int), y1.toInt, (n : Int)], (t_gh ((fun _ => 0, 0) : t_X0) (fun _ => 0))) t_pm132_2 rfl rfl hpd.1 hpd.2 hTW
  obtain ⟨x9, rfl, rfl⟩ : ∃ x : Int32, rv2 = [.int x] ∧ res2 = [x.toInt] := hrt
  have hx : x9 = r9 := by
    have hh : some (Value.int x9) = some (Value.int r9) := hh
    injection hh with hh
    injection hh
  subst hx
  obtain ⟨he, -, d, hd, r', b1, b2, b3, b4, -⟩ := hp
  have hd : d ∈ ct_post t_c132_2 := hd
  have er : r' 4 = x9.toInt := b2 0 _ rfl
  simp only [ct_post, t_c132_2, List.mem_cons, List.not_mem_nil, or_false] at hd
  subst hd
  simp only [List.forall_mem_cons, c_ev, c_evs, List.not_mem_nil, false_implies, implies_true, and_true, er] at b4
  omega
set_option maxHeartbeats 1000000 in
theorem k_lndM {n1 : Nat} {y1 r9 : Int32} (I : k_In s D dA a1 a2 w H locs) (hin : c_in w a2 13) (hT : k_Tp a2 13 8 7 62 w n tp f) (hf : k_byt f) (hn6 : n ≤ 600) (hn : n1 ≤ n) (hy1 : y1.toInt = (n1 : Int)) (hj : t_Ex s D dA 250 w [.ref a2, .int y1] H' [.int r9]) : r9.toInt = t_lans n1 f := by
  obtain ⟨z3, hcc⟩ := k_fnE (i := 22) I.2.2.1 hin k_sh13 (by decide)
  obtain ⟨cc9, rfl, -⟩ := k_fnRf (t' := 58) I.2.2.1 hcc (by decide +kernel)
  obtain ⟨z3, hwd⟩ := k_fnE (i := 23) I.2.2.1 hin k_sh13 (by decide)
  obtain ⟨wd, rfl, -⟩ := k_fnRf (t' := 63) I.2.2.1 hwd (by decide +kernel)
  have hG : t_G (t_gh (t_lx n1 f) (t_sm [(342, (tp : Int)), (340, (cc9 : Int)), (341, (wd : Int)), (349, (n1 : Int))])) := t_gh_G (by show n1 ≤ 600; omega) (t_lxB hf) (t_lxZ (by omega))
  have hTW : c_TW t_K dA (t_Wi w (t_c250_0, k_rv [(a2 : Int), y1.toInt, 0, (n : Int), (tp : Int), (tp : Int), (n1 : Int), (n1 : Int), c_gv 18133887294219437620592640 (t_gh (t_lx n1 f) (fun _ => 0) 18133887294219437620592640), (cc9 : Int), (cc9 : Int), (wd : Int), (wd : Int), t_lans n1 f], t_gh (t_lx n1 f) (t_sm [(342, (tp : Int)), (340, (cc9 : Int)), (341, (wd : Int)), (349, (n1 : Int))]))) := t_TW I.2.2.1 _ (t_J0 I.2.1 hG fun m hm a hadr k hk hct => by
    simp only [t_rows, List.mem_cons, List.not_mem_nil, or_false] at hm
    rcases hm with rfl | rfl | rfl | rfl | rfl | rfl | rfl | rfl | rfl | rfl | rfl | rfl | rfl | rfl | rfl
    · exfalso
      have h9 : (k : Int) < c_gv 347 (t_gh _ _ 347) := hct
      rw [t_gh_lo (by omega)] at h9
      have h8 : c_gv 347 (t_sm [(342, (tp : Int)), (340, (cc9 : Int)), (341, (wd : Int)), (349, (n1 : Int))] 347) = 0 := by rfl
      omega
    · exfalso
      have h9 : (k : Int) < c_gv 320 (t_gh _ _ 320) := hct
      rw [t_gh_lo (by omega)] at h9
      have h8 : c_gv 320 (t_sm [(342, (tp : Int)), (340, (cc9 : Int)), (341, (wd : Int)), (349, (n1 : Int))] 320) = 0 := by rfl
      omega
    · exfalso
      have h9 : (k : Int) < c_gv 320 (t_gh _ _ 320) := hct
      rw [t_gh_lo (by omega)] at h9
      have h8 : c_gv 320 (t_sm [(342, (tp : Int)), (340, (cc9 : Int)), (341, (wd : Int)), (349, (n1 : Int))] 320) = 0 := by rfl
      omega
    · exfalso
      have h9 : (k : Int) < c_gv 320 (t_gh _ _ 320) := hct
      rw [t_gh_lo (by omega)] at h9
      have h8 : c_gv 320 (t_sm [(342, (tp : Int)), (340, (cc9 : Int)), (341, (wd : Int)), (349, (n1 : Int))] 320) = 0 := by rfl
      omega
    · exfalso
      have h9 : (k : Int) < c_gv 320 (t_gh _ _ 320) := hct
      rw [t_gh_lo (by omega)] at h9
      have h8 : c_gv 320 (t_sm [(342, (tp : Int)), (340, (cc9 : Int)), (341, (wd : Int)), (349, (n1 : Int))] 320) = 0 := by rfl
      omega
    · exfalso
      have h9 : (k : Int) < c_gv 348 (t_gh _ _ 348) := hct
      rw [t_gh_lo (by omega)] at h9
      have h8 : c_gv 348 (t_sm [(342, (tp : Int)), (340, (cc9 : Int)), (341, (wd : Int)), (349, (n1 : Int))] 348) = 0 := by rfl
      omega
    · exfalso
      have h9 : (k : Int) < c_gv 332 (t_gh _ _ 332) := hct
      rw [t_gh_lo (by omega)] at h9
      have h8 : c_gv 332 (t_sm [(342, (tp : Int)), (340, (cc9 : Int)), (341, (wd : Int)), (349, (n1 : Int))] 332) = 0 := by rfl
      omega
    · exfalso
      have h9 : (k : Int) < c_gv 333 (t_gh _ _ 333) := hct
      rw [t_gh_lo (by omega)] at h9
      have h8 : c_gv 333 (t_sm [(342, (tp : Int)), (340, (cc9 : Int)), (341, (wd : Int)), (349, (n1 : Int))] 333) = 0 := by rfl
      omega
    · exfalso
      have h9 : (k : Int) < c_gv 334 (t_gh _ _ 334) := hct
      rw [t_gh_lo (by omega)] at h9
      have h8 : c_gv 334 (t_sm [(342, (tp : Int)), (340, (cc9 : Int)), (341, (wd : Int)), (349, (n1 : Int))] 334) = 0 := by rfl
      omega
    · exfalso
      have h9 : (k : Int) < c_gv 335 (t_gh _ _ 335) := hct
      rw [t_gh_lo (by omega)] at h9
      have h8 : c_gv 335 (t_sm [(342, (tp : Int)), (340, (cc9 : Int)), (341, (wd : Int)), (349, (n1 : Int))] 335) = 0 := by rfl
      omega
    · have h9 : (k : Int) < c_gv 349 (t_gh _ _ 349) := hct
      rw [t_gh_lo (by omega)] at h9
      have h8 : c_gv 349 (t_sm [(342, (tp : Int)), (340, (cc9 : Int)), (341, (wd : Int)), (349, (n1 : Int))] 349) = (n1 : Int) := c_gv_id (by omega) (by show -1099511627776 ≤ (n1 : Int); omega) (by show (n1 : Int) ≤ 1099511627776; omega)
      have ha9 : (a : Int) = c_gv 342 (t_gh _ _ 342) := hadr
      rw [t_gh_lo (by omega), c_gv_a (by decide)] at ha9
      have ha9 : (a : Int) = (tp : Int) := ha9
      have ea : a = tp := by omega
      rw [ea]
      have hk9 : k < n1 := by omega
      have hb := hf k
      show k_fn w tp 62 (0 + k) (c_gv (1208925819614629174706176 + k) (t_gh (t_lx n1 f) _ (1208925819614629174706176 + k)))
      rw [t_gh_by (by omega), t_lxL hk9, c_gv_id (by omega) (by omega) (by omega), Nat.zero_add]
      exact hT.2.2.2 k (by omega)
    · exfalso
      have h9 : (k : Int) < c_gv 352 (t_gh _ _ 352) := hct
      rw [t_gh_lo (by omega)] at h9
      have h8 : c_gv 352 (t_sm [(342, (tp : Int)), (340, (cc9 : Int)), (341, (wd : Int)), (349, (n1 : Int))] 352) = 0 := by rfl
      omega
    · exfalso
      have h9 : (k : Int) < c_gv 353 (t_gh _ _ 353) := hct
      rw [t_gh_lo (by omega)] at h9
      have h8 : c_gv 353 (t_sm [(342, (tp : Int)), (340, (cc9 : Int)), (341, (wd : Int)), (349, (n1 : Int))] 353) = 0 := by rfl
      omega
    · exfalso
      have h9 : (k : Int) < c_gv 354 (t_gh _ _ 354) := hct
      rw [t_gh_lo (by omega)] at h9
      have h8 : c_gv 354 (t_sm [(342, (tp : Int)), (340, (cc9 : Int)), (341, (wd : Int)), (349, (n1 : Int))] 354) = 0 := by rfl
      omega
    · exfalso
      have h9 : (k : Int) < c_gv 355 (t_gh _ _ 355) := hct
      rw [t_gh_lo (by omega)] at h9
      have h8 : c_gv 355 (t_sm [(342, (tp : Int)), (340, (cc9 : Int)), (341, (wd : Int)), (349, (n1 : Int))] 355) = 0 := by rfl
      omega)
  have hw : (t_Wi w (t_c250_0, k_rv [(a2 : Int), y1.toInt, 0, (n : Int), (tp : Int), (tp : Int), (n1 : Int), (n1 : Int), c_gv 18133887294219437620592640 (t_gh (t_lx n1 f) (fun _ => 0) 18133887294219437620592640), (cc9 : Int), (cc9 : Int), (wd : Int), (wd : Int), t_lans n1 f], t_gh (t_lx n1 f) (t_sm [(342, (tp : Int)), (340, (cc9 : Int)), (341, (wd : Int)), (349, (n1 : Int))]))).2.2 = t_gh (t_lx n1 f) (t_sm [(342, (tp : Int)), (340, (cc9 : Int)), (341, (wd : Int)), (349, (n1 : Int))]) := rfl
  have hpd := k_preD (ct := t_c250_0) (r := k_rv [(a2 : Int), y1.toInt, 0, (n : Int), (tp : Int), (tp : Int), (n1 : Int), (n1 : Int), c_gv 18133887294219437620592640 (t_gh (t_lx n1 f) (fun _ => 0) 18133887294219437620592640), (cc9 : Int), (cc9 : Int), (wd : Int), (wd : Int), t_lans n1 f]) (vals := [.ref a2, .int y1]) (w := t_Wi w (t_c250_0, k_rv [(a2 : Int), y1.toInt, 0, (n : Int), (tp : Int), (tp : Int), (n1 : Int), (n1 : Int), c_gv 18133887294219437620592640 (t_gh (t_lx n1 f) (fun _ => 0) 18133887294219437620592640), (cc9 : Int), (cc9 : Int), (wd : Int), (wd : Int), t_lans n1 f], t_gh (t_lx n1 f) (t_sm [(342, (tp : Int)), (340, (cc9 : Int)), (341, (wd : Int)), (349, (n1 : Int))]))) (by decide +kernel) ⟨(by show (0 : Int) ≤ (0) + ((1) * 0 + (0)); omega), (by show (0 : Int) ≤ (0) + ((-1) * 0 + (0)); omega), (by show (0 : Int) ≤ (0) + ((1) * (tp : Int) + ((-1) * (tp : Int) + (0))); omega), (by show (0 : Int) ≤ (0) + ((-1) * (tp : Int) + ((1) * (tp : Int) + (0))); omega), (by show (0 : Int) ≤ (0) + ((1) * (n1 : Int) + ((-1) * (n1 : Int) + (0))); omega), (by show (0 : Int) ≤ (0) + ((1) * y1.toInt + ((-1) * (n1 : Int) + (0))); omega), (by show (0 : Int) ≤ (0) + ((-1) * y1.toInt + ((1) * (n1 : Int) + (0))); omega), (by show (0 : Int) ≤ (0) + ((-1) * y1.toInt + ((1) * (n : Int) + (0))); omega), (by show (0 : Int) ≤ (0) + ((1) * (cc9 : Int) + ((-1) * (cc9 : Int) + (0))); omega), (by show (0 : Int) ≤ (0) + ((-1) * (cc9 : Int) + ((1) * (cc9 : Int) + (0))); omega), (by show (0 : Int) ≤ (0) + ((1) * (wd : Int) + ((-1) * (wd : Int) + (0))); omega), (by show (0 : Int) ≤ (0) + ((-1) * (wd : Int) + ((1) * (wd : Int) + (0))); omega), (by show (0 : Int) ≤ (34) + (0); omega), trivial⟩ ⟨(k_aR hin), ⟨_, rfl, rfl, (by show (0 : Int) ≤ y1.toInt; omega), (by show y1.toInt ≤ 600; omega)⟩, trivial⟩ ⟨t_c0 (j := 1) hw (by omega) rfl, k_fnC (b := 0) hT.1 rfl rfl, k_fnC (b := 0) hT.2.1 rfl rfl, t_c0 (j := 342) hw (by omega) rfl, t_c0 (j := 349) hw (by omega) (c_gv_id (by omega) (by show -1099511627776 ≤ (n1 : Int); omega) (by show (n1 : Int) ≤ 1099511627776; omega)), t_cN hw (by show n1 ≤ 600; omega), t_cA hw 18133887294219437620592640 (by omega), k_fnC (b := 0) hcc rfl rfl, t_c0 (j := 340) hw (by omega) rfl, k_fnC (b := 0) hwd rfl rfl, t_c0 (j := 341) hw (by omega) rfl, t_cA hw 39894552047282762765303808 (by omega), trivial⟩
  obtain ⟨rv2, res2, w2, hh, hrt, hp, q1, q2, q3⟩ := hj (t_c250_0, k_rv [(a2 : Int), y1.toInt, 0, (n : Int), (tp : Int), (tp : Int), (n1 : Int), (n1 : Int), c_gv 18133887294219437620592640 (t_gh (t_lx n1 f) (fun _ => 0) 18133887294219437620592640), (cc9 : Int), (cc9 : Int), (wd : Int), (wd : Int), t_lans n1 f], t_gh (t_lx n1 f) (t_sm [(342, (tp : Int)), (340, (cc9 : Int)), (341, (wd : Int)), (349, (n1 : Int))])) t_pm250_0 rfl rfl hpd.1 hpd.2 hTW
  obtain ⟨x9, rfl, rfl⟩ : ∃ x : Int32, rv2 = [.int x] ∧ res2 = [x.toInt] := hrt
  have hx : x9 = r9 := by
    have hh : some (Value.int x9) = some (Value.int r9) := hh
    injection hh with hh
    injection hh
  subst hx
  obtain ⟨he, -, d, hd, r', b1, b2, b3, b4, -⟩ := hp
  have hd : d ∈ ct_post t_c250_0 := hd
  have ea : r' 14 = t_lans n1 f := b1 14 (by decide)
  have er : r' 15 = x9.toInt := b2 0 _ rfl
  simp only [ct_post, t_c250_0, List.mem_cons, List.not_mem_nil, or_false] at hd
  rcases hd with rfl <;>
    (simp only [List.forall_mem_cons, c_ev, c_evs, List.not_mem_nil, false_implies, implies_true, and_true, ea, er] at b4
     omega)
theorem k_lndML {y1 r9 : Int32} (I : k_In s D dA a1 a2 w H locs) (hin : c_in w a2 13) (hT : k_Tp a2 13 8 7 62 w n tp f) (hy1 : y1.toInt < 0) (hj : t_Ex s D dA 250 w [.ref a2, .int y1] H' [.int r9]) : r9.toInt = -1 := by
  have hTW : c_TW t_K dA (t_Wi w (t_c250_1, k_rv [(a2 : Int), y1.toInt], (t_gh ((fun _ => 0, 0) : t_X0) (fun _ => 0)))) := t_TW I.2.2.1 _ (t_J00 I.2.1)
  have hpd := k_preD (ct := t_c250_1) (r := k_rv [(a2 : Int), y1.toInt]) (vals := [.ref a2, .int y1]) (w := t_Wi w (t_c250_1, k_rv [(a2 : Int), y1.toInt], (t_gh ((fun _ => 0, 0) : t_X0) (fun _ => 0)))) (by decide +kernel) ⟨(by show (0 : Int) ≤ (4) + (0); omega), trivial⟩ ⟨(k_aR hin), ⟨_, rfl, rfl, (by have := y1.le_toInt; show (-2147483648 : Int) ≤ y1.toInt; omega), (by show y1.toInt ≤ (-1 : Int); omega)⟩, trivial⟩ trivial
  obtain ⟨rv2, res2, w2, hh, hrt, hp, q1, q2, q3⟩ := hj (t_c250_1, k_rv [(a2 : Int), y1.toInt], (t_gh ((fun _ => 0, 0) : t_X0) (fun _ => 0))) t_pm250_1 rfl rfl hpd.1 hpd.2 hTW
  obtain ⟨x9, rfl, rfl⟩ : ∃ x : Int32, rv2 = [.int x] ∧ res2 = [x.toInt] := hrt
  have hx : x9 = r9 := by
    have hh : some (Value.int x9) = some (Value.int r9) := hh
    injection hh with hh
    injection hh
  subst hx
  obtain ⟨he, -, d, hd, r', b1, b2, b3, b4, -⟩ := hp
  have hd : d ∈ ct_post t_c250_1 := hd
  have er : r' 3 = x9.toInt := b2 0 _ rfl
  simp only [ct_post, t_c250_1, List.mem_cons, List.not_mem_nil, or_false] at hd
  subst hd
  simp only [List.forall_mem_cons, c_ev, c_evs, List.not_mem_nil, false_implies, implies_true, and_true, er] at b4
  omega
theorem k_lndMH {y1 r9 : Int32} (I : k_In s D dA a1 a2 w H locs) (hin : c_in w a2 13) (hT : k_Tp a2 13 8 7 62 w n tp f) (hy1 : (n : Int) < y1.toInt) (hj : t_Ex s D dA 250 w [.ref a2, .int y1] H' [.int r9]) : r9.toInt = -1 := by
  have hTW : c_TW t_K dA (t_Wi w (t_c250_2, k_rv [(a2 : Int), y1.toInt, (n : Int)], (t_gh ((fun _ => 0, 0) : t_X0) (fun _ => 0)))) := t_TW I.2.2.1 _ (t_J00 I.2.1)
  have hpd := k_preD (ct := t_c250_2) (r := k_rv [(a2 : Int), y1.toInt, (n : Int)]) (vals := [.ref a2, .int y1]) (w := t_Wi w (t_c250_2, k_rv [(a2 : Int), y1.toInt, (n : Int)], (t_gh ((fun _ => 0, 0) : t_X0) (fun _ => 0)))) (by decide +kernel) ⟨(by show (0 : Int) ≤ (-1) + ((1) * y1.toInt + ((-1) * (n : Int) + (0))); omega), (by show (0 : Int) ≤ (4) + (0); omega), trivial⟩ ⟨(k_aR hin), (k_aI _), trivial⟩ ⟨k_fnC (b := 0) hT.1 rfl rfl, trivial⟩
  obtain ⟨rv2, res2, w2, hh, hrt, hp, q1, q2, q3⟩ := hj (t_c250_2, k_rv [(a2 : Int), y1.toInt, (n : Int)], (t_gh ((fun _ => 0, 0) : t_X0) (fun _ => 0))) t_pm250_2 rfl rfl hpd.1 hpd.2 hTW
  obtain ⟨x9, rfl, rfl⟩ : ∃ x : Int32, rv2 = [.int x] ∧ res2 = [x.toInt] := hrt
  have hx : x9 = r9 := by
    have hh : some (Value.int x9) = some (Value.int r9) := hh
    injection hh with hh
    injection hh
  subst hx
  obtain ⟨he, -, d, hd, r', b1, b2, b3, b4, -⟩ := hp
  have hd : d ∈ ct_post t_c250_2 := hd
  have er : r' 4 = x9.toInt := b2 0 _ rfl
  simp only [ct_post, t_c250_2, List.mem_cons, List.not_mem_nil, or_false] at hd
  subst hd
  simp only [List.forall_mem_cons, c_ev, c_evs, List.not_mem_nil, false_implies, implies_true, and_true, er] at b4
  omega
end FD
