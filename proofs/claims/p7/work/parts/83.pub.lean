/-! a public call, told by both layers -/
theorem j_cell_eq {c1 c2 : ClassId} {n1 n2 : Nat} {f g : Nat → Int64} (h : vp_cell c1 (n1, .inr (.inl f)) = vp_cell c2 (n2, .inr (.inl g))) : n1 = n2 ∧ ∀ i, i < n1 → f i = g i := by
  have h : arrV c1 n1 (fun j => .long (f j)) = arrV c2 n2 (fun j => .long (g j)) := h
  have hs : (Array.ofFn (n := n1) fun j => Value.long (f j.val)) = Array.ofFn (n := n2) fun j => Value.long (g j.val) := congrArg (fun x : Cell => x.slots) h
  have hn : n1 = n2 := by
    have := congrArg Array.size hs
    rw [Array.size_ofFn, Array.size_ofFn] at this
    exact this
  subst hn
  refine ⟨rfl, fun i hi => ?_⟩
  have h3 : (Array.ofFn (n := n1) fun j => Value.long (f j.val))[i]? = (Array.ofFn (n := n1) fun j => Value.long (g j.val))[i]? := by rw [hs]
  rw [Array.getElem?_ofFn, Array.getElem?_ofFn, dif_pos hi, dif_pos hi] at h3
  have h4 := Option.some.inj h3
  injection h4
section PU
variable {D : va_G} {dA : Nat → ClassId} {AA : Nat → Prop} {w w2 : cWld} {H : Heap}
/-- a number of a row of longs, seen in both worlds -/
theorem j_back {a t t2 i : Nat} {z : Int} (hP : va_P D k_cl w.2.1 H) (hP2 : va_P D k_cl w2.2.1 H) (hT : c_TW k_K dA w) (hT2 : c_TW j_K dA w2) (hin : c_in w a t) (h1 : (k_K.2.1 t).1 = 2) (h2 : (j_K.2.1 t2).1 = 2) (hf : k_fn w2 a t2 i z) : k_fn w a t i z := by
  obtain ⟨e, g1, g2⟩ := hin
  obtain ⟨e2, v, f1, f2, f3, f4⟩ := hf
  have a1 := (hT _ g1).1
  have a2 := (hT2 _ f1).1
  dsimp only at a1 a2
  rw [g2] at a1
  rw [f2] at a2
  unfold c_form at a1 a2
  rw [h1] at a1
  rw [h2] at a2
  obtain ⟨f, rfl⟩ := a1
  obtain ⟨g, rfl⟩ := a2
  obtain ⟨k1, hk1⟩ := List.getElem?_of_mem g1
  obtain ⟨k2, hk2⟩ := List.getElem?_of_mem f1
  have b1 : H[a]? = some (vp_cell (dA 2) ((k_K.2.1 t).2.1, .inr (.inl f))) := hP k1 _ hk1
  have b2 : H[a]? = some (vp_cell (dA 2) ((j_K.2.1 t2).2.1, .inr (.inl g))) := hP2 k2 _ hk2
  rw [b1] at b2
  obtain ⟨hn, hv⟩ := j_cell_eq (Option.some.inj b2)
  refine ⟨_, v, g1, g2, ?_, f4⟩
  have f3 : (if i < (j_K.2.1 t2).2.1 then some (Value.long (g i)) else none) = some v := f3
  show (if i < (k_K.2.1 t).2.1 then some (Value.long (f i)) else none) = some v
  by_cases hi : i < (j_K.2.1 t2).2.1
  · rw [if_pos hi] at f3
    rw [if_pos (by omega), hv i (by omega)]
    exact f3
  · rw [if_neg hi] at f3
    cases f3
/-- the rows and the numbers -/
def k_S7 (a1 a2 : Nat) (w : cWld) (rw nm : Nat) (r : Nat → Nat) : Prop := k_fn w a1 12 3 (rw : Int) ∧ c_in w rw 18 ∧ (∀ t, t < 4 → k_fn w rw 18 t (r t : Int) ∧ c_in w (r t) 17) ∧ (∀ t u, t < 4 → u < 4 → t ≠ u → r t ≠ r u) ∧ k_fn w a2 13 6 (nm : Int) ∧ c_in w nm 61
def j_tg (w : cWld) (a1 rw : Nat) (r : Nat → Nat) (x : Nat) : Nat := if x = r 0 then 90 else if x = r 1 then 91 else if x = r 2 then 92 else if x = r 3 then 93 else if w.1 x = 18 then (if x = rw then 18 else 94) else if w.1 x = 12 then (if x = a1 then 12 else 95) else if 90 ≤ w.1 x ∧ w.1 x ≤ 95 then 96 else w.1 x
def j_w (w : cWld) (a1 rw : Nat) (r : Nat → Nat) (g : Nat → Int) : cWld := (j_tg w a1 rw r, w.2.1, g)
theorem j_regBig {j : Nat} : ∀ {l : List (Nat × Nat × cVT)}, l.all (fun q => Nat.blt q.2.1 j) = true → k_reg j l = (5, 0, 0)
  | [], _ => rfl
  | q :: l, h => by
    rw [List.all_cons, Bool.and_eq_true] at h
    unfold k_reg
    rw [if_neg, j_regBig h.2]
    intro hc
    rw [Bool.and_eq_true] at hc
    have h1 := Nat.le_of_ble_eq_true hc.2
    have h2 : q.2.1 + 1 ≤ j := Nat.le_of_ble_eq_true h.1
    omega
section TW
variable {a1 a2 rw nm : Nat} {r : Nat → Nat}
theorem j_tg_row (h : k_S7 a1 a2 w rw nm r) {t : Nat} (ht : t < 4) : j_tg w a1 rw r (r t) = 90 + t := by
  have hd := h.2.2.2.1
  unfold j_tg
  rcases (show t = 0 ∨ t = 1 ∨ t = 2 ∨ t = 3 by omega) with rfl | rfl | rfl | rfl
  · rw [if_pos rfl]
  · rw [if_neg (hd 1 0 (by omega) (by omega) (by omega)), if_pos rfl]
  · rw [if_neg (hd 2 0 (by omega) (by omega) (by omega)), if_neg (hd 2 1 (by omega) (by omega) (by omega)), if_pos rfl]
  · rw [if_neg (hd 3 0 (by omega) (by omega) (by omega)), if_neg (hd 3 1 (by omega) (by omega) (by omega)), if_neg (hd 3 2 (by omega) (by omega) (by omega)), if_pos rfl]
theorem j_no_row (h : k_S7 a1 a2 w rw nm r) {x : Nat} (hx : w.1 x ≠ 17) {t : Nat} (ht : t < 4) : x ≠ r t := by
  rintro rfl
  obtain ⟨e, -, h2⟩ := (h.2.2.1 t ht).2
  exact hx h2
theorem j_tg_off (h : k_S7 a1 a2 w rw nm r) {x : Nat} (hx : w.1 x ≠ 17) : j_tg w a1 rw r x = if w.1 x = 18 then (if x = rw then 18 else 94) else if w.1 x = 12 then (if x = a1 then 12 else 95) else if 90 ≤ w.1 x ∧ w.1 x ≤ 95 then 96 else w.1 x := by
  unfold j_tg
  rw [if_neg (j_no_row h hx (t := 0) (by omega)), if_neg (j_no_row h hx (t := 1) (by omega)), if_neg (j_no_row h hx (t := 2) (by omega)), if_neg (j_no_row h hx (t := 3) (by omega))]
theorem j_in_keep (h : k_S7 a1 a2 w rw nm r) (g : Nat → Int) {x t : Nat} (h7 : t ≠ 17) (h8 : t ≠ 18) (h2 : t ≠ 12) (h9 : ¬ (90 ≤ t ∧ t ≤ 95)) (hin : c_in w x t) : c_in (j_w w a1 rw r g) x t := by
  obtain ⟨e, k1, k2⟩ := hin
  refine ⟨e, k1, ?_⟩
  show j_tg w a1 rw r x = t
  rw [j_tg_off h (by rw [k2]; exact h7), k2, if_neg h8, if_neg h2, if_neg h9]
theorem j_in_rw (h : k_S7 a1 a2 w rw nm r) (g : Nat → Int) : c_in (j_w w a1 rw r g) rw 18 := by
  obtain ⟨e, k1, k2⟩ := h.2.1
  refine ⟨e, k1, ?_⟩
  show j_tg w a1 rw r rw = 18
  rw [j_tg_off h (by rw [k2]; decide), k2, if_pos rfl, if_pos rfl]
theorem j_in_a1 (h : k_S7 a1 a2 w rw nm r) (g : Nat → Int) (hin : c_in w a1 12) : c_in (j_w w a1 rw r g) a1 12 := by
  obtain ⟨e, k1, k2⟩ := hin
  refine ⟨e, k1, ?_⟩
  show j_tg w a1 rw r a1 = 12
  rw [j_tg_off h (by rw [k2]; decide), k2, if_neg (by decide), if_pos rfl, if_pos rfl]
theorem j_in_row (h : k_S7 a1 a2 w rw nm r) (g : Nat → Int) {t : Nat} (ht : t < 4) : c_in (j_w w a1 rw r g) (r t) (90 + t) := by
  obtain ⟨e, k1, k2⟩ := (h.2.2.1 t ht).2
  exact ⟨e, k1, j_tg_row h ht⟩
/-- a number that stands in the old world stands in the new one -/
theorem j_fn (h : k_S7 a1 a2 w rw nm r) (g : Nat → Int) {x t t' i : Nat} {z : Int} (hf : k_fn w x t i z) (hin : c_in (j_w w a1 rw r g) x t') : k_fn (j_w w a1 rw r g) x t' i z := by
  obtain ⟨e, v, k1, k2, k3, k4⟩ := hf
  obtain ⟨-, -, g2⟩ := hin
  exact ⟨e, v, k1, g2, k3, k4⟩
theorem j_ty13 (j : Nat) : c_ty j_K 13 j = (5, 0, 0) ∨ (c_ty j_K 13 j = c_ty k_K 13 j ∧ (c_ty j_K 13 j).1 ≠ 4 ∧ ((c_ty j_K 13 j).1 = 3 → (c_ty j_K 13 j).2.1 = 59 ∨ (c_ty j_K 13 j).2.1 = 60 ∨ (c_ty j_K 13 j).2.1 = 61)) := by
  by_cases hj : j ≤ 6
  · rcases (show j = 0 ∨ j = 1 ∨ j = 2 ∨ j = 3 ∨ j = 4 ∨ j = 5 ∨ j = 6 by omega) with rfl | rfl | rfl | rfl | rfl | rfl | rfl <;> decide +kernel
  · left
    have e : c_ty j_K 13 j = k_reg j [(0, 0, (0, (-2147483648), 2147483647)), (1, 1, (0, (-2147483648), 2147483647)), (4, 4, (3, 59, 0)), (5, 5, (3, 60, 0)), (6, 6, (3, 61, 0))] := rfl
    rw [e]
    refine j_regBig ?_
    simp only [List.all_cons, List.all_nil, Bool.and_true, Bool.and_eq_true, Nat.blt_eq]
    omega
theorem j_ty12 (j : Nat) : c_ty j_K 12 j = (5, 0, 0) ∨ (j = 0 ∧ c_ty j_K 12 j = c_ty k_K 12 j) ∨ (j = 3 ∧ c_ty j_K 12 j = (3, 18, 0)) ∨ ((j = 4 ∨ j = 5) ∧ c_ty j_K 12 j = c_ty k_K 12 j ∧ (c_ty j_K 12 j = (3, 14, 0) ∨ c_ty j_K 12 j = (3, 15, 0))) := by
  by_cases hj : j ≤ 5
  · rcases (show j = 0 ∨ j = 1 ∨ j = 2 ∨ j = 3 ∨ j = 4 ∨ j = 5 by omega) with rfl | rfl | rfl | rfl | rfl | rfl <;> decide +kernel
  · left
    have e : c_ty j_K 12 j = k_reg j [(0, 0, (0, (-2147483648), 2147483647)), (3, 3, (3, 18, 0)), (4, 4, (3, 14, 0)), (5, 5, (3, 15, 0))] := rfl
    rw [e]
    refine j_regBig ?_
    simp only [List.all_cons, List.all_nil, Bool.and_true, Bool.and_eq_true, Nat.blt_eq]
    omega
theorem j_ty18 (j : Nat) : c_ty j_K 18 j = (5, 0, 0) ∨ (j < 4 ∧ c_ty j_K 18 j = (3, 90 + (j : Int), 0)) := by
  by_cases hj : j < 4
  · rcases (show j = 0 ∨ j = 1 ∨ j = 2 ∨ j = 3 by omega) with rfl | rfl | rfl | rfl <;> decide +kernel
  · left
    have e : c_ty j_K 18 j = k_reg j [(0, 0, (3, 90, 0)), (1, 1, (3, 91, 0)), (2, 2, (3, 92, 0)), (3, 3, (3, 93, 0))] := rfl
    rw [e]
    refine j_regBig ?_
    simp only [List.all_cons, List.all_nil, Bool.and_true, Bool.and_eq_true, Nat.blt_eq]
    omega
/-- tags that are typed by one type each, or not at all -/
def j_plain (u : Nat) : Bool := match k_look u j_unis, k_look u j_typs with
  | some x, _ => decide (k_look u k_unis = some x) && Nat.ble x.1 1
  | none, none => true
  | none, some _ => false
theorem j_plain_all : ∀ u : Nat, u ≠ 12 → u ≠ 13 → u ≠ 18 → ¬ (90 ≤ u ∧ u ≤ 95) → (∀ j, c_ty j_K u j = (5, 0, 0)) ∨ ((∀ j, c_ty j_K u j = c_ty k_K u j) ∧ ∀ j, (c_ty j_K u j).1 ≤ 1) := by
  intro u h1 h2 h3 h4
  have e1 : ∀ {l : List (Nat × List (Nat × Nat × cVT))}, l.all (fun q => !(Nat.beq q.1 u)) = true → k_look u l = none := by
    intro l
    induction l with
    | nil => intro _; rfl
    | cons q l ih =>
      intro h
      rw [List.all_cons, Bool.and_eq_true] at h
      unfold k_look
      rw [if_neg (by intro hc; rw [hc] at h; cases h.1)]
      exact ih h.2
  have ht : k_look u j_typs = none := e1 (by
    show (!(Nat.beq 12 u) && (!(Nat.beq 13 u) && (!(Nat.beq 18 u) && true))) = true
    have b : ∀ {x : Nat}, u ≠ x → (!(Nat.beq x u)) = true := fun {x} hx => by
      cases hb : Nat.beq x u with
      | false => rfl
      | true => exact absurd (Nat.eq_of_beq_eq_true hb).symm hx
    rw [b h1, b h2, b h3]
    rfl)
  by_cases hu : u = 14 ∨ u = 15 ∨ u = 59 ∨ u = 60 ∨ u = 61
  · right
    rcases hu with rfl | rfl | rfl | rfl | rfl <;> refine ⟨fun _ => rfl, fun _ => ?_⟩ <;> first | exact (show (0 : Nat) ≤ 1 from Nat.zero_le 1) | exact (show (1 : Nat) ≤ 1 from Nat.le_refl 1)
  · left
    intro j
    have e2 : k_look u j_unis = none := by
      have b : ∀ {x : Nat}, u ≠ x → Nat.beq x u = false := fun {x} hx => by
        cases hb : Nat.beq x u with
        | false => rfl
        | true => exact absurd (Nat.eq_of_beq_eq_true hb).symm hx
      unfold j_unis
      simp only [k_look]
      rw [b (show u ≠ 14 by omega), b (show u ≠ 15 by omega), b (show u ≠ 90 by omega), b (show u ≠ 91 by omega), b (show u ≠ 92 by omega), b (show u ≠ 93 by omega), b (show u ≠ 59 by omega), b (show u ≠ 60 by omega), b (show u ≠ 61 by omega)]
      rfl
    unfold c_ty
    rw [show j_K.2.2.2.1 u = none from e2]
    show (match k_look u j_typs with
      | some l => k_reg j l
      | none => (5, 0, 0)) = _
    rw [ht]
theorem j_shp_off {u : Nat} (h : ¬ (90 ≤ u ∧ u ≤ 95)) : j_K.2.1 u = k_K.2.1 u := by
  have b : ∀ {x : Nat}, u ≠ x → Nat.beq x u = false := fun {x} hx => by
    cases hb : Nat.beq x u with
    | false => rfl
    | true => exact absurd (Nat.eq_of_beq_eq_true hb).symm hx
  show (match k_look u j_shps with
    | some x => x
    | none => k_K.2.1 u) = _
  have : k_look u j_shps = none := by
    unfold j_shps
    simp only [k_look]
    rw [b (show u ≠ 90 by omega), b (show u ≠ 91 by omega), b (show u ≠ 92 by omega), b (show u ≠ 93 by omega), b (show u ≠ 94 by omega), b (show u ≠ 95 by omega)]
    rfl
  rw [this]
end TW
end PU
theorem j_TW {D : va_G} {dA : Nat → ClassId} {AA : Nat → Prop} {w : cWld} {a1 a2 rw nm : Nat} {r : Nat → Nat} (hT : c_TW k_K dA w) (hD : va_D AA w.2.1) (h : k_S7 a1 a2 w rw nm r) (hin1 : c_in w a1 12) (g : Nat → Int) : c_TW j_K dA (j_w w a1 rw r g) := by
  intro q hq
  have hq : q ∈ w.2.1 := hq
  obtain ⟨f1, f2, -, -⟩ := hT q hq
  have any : ∀ {t : Nat}, (∀ j, c_ty j_K t j = (5, 0, 0)) → ∀ (j : Nat) (v : Value), c_okV (j_w w a1 rw r g) (c_ty j_K t j) v := fun hj j v => by rw [hj j]; trivial
  have fin : ∀ t : Nat, j_tg w a1 rw r q.1 = t → c_form dA (j_K.2.1 t) q.2 → (∀ (j : Nat) (v : Value), c_rd q.2 j = some v → c_okV (j_w w a1 rw r g) (c_ty j_K t j) v) → c_form dA (j_K.2.1 ((j_w w a1 rw r g).1 q.1)) q.2 ∧ (∀ (j : Nat) (v : Value), c_rd q.2 j = some v → c_okV (j_w w a1 rw r g) (c_ty j_K ((j_w w a1 rw r g).1 q.1) j) v) ∧ (∀ i ∈ j_K.2.2.1, i.1 = (j_w w a1 rw r g).1 q.1 → ∀ x : Int32, c_rd q.2 i.2.1 = some (.int x) → x ≠ 0 → ∀ v : Value, c_rd q.2 i.2.2.1 = some v → c_okV (j_w w a1 rw r g) i.2.2.2 v) ∧ j_K.2.2.2.2.2 ((j_w w a1 rw r g).1 q.1) q.1 (c_rd q.2) (j_w w a1 rw r g).2.2 := fun t ht h1 h2 => by
    have e : (j_w w a1 rw r g).1 q.1 = t := ht
    rw [e]
    exact ⟨h1, h2, fun i hi => (by cases hi), trivial⟩
  by_cases h17 : w.1 q.1 = 17
  · rw [h17] at f1 f2
    by_cases hr : ∃ t, t < 4 ∧ q.1 = r t
    · obtain ⟨t, ht, he⟩ := hr
      refine fin (90 + t) (by rw [he]; exact j_tg_row h ht) ?_ (fun j v hv => ?_)
      · have : j_K.2.1 (90 + t) = k_K.2.1 17 := by
          rcases (show t = 0 ∨ t = 1 ∨ t = 2 ∨ t = 3 by omega) with rfl | rfl | rfl | rfl <;> decide +kernel
        rw [this]
        exact f1
      · have e1 : c_ty j_K (90 + t) j = (1, (-9223372036854775808), 9223372036854775807) := by
          rcases (show t = 0 ∨ t = 1 ∨ t = 2 ∨ t = 3 by omega) with rfl | rfl | rfl | rfl <;> rfl
        have e2 : c_ty k_K 17 j = (1, (-9223372036854775808), 9223372036854775807) := rfl
        have := f2 j v hv
        rw [e2] at this
        rw [e1]
        exact this
    · have hx : j_tg w a1 rw r q.1 = 17 := by
        have hn : ∀ t, t < 4 → q.1 ≠ r t := fun t ht he => hr ⟨t, ht, he⟩
        unfold j_tg
        rw [if_neg (hn 0 (by omega)), if_neg (hn 1 (by omega)), if_neg (hn 2 (by omega)), if_neg (hn 3 (by omega)), h17]
        rfl
      refine fin 17 hx ?_ (fun j v hv => ?_)
      · rw [j_shp_off (by omega)]
        exact f1
      · rcases j_plain_all 17 (by decide) (by decide) (by decide) (by omega) with hp | ⟨hp, hp1⟩
        · exact any hp j v
        · have e2 : c_ty k_K 17 j = (1, (-9223372036854775808), 9223372036854775807) := rfl
          have := f2 j v hv
          rw [e2] at this
          rw [hp j, e2]
          exact this
  · have hoff := j_tg_off h h17
    by_cases h18 : w.1 q.1 = 18
    · rw [h18] at f1 f2
      rw [if_pos h18] at hoff
      by_cases hrw : q.1 = rw
      · rw [if_pos hrw] at hoff
        refine fin 18 hoff ?_ (fun j v hv => ?_)
        · rw [j_shp_off (by omega)]
          exact f1
        · rcases j_ty18 j with hj | ⟨hj, hj2⟩
          · rw [hj]; trivial
          · rw [hj2]
            have e2 : c_ty k_K 18 j = (3, 17, 0) := rfl
            have h3 := f2 j v hv
            rw [e2] at h3
            obtain ⟨x, rfl, hx⟩ := h3
            obtain ⟨⟨e', v', k1, k2, k3, k4⟩, -⟩ := h.2.2.1 j hj
            have hqe : (rw, q.2) ∈ w.2.1 := by rw [← hrw]; exact hq
            have := c_uniq hD hqe k1
            rw [← this, hv] at k3
            cases k3
            have k4 : (x : Int) = (r j : Int) := k4
            have hxr : x = r j := by omega
            refine ⟨x, rfl, ?_⟩
            rw [hxr]
            show c_in _ _ (90 + (j : Int)).toNat
            rw [show (90 + (j : Int)).toNat = 90 + j by omega]
            exact j_in_row h g hj
      · rw [if_neg hrw] at hoff
        refine fin 94 hoff ?_ (fun j v _ => any (t := 94) (fun _ => rfl) j v)
        have : j_K.2.1 94 = k_K.2.1 18 := by decide +kernel
        rw [this]
        exact f1
    · rw [if_neg h18] at hoff
      by_cases h12 : w.1 q.1 = 12
      · rw [h12] at f1 f2
        rw [if_pos h12] at hoff
        by_cases ha : q.1 = a1
        · rw [if_pos ha] at hoff
          refine fin 12 hoff ?_ (fun j v hv => ?_)
          · rw [j_shp_off (by omega)]
            exact f1
          · rcases j_ty12 j with hj | ⟨rfl, hj⟩ | ⟨rfl, hj⟩ | ⟨hj0, hj, hj2⟩
            · rw [hj]; trivial
            · have := f2 0 v hv
              rw [← hj] at this
              have e3 : c_ty j_K 12 0 = (0, (-2147483648), 2147483647) := by decide +kernel
              rw [e3] at this ⊢
              exact this
            · rw [hj]
              have e2 : c_ty k_K 12 3 = (3, 18, 0) := by decide +kernel
              have h3 := f2 3 v hv
              rw [e2] at h3
              obtain ⟨x, rfl, hx⟩ := h3
              obtain ⟨e', v', k1, k2, k3, k4⟩ := h.1
              have hqe : (a1, q.2) ∈ w.2.1 := by rw [← ha]; exact hq
              have := c_uniq hD hqe k1
              rw [← this, hv] at k3
              cases k3
              have k4 : (x : Int) = (rw : Int) := k4
              have hxr : x = rw := by omega
              exact ⟨x, rfl, by rw [hxr]; exact j_in_rw h g⟩
            · have h3 := f2 j v hv
              rw [← hj] at h3
              rcases hj2 with hj2 | hj2 <;> rw [hj2] at h3 ⊢ <;> obtain ⟨x, rfl, hx⟩ := h3 <;> exact ⟨x, rfl, j_in_keep h g (by decide) (by decide) (by decide) (by decide) hx⟩
        · rw [if_neg ha] at hoff
          refine fin 95 hoff ?_ (fun j v _ => any (t := 95) (fun _ => rfl) j v)
          have : j_K.2.1 95 = k_K.2.1 12 := by decide +kernel
          rw [this]
          exact f1
      · rw [if_neg h12] at hoff
        by_cases h90 : 90 ≤ w.1 q.1 ∧ w.1 q.1 ≤ 95
        · rw [if_pos h90] at hoff
          refine fin 96 hoff ?_ (fun j v _ => any (t := 96) (fun _ => rfl) j v)
          have : j_K.2.1 96 = k_K.2.1 (w.1 q.1) := by
            obtain ⟨g1, g2⟩ := h90
            rcases (show w.1 q.1 = 90 ∨ w.1 q.1 = 91 ∨ w.1 q.1 = 92 ∨ w.1 q.1 = 93 ∨ w.1 q.1 = 94 ∨ w.1 q.1 = 95 by omega) with e | e | e | e | e | e <;> rw [e] <;> decide +kernel
          rw [this]
          exact f1
        · rw [if_neg h90] at hoff
          by_cases h13 : w.1 q.1 = 13
          · rw [h13] at f1 f2 hoff
            refine fin 13 hoff ?_ (fun j v hv => ?_)
            · rw [j_shp_off (by omega)]
              exact f1
            · rcases j_ty13 j with hj | ⟨hj, hj4, hj3⟩
              · rw [hj]; trivial
              · have h3 := f2 j v hv
                rw [← hj] at h3
                generalize hc : c_ty j_K 13 j = ct at h3 hj3 hj4 ⊢
                obtain ⟨k, lo, hi⟩ := ct
                match k, h3, hj3, hj4 with
                | 0, h3, _, _ => exact h3
                | 1, h3, _, _ => exact h3
                | 2, h3, _, _ => exact h3
                | 3, h3, hj3, _ =>
                  obtain ⟨x, rfl, hx⟩ := h3
                  have kp : ∀ t : Nat, t = 59 ∨ t = 60 ∨ t = 61 → c_in w x t → c_in (j_w w a1 rw r g) x t := fun t ht hi => j_in_keep h g (by omega) (by omega) (by omega) (by omega) hi
                  rcases hj3 rfl with e | e | e <;> dsimp only at e <;> subst e
                  · exact ⟨x, rfl, kp 59 (by omega) hx⟩
                  · exact ⟨x, rfl, kp 60 (by omega) hx⟩
                  · exact ⟨x, rfl, kp 61 (by omega) hx⟩
                | 4, _, _, hj4 => exact absurd rfl hj4
                | n + 5, _, _, _ => trivial
          · refine fin (w.1 q.1) hoff ?_ (fun j v hv => ?_)
            · rw [j_shp_off h90]
              exact f1
            · rcases j_plain_all _ h12 h13 h18 h90 with hp | ⟨hp, hp1⟩
              · exact any hp j v
              · have h3 := f2 j v hv
                have h4 := hp1 j
                rw [← hp j] at h3
                generalize hc : c_ty j_K (w.1 q.1) j = ct at h3 h4 ⊢
                obtain ⟨k, lo, hi⟩ := ct
                match k, h3, h4 with
                | 0, h3, _ => exact h3
                | 1, h3, _ => exact h3
                | n + 2, _, h4 => exact absurd h4 (by show ¬ (n + 2 ≤ 1); omega)
/-- what else is known of a call -/
abbrev j_Ix : Type := cCtr × (Nat → Int) × (Nat → Nat) × (Nat → Int)
def j_Wi (w : cWld) (i : j_Ix) : cWld := (i.2.2.1, w.2.1, i.2.2.2)
def j_Pi (dA : Nat → ClassId) (a : Nat) (ct : cCtr) (w : cWld) (vals : List Value) (i : j_Ix) : Prop := i.1 ∈ j_P.2.1 a ∧ ct_mc i.1 = ct_mc ct ∧ ct_ms i.1 = ct_ms ct ∧ c_Pre i.1 i.2.1 vals (j_Wi w i) ∧ c_ev i.2.1 (ct_dep i.1) ≤ ((1000 : Nat) : Int) ∧ c_TW j_K dA (j_Wi w i)
section P2
variable {p : Program} {l : Launch} {e : Env} {s : State} {m : MethodId} {below : List Frame} {meth : Method} {c : Code} {Q : State → Prop} {b L : Nat} {xs : Nat → Int32} {D : va_G} {dA : Nat → ClassId} {a1 a2 i cells slots : Nat} {ls : Array Slot} {w : cWld} {H : Heap} {locs : List Loc}
theorem j_met2 {AA : Nat → Prop} {a : Nat} {M : cMth} {ct : cCtr} {r : Nat → Int} {vals : List Value} (hM : k_Z.2.1 a = some M) (hct : ct ∈ k_P.2.1 a) (hpre : c_Pre ct r vals w) (hdep : c_ev r (ct_dep ct) ≤ ((1000 : Nat) : Int)) (hT : c_TW k_K dA w) (hD : va_D AA w.2.1) :
    Met l M.1 (c_ws k_Z M) (c_rm 1000 ct) (va_Pc vals (c_Bp D k_cl dA AA "MayBoats$Book" k_Z w)) (fun av st oc t => c_Qc D k_cl dA AA k_K ct r w av st oc t ∧ ∀ i : j_Ix, j_Pi dA a ct w vals i → c_Qc D k_cl dA AA j_K i.1 i.2.1 (j_Wi w i) av st oc t) (ct_mc ct) (ct_ms ct) AA := by
  have h1 := (k_mOk a M hM).2.2.2.2.2.2.2 ct hct
  have hG := k_all (l := l) (D := D) (dA := dA) (AA := AA) 1000 a ct hct M (by rw [h1.1]; exact hM) w r vals hpre hdep hT hD
  have hJ : ∀ i : j_Ix, j_Pi dA a ct w vals i → Met l M.1 (c_ws k_Z M) (c_rm 1000 ct) (va_Pc vals (c_Bp D k_cl dA AA "MayBoats$Book" k_Z w)) (c_Qc D k_cl dA AA j_K i.1 i.2.1 (j_Wi w i)) (ct_mc ct) (ct_ms ct) AA := fun i hi => by
    obtain ⟨i1, i2, i3, i4, i5, i6⟩ := hi
    have h2 := (j_mOk a M hM).2.2.2.2.2.2.2 i.1 i1
    have := j_all (l := l) (D := D) (dA := dA) (AA := AA) 1000 a i.1 i1 M (by rw [h2.1]; exact hM) (j_Wi w i) i.2.1 vals i4 i5 i6 hD
    have hrm : c_rm 1000 i.1 = c_rm 1000 ct := by unfold c_rm; rw [i2, i3]
    rw [i2, i3, hrm] at this
    exact this
  unfold Met at hG hJ ⊢
  refine (MetFree.all (G := Option { i : j_Ix // j_Pi dA a ct w vals i }) (P := fun _ => va_Pc vals (c_Bp D k_cl dA AA "MayBoats$Book" k_Z w)) (Q := fun o => match o with
    | none => fun av st oc t => c_Qc D k_cl dA AA k_K ct r w av st oc t ∧ ∃ L, FrameEnd st oc t L (ct_mc ct) (ct_ms ct) ∧ ∀ q ∈ L, AA q.base
    | some i => fun av st oc t => c_Qc D k_cl dA AA j_K i.1.1 i.1.2.1 (j_Wi w i.1) av st oc t ∧ ∃ L, FrameEnd st oc t L (ct_mc ct) (ct_ms ct) ∧ ∀ q ∈ L, AA q.base) (fun o => ?_)).mono (fun av st h => ⟨none, h⟩) (fun _ _ _ _ _ h => h) (fun av st oc t hP hq => ?_)
  · match o with
    | none => exact hG
    | some i => exact hJ i.1 i.2
  · have h0 := hq none hP
    exact ⟨⟨h0.1, fun i hi => (hq (some ⟨i, hi⟩) hP).1⟩, h0.2⟩
/-- a public call by both layers -/
theorem k_pub2 (C : k_Cx p s m c b L xs D dA) (I : k_In s D dA a1 a2 w H locs) {a idx pc : Nat} {M : cMth} {ct : cCtr} (hM : k_Z.2.1 a = some M) (hct : ct ∈ k_P.2.1 a) (hkd : M.2.2.2.2 = 0) (hlk : Jvm.Cond.methodLink "MayBoatsLaw" idx M.1 ∈ k_ws) (hpb : k_endB ct = true) {x : Nat} {As rest : List Value} (ns : List Int) (hpd : c_Pre ct (k_rv ns) (.ref x :: As) w ∧ c_ev (k_rv ns) (ct_dep ct) ≤ ((1000 : Nat) : Int)) (hcat : (rest.map fun v => v.category).sum ≤ 8) (hd : decode code pc = .ok (.invokevirtual idx, 3)) (hc : cells + ct_mc ct ≤ 600000) (hs : slots + ct_ms ct ≤ 7302250) (hls : ls.size = 4)
    (kk : ∀ (rv : List Value) (res : List Int) (w' : cWld) (H' : Heap) (locs' : List Loc), c_retV (ct_ret ct) rv res → c_Post ct (k_rv ns) w w' res → k_In s D dA a1 a2 w' H' locs' → (∀ i : j_Ix, j_Pi dA a ct w (.ref x :: As) i → ∃ (rv2 : List Value) (res2 : List Int) (w2 : cWld), rv2.head? = rv.head? ∧ c_retV (ct_ret i.1) rv2 res2 ∧ c_Post i.1 i.2.1 (j_Wi w i) w2 res2 ∧ va_P D k_cl w2.2.1 H' ∧ va_D (k_AA s) w2.2.1 ∧ c_TW j_K dA w2) → W p l e room_1 s m #[Value.ref b] below meth c H' locs' (cells + ct_mc ct) (slots + ct_ms ct) Q (F0 m (pc + 3) ls (rv ++ rest))) :
    W p l e room_1 s m #[Value.ref b] below meth c H locs cells slots Q (F0 m pc ls ((Value.ref x :: As).reverse ++ rest)) := by
  obtain ⟨hx, hb, hml, hown, hts, hK, hN, hAX, -, -, -⟩ := C
  obtain ⟨hP, hD, hT, hS, hi1, hi2, hg⟩ := I
  obtain ⟨hpre, hdep⟩ := hpd
  have hargs := hpre.1
  obtain ⟨m1, m2, m3, m4, m5, m6, m7, m8⟩ := k_mOk a M hM
  obtain ⟨t1, t2, t3, t4⟩ := m8 ct hct
  have hGd := j_met2 (l := l) (D := D) (AA := k_AA s) hM hct hpre hdep hT hD
  have hr : va_Run p l e room_1 s m #[Value.ref b] below meth c H locs cells slots (ct_mc ct) (ct_ms ct) (F0 m pc ls ((Value.ref x :: As).reverse ++ rest)) rest ((fun av st oc t => c_Qc D k_cl dA (k_AA s) k_K ct (k_rv ns) w av st oc t ∧ ∀ i : j_Ix, j_Pi dA a ct w (.ref x :: As) i → c_Qc D k_cl dA (k_AA s) j_K i.1 i.2.1 (j_Wi w i) av st oc t) (Value.ref x :: As).toArray) (k_AA s) := by
    obtain ⟨t, bb, al, ci, N, T, u1, u2, u3⟩ := t4 (by omega)
    have harg := hargs
    rw [u1] at harg
    obtain ⟨x', As', he, ce, hx1, hx2⟩ := c_args_ref harg
    cases he
    obtain ⟨q0, hq0⟩ := c_idx hx1
    have hform := (hT _ hx1).1
    dsimp only at hform
    rw [hx2, u2] at hform
    obtain ⟨fs, rfl, -⟩ := hform
    have hlenA : As.length = (ct_args ct).length - 1 := by
      have : (ct_args ct).length = (Value.ref x :: As).length := k_argsLen hargs
      rw [this, List.length_cons]
      omega
    rw [if_neg (by omega)] at t3
    exact va_runV (bytes := M.2.1) (maxL := M.2.2.1) (ret := M.2.2.2.1) (C := M.1.cls) ⟨hx, hb, hml, hown, hts⟩ hGd ⟨callB_of (rm := c_rm 1000 ct) (ws' := k_Z.2.2.1) _ hts (c_goodIn k_good m1) rfl rfl rfl (hts _ m2) (hts _ hlk) ⟨m3.1, m3.2, t3⟩ ⟨by show 1000 + 1 ≤ 2048; omega, by show 8 + (M.2.2.1 + 11) + 64 * 1000 ≤ 84000; omega⟩, hts _ (m5 hkd).1, hts _ (m5 hkd).2⟩ ⟨c_blind k_nest, va_recv hK hP u3 hq0, (c_Bp_at k_nest hK hN hAX hP hS)⟩ rfl hlenA hls (by show (Value.ref x :: As).reverse ++ rest = _; rw [List.reverse_cons, List.append_assoc]; rfl) (c_F_mr hcat) hd ⟨hc, hs⟩
  intro T0 hT0 X
  obtain ⟨v, st₀, t, T', L0, h0, X', hL, e1, e2, ⟨⟨⟨rv, res, w', hv, hret, hp, hbw⟩, hz, hk⟩, hj⟩, st⟩ := hr T0 hT0 X
  cases hv
  rw [h0] at hz hk
  rw [c_retV_list hret] at st
  obtain ⟨g1, g2⟩ := k_pubPost hpb hret hp hg
  have hS1 : va_S (k_AA s) s.heap T'.heap (locs ++ L0) := ⟨Nat.le_trans hS.1 (by rw [e1]; exact hz), fun q h1 h2 => by rw [e1, hk q (Nat.lt_of_lt_of_le h1 hS.1) h2]; exact hS.2.1 q h1 h2, fun q hq => by
    rcases List.mem_append.mp hq with h | h
    · exact hS.2.2 q h
    · exact hL q h⟩
  obtain ⟨t2, a1', b1⟩ := kk rv res w' T'.heap (locs ++ L0) hret hp ⟨by rw [e1]; exact hbw.1, hbw.2.1, hbw.2.2, hS1, g2 _ _ (by decide) hi1, g2 _ _ (by decide) hi2, g1⟩ (fun i hi => by
    obtain ⟨⟨rv2, res2, w2, hv2, hr2, hp2, hb2⟩, -⟩ := hj i hi
    refine ⟨rv2, res2, w2, ?_, hr2, hp2, by rw [e1]; exact hb2.1, hb2.2.1, hb2.2.2⟩
    exact (Outcome.returned.inj hv2).symm) T' rfl X'
  exact ⟨t2, st t2 a1', b1⟩
end P2
