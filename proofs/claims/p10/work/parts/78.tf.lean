/-! what the tables of a text tell: the parts of a land -/
theorem t_px4_bd {X : t_X0} (hX : t_Xok X) {i d : Nat} (h : (i : Int) < t_px X 4 i d) : i < 600 ∧ (i : Int) + 1 ≤ t_px X 4 i d ∧ t_px X 4 i d ≤ 600 := by
  by_cases hi : i < 600
  · rcases t_px_ge hX 4 d (i := i) (by omega) with h1 | ⟨h1, h2⟩
    · omega
    · exact ⟨hi, by omega, h2⟩
  · rcases t_px_gt hX 4 d (i := i) (by omega) with h1 | h1 <;> omega
theorem t_sg_i {X : t_X0} (hX : t_Xok X) {i : Nat} {x : Int} (h : t_sg X i x = true) : i < 600 := t_k_i hX (by have := (t_sg_iff.mp h).1; omega)
/-- one part more: what it adds -/
theorem t_stp_is {X : t_X0} (hX : t_Xok X) {s s' : t_St} (h : t_stp X s = some s') :
    (t_ky X s.1 = 0 ∧ t_nwp X s s.2.1 6 = true ∧ t_sg X (s.1 + 2) 59 = true ∧ s' = (s.1 + 3, s.2.1 ++ [t_v X (s.1 + 1)], s.2.2))
    ∨ (t_ky X s.1 = 1 ∧ t_nwp X s s.2.2.1 6 = true ∧ t_sg X (s.1 + 2) 59 = true ∧ s' = (s.1 + 3, s.2.1, s.2.2.1 ++ [t_v X (s.1 + 1)], s.2.2.2))
    ∨ (t_ky X s.1 = 2 ∧ (s.2.2.2.2.length < 3 ∧ t_nam X (s.1 + 1) = true ∧ 0 ≤ t_at0 s.2.1 (t_v X (s.1 + 1)) 0 ∧ t_at0 s.2.2.2.2 (t_at0 s.2.1 (t_v X (s.1 + 1)) 0) 0 < 0 ∧ t_k X (s.1 + 2) = 2 ∧ t_v X (s.1 + 2) ≤ 11 ∧ t_sg X (s.1 + 3) 59 = true) ∧ s' = (s.1 + 4, s.2.1, s.2.2.1, s.2.2.2.1, s.2.2.2.2 ++ [t_at0 s.2.1 (t_v X (s.1 + 1)) 0]))
    ∨ (t_ky X s.1 = 3 ∧ t_nwp X s s.2.2.2.1 4 = true ∧ ((s.1 : Int) < t_px X 4 (s.1 + 2) 0 ∧ t_sg X (t_px X 4 (s.1 + 2) 0).toNat 59 = true) ∧ s' = ((t_px X 4 (s.1 + 2) 0).toNat + 1, s.2.1, s.2.2.1, s.2.2.2.1 ++ [t_v X (s.1 + 1)], s.2.2.2.2)) := by
  unfold t_stp at h
  split at h
  · rename_i h0
    split at h
    · rename_i h1
      rw [Bool.and_eq_true] at h1
      cases h
      exact Or.inl ⟨h0, h1.1, h1.2, rfl⟩
    · cases h
  · split at h
    · rename_i h0
      split at h
      · rename_i h1
        rw [Bool.and_eq_true] at h1
        cases h
        exact Or.inr (Or.inl ⟨h0, h1.1, h1.2, rfl⟩)
      · cases h
    · split at h
      · rename_i h0
        split at h
        · rename_i h1
          rw [Bool.and_eq_true, Bool.and_eq_true, Bool.and_eq_true, Bool.and_eq_true, Bool.and_eq_true, Bool.and_eq_true, decide_eq_true_iff, decide_eq_true_iff, decide_eq_true_iff, decide_eq_true_iff, decide_eq_true_iff] at h1
          obtain ⟨⟨⟨⟨⟨⟨a1, a2⟩, a3⟩, a4⟩, a5⟩, a6⟩, a7⟩ := h1
          cases h
          exact Or.inr (Or.inr (Or.inl ⟨h0, ⟨a1, a2, a3, a4, a5, a6, a7⟩, rfl⟩))
        · cases h
      · split at h
        · rename_i h0
          split at h
          · rename_i h1
            rw [Bool.and_eq_true, Bool.and_eq_true, decide_eq_true_iff] at h1
            cases h
            exact Or.inr (Or.inr (Or.inr ⟨h0, h1.1.1, ⟨h1.1.2, h1.2⟩, rfl⟩))
          · cases h
        · cases h
theorem t_nwp_iff {X : t_X0} {s : t_St} {l : List Int} {m : Nat} : t_nwp X s l m = true ↔ l.length < m ∧ t_nam X (s.1 + 1) = true ∧ t_kno s (t_v X (s.1 + 1)) = false := by
  unfold t_nwp
  rw [Bool.and_eq_true, Bool.and_eq_true, decide_eq_true_iff, Bool.not_eq_true', and_assoc]
/-- lists of names grow at their ends alone -/
def t_pre (s s' : t_St) : Prop := s.2.1 <+: s'.2.1 ∧ s.2.2.1 <+: s'.2.2.1 ∧ s.2.2.2.1 <+: s'.2.2.2.1 ∧ s.2.2.2.2 <+: s'.2.2.2.2
theorem t_pre_rf (s : t_St) : t_pre s s := ⟨List.prefix_refl _, List.prefix_refl _, List.prefix_refl _, List.prefix_refl _⟩
theorem t_pre_tr {a b c : t_St} (h : t_pre a b) (h2 : t_pre b c) : t_pre a c := ⟨h.1.trans h2.1, h.2.1.trans h2.2.1, h.2.2.1.trans h2.2.2.1, h.2.2.2.trans h2.2.2.2⟩
theorem t_stp_pre {X : t_X0} (hX : t_Xok X) {s s' : t_St} (h : t_stp X s = some s') : t_pre s s' ∧ s'.1 ≤ 601 ∧ (s'.2.1.length ≤ max 6 s.2.1.length ∧ s'.2.2.1.length ≤ max 6 s.2.2.1.length ∧ s'.2.2.2.1.length ≤ max 4 s.2.2.2.1.length ∧ s'.2.2.2.2.length ≤ max 3 s.2.2.2.2.length) ∧ s.1 + 3 ≤ s'.1 := by
  rcases t_stp_is hX h with ⟨-, h1, h2, rfl⟩ | ⟨-, h1, h2, rfl⟩ | ⟨-, ⟨h1, -, -, -, -, -, h2⟩, rfl⟩ | ⟨-, h1, ⟨h3, h2⟩, rfl⟩
  · have h4 := t_sg_i hX h2
    have h5 := (t_nwp_iff.mp h1).1
    refine ⟨⟨List.prefix_append _ _, List.prefix_refl _, List.prefix_refl _, List.prefix_refl _⟩, by show s.1 + 3 ≤ 601; omega, ⟨by show (s.2.1 ++ [_]).length ≤ _; rw [List.length_append]; show s.2.1.length + 1 ≤ _; omega, by show s.2.2.1.length ≤ _; omega, by show s.2.2.2.1.length ≤ _; omega, by show s.2.2.2.2.length ≤ _; omega⟩, Nat.le_refl _⟩
  · have h4 := t_sg_i hX h2
    have h5 := (t_nwp_iff.mp h1).1
    refine ⟨⟨List.prefix_refl _, List.prefix_append _ _, List.prefix_refl _, List.prefix_refl _⟩, by show s.1 + 3 ≤ 601; omega, ⟨by show s.2.1.length ≤ _; omega, by show (s.2.2.1 ++ [_]).length ≤ _; rw [List.length_append]; show s.2.2.1.length + 1 ≤ _; omega, by show s.2.2.2.1.length ≤ _; omega, by show s.2.2.2.2.length ≤ _; omega⟩, Nat.le_refl _⟩
  · have h4 := t_sg_i hX h2
    refine ⟨⟨List.prefix_refl _, List.prefix_refl _, List.prefix_refl _, List.prefix_append _ _⟩, by show s.1 + 4 ≤ 601; omega, ⟨by show s.2.1.length ≤ _; omega, by show s.2.2.1.length ≤ _; omega, by show s.2.2.2.1.length ≤ _; omega, by show (s.2.2.2.2 ++ [_]).length ≤ _; rw [List.length_append]; show s.2.2.2.2.length + 1 ≤ _; omega⟩, by show s.1 + 3 ≤ s.1 + 4; omega⟩
  · have h4 := t_sg_i hX h2
    have h5 := (t_nwp_iff.mp h1).1
    have h6 : (s.1 : Int) + 3 ≤ t_px X 4 (s.1 + 2) 0 := by
      by_cases hi : s.1 + 2 ≤ 600
      · rcases t_px_ge hX 4 0 (i := s.1 + 2) hi with h7 | ⟨h7, -⟩
        · omega
        · rw [if_neg (by omega)] at h7
          omega
      · rcases t_px_gt hX 4 0 (i := s.1 + 2) (by omega) with h7 | ⟨-, h7⟩
        · omega
        · omega
    refine ⟨⟨List.prefix_refl _, List.prefix_refl _, List.prefix_append _ _, List.prefix_refl _⟩, by show (t_px X 4 (s.1 + 2) 0).toNat + 1 ≤ 601; omega, ⟨by show s.2.1.length ≤ _; omega, by show s.2.2.1.length ≤ _; omega, by show (s.2.2.2.1 ++ [_]).length ≤ _; rw [List.length_append]; show s.2.2.2.1.length + 1 ≤ _; omega, by show s.2.2.2.2.length ≤ _; omega⟩, by show s.1 + 3 ≤ (t_px X 4 (s.1 + 2) 0).toNat + 1; omega⟩
theorem t_st_s {X : t_X0} {m : Nat} {s : t_St} (h : t_st X m = some s) : t_st X (m + 1) = if t_k X s.1 = 0 then some s else t_stp X s := by
  show (match t_st X m with
    | some s => if t_k X s.1 = 0 then some s else t_stp X s
    | none => none) = _
  rw [h]
theorem t_st_n {X : t_X0} {m : Nat} (h : t_st X m = none) : t_st X (m + 1) = none := by
  show (match t_st X m with
    | some s => if t_k X s.1 = 0 then some s else t_stp X s
    | none => none) = _
  rw [h]
/-- a part's state is small -/
theorem t_st_bd {X : t_X0} (hX : t_Xok X) : ∀ (m : Nat) (s : t_St), t_st X m = some s → s.1 ≤ 601 ∧ s.2.1.length ≤ 6 ∧ s.2.2.1.length ≤ 6 ∧ s.2.2.2.1.length ≤ 4 ∧ s.2.2.2.2.length ≤ 3
  | 0, s, h => by
    cases h
    exact ⟨Nat.zero_le _, Nat.zero_le _, Nat.zero_le _, Nat.zero_le _, Nat.zero_le _⟩
  | m + 1, s, h => by
    cases hs : t_st X m with
    | none => rw [t_st_n hs] at h; cases h
    | some s0 =>
      have h0 := t_st_bd hX m s0 hs
      rw [t_st_s hs] at h
      split at h
      · cases h
        exact h0
      · obtain ⟨-, h2, h3, -⟩ := t_stp_pre hX h
        exact ⟨h2, by omega, by omega, by omega, by omega⟩
theorem t_st_up {X : t_X0} (hX : t_Xok X) {m : Nat} {s : t_St} (h : t_st X m = some s) : ∀ (k : Nat) (s' : t_St), t_st X (m + k) = some s' → t_pre s s'
  | 0, s', h' => by
    rw [Nat.add_zero, h] at h'
    cases h'
    exact t_pre_rf s
  | k + 1, s', h' => by
    cases hs : t_st X (m + k) with
    | none =>
      have := t_st_n hs
      rw [show m + (k + 1) = m + k + 1 by omega, this] at h'
      cases h'
    | some s0 =>
      have h0 := t_st_up hX h k s0 hs
      rw [show m + (k + 1) = m + k + 1 by omega, t_st_s hs] at h'
      split at h'
      · cases h'
        exact h0
      · exact t_pre_tr h0 (t_stp_pre hX h').1
theorem t_st_dn {X : t_X0} : ∀ (k m : Nat), t_st X m = none → t_st X (m + k) = none
  | 0, _, h => h
  | k + 1, m, h => by
    rw [show m + (k + 1) = m + k + 1 by omega]
    exact t_st_n (t_st_dn k m h)
/-- the last state holds all names of those ahead -/
theorem t_la_is {X : t_X0} : ∀ m : Nat, ∃ m0, m0 ≤ m ∧ t_st X m0 = some (t_la X m) ∧ ∀ k, m0 < k → k ≤ m → t_st X k = none
  | 0 => ⟨0, Nat.le_refl _, rfl, fun k h1 h2 => absurd h2 (by omega)⟩
  | m + 1 => by
    cases h : t_st X (m + 1) with
    | some s => exact ⟨m + 1, Nat.le_refl _, by
        rw [h]
        show _ = some (match t_st X (m + 1) with
          | some s => s
          | none => t_la X m)
        rw [h], fun k h1 h2 => absurd h2 (by omega)⟩
    | none =>
      obtain ⟨m0, h1, h2, h3⟩ := t_la_is (X := X) m
      refine ⟨m0, by omega, ?_, fun k k1 k2 => ?_⟩
      · rw [h2]
        show some (t_la X m) = some (match t_st X (m + 1) with
          | some s => s
          | none => t_la X m)
        rw [h]
      · by_cases hk : k = m + 1
        · rw [hk]; exact h
        · exact h3 k k1 (by omega)
theorem t_la_pre {X : t_X0} (hX : t_Xok X) {m : Nat} {s : t_St} (h : t_st X m = some s) (hm : m ≤ 700) : t_pre s (t_la X 700) := by
  obtain ⟨m0, h1, h2, h3⟩ := t_la_is (X := X) 700
  by_cases hk : m ≤ m0
  · exact t_st_up hX h (m0 - m) _ (by rw [show m + (m0 - m) = m0 by omega]; exact h2)
  · have := h3 m (by omega) hm
    rw [this] at h
    cases h
theorem t_pre_take {l l' : List Int} (h : l <+: l') : l'.take l.length = l := (List.prefix_iff_eq_take.mp h).symm
theorem t_pre_nth {l l' : List Int} (h : l <+: l') {k : Nat} (hk : k < l.length) : l'[k]? = l[k]? := by
  obtain ⟨t, rfl⟩ := h
  exact List.getElem?_append_left hk
theorem t_nth_some {l : List Int} {k : Nat} {v : Int} (h : l[k]? = some v) : t_nth l k = v := by
  unfold t_nth
  rw [h]
theorem t_nth_lt {l : List Int} {k : Nat} (h : k < l.length) : l[k]? = some (t_nth l k) := by
  unfold t_nth
  rw [List.getElem?_eq_getElem h]
/-- the answer -/
theorem t_ans_E {X : t_X0} {m : Nat} {s : t_St} (h : t_st X m = some s) (hk : t_k X s.1 = 0) (hm : m ≤ 700) : t_ans X = (s.2.1.length : Int) := by
  have : ∀ k, t_st X (m + k) = some s := fun k => by
    induction k with
    | zero => exact h
    | succ k ih =>
      rw [show m + (k + 1) = m + k + 1 by omega, t_st_s ih, if_pos hk]
  unfold t_ans
  rw [show (700 : Nat) = m + (700 - m) by omega, this]
  show (if t_k X s.1 = 0 then _ else _) = _
  rw [if_pos hk]
theorem t_ans_F {X : t_X0} {m : Nat} {s : t_St} (h : t_st X m = some s) (hk : t_k X s.1 ≠ 0) (hp : t_stp X s = none) (hm : m < 700) : t_ans X = -1 := by
  have h1 : t_st X (m + 1) = none := by rw [t_st_s h, if_neg hk, hp]
  unfold t_ans
  rw [show (700 : Nat) = m + 1 + (700 - (m + 1)) by omega, t_st_dn _ _ h1]
/-- a name searched in the first cnt of a list, from k on -/
theorem t_fd_e {l : List Int} {k c : Nat} (h : c ≤ k) (v : Int) : t_fd l k c v = -1 := by
  unfold t_fd
  rw [List.drop_eq_nil_of_le (Nat.le_trans (List.length_take_le _ _) h)]
  rfl
theorem t_fd_s {l : List Int} {k c : Nat} (h : k < c) (hl : c ≤ l.length) (v : Int) : t_fd l k c v = if t_nth l k = v then (k : Int) else t_fd l (k + 1) c v := by
  have hk : k < (l.take c).length := by rw [List.length_take]; omega
  have e : (l.take c)[k] = t_nth l k := by
    rw [List.getElem_take]
    exact Option.some.inj ((List.getElem?_eq_getElem (by omega)).symm.trans (t_nth_lt (by omega)))
  unfold t_fd
  rw [List.drop_eq_getElem_cons hk, e]
  rfl
theorem t_fd_bd {l : List Int} (c : Nat) (v : Int) : -1 ≤ t_fd l 0 c v ∧ t_fd l 0 c v < c := by
  unfold t_fd
  rcases t_at_is ((l.take c).drop 0) v ((0 : Nat) : Int) with h | ⟨j, h1, h2, -⟩
  · omega
  · rw [List.drop_zero, List.length_take] at h2
    omega
theorem t_fd_pre {l l' : List Int} (h : l <+: l') (v : Int) : t_fd l' 0 l.length v = t_at0 l v 0 := by
  unfold t_fd
  rw [t_pre_take h]
  rfl
theorem t_at_bd (l : List Int) (v k : Int) : t_at0 l v k = -1 ∨ (k ≤ t_at0 l v k ∧ t_at0 l v k < k + l.length) := by
  rcases t_at_is l v k with h | ⟨j, h1, h2, -⟩
  · exact Or.inl h
  · exact Or.inr (by omega)
theorem t_kno_iff {s : t_St} {v : Int} : t_kno s v = true ↔ (0 ≤ t_at0 s.2.1 v 0 ∨ 0 ≤ t_at0 s.2.2.1 v 0) ∨ 0 ≤ t_at0 s.2.2.2.1 v 0 := by
  unfold t_kno
  rw [Bool.or_eq_true, Bool.or_eq_true, decide_eq_true_iff, decide_eq_true_iff, decide_eq_true_iff]
