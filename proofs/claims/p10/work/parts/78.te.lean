/-! what the tables of a text tell: lemmas -/
abbrev t_Xok (X : t_X0) : Prop := X.2 ≤ 600
theorem t_end_gt {f : Int → Bool} {X : t_X0} {p : Nat} (h : X.2 ≤ p) : t_end f X p = p := t_end_e fun h2 => absurd h2 (by omega)
theorem t_end_bd {f : Int → Bool} {X : t_X0} (p : Nat) : t_end f X p ≤ max p X.2 := by
  by_cases h : p ≤ X.2
  · have := t_end_le (f := f) h
    omega
  · rw [t_end_gt (by omega)]
    omega
theorem t_en_le {X : t_X0} (p : Nat) : t_en X p ≤ X.2 := by
  unfold t_en
  split
  · omega
  · rename_i h
    split
    · exact t_end_le (by omega)
    · split
      · exact t_end_le (by omega)
      · split <;> omega
theorem t_ep_le {X : t_X0} : ∀ i : Nat, t_ep X i ≤ X.2
  | 0 => Nat.zero_le _
  | i + 1 => t_en_le _
theorem t_pl_le {X : t_X0} (i : Nat) : t_pl X i ≤ X.2 := t_end_le (t_ep_le i)
theorem t_let_iff {x : Int} : t_let x = true ↔ 97 ≤ x ∧ x ≤ 122 := by
  unfold t_let
  rw [Bool.and_eq_true, decide_eq_true_iff, decide_eq_true_iff]
theorem t_dig_iff {x : Int} : t_dig x = true ↔ 48 ≤ x ∧ x ≤ 57 := by
  unfold t_dig
  rw [Bool.and_eq_true, decide_eq_true_iff, decide_eq_true_iff]
theorem t_blk_iff {x : Int} : t_blk x = true ↔ x = 10 ∨ x = 32 := by
  unfold t_blk
  rw [Bool.or_eq_true, decide_eq_true_iff, decide_eq_true_iff]
theorem t_sgn_iff {x : Int} : t_sgn x = true ↔ ((40 ≤ x ∧ x ≤ 43) ∨ x = 45) ∨ x = 47 ∨ x = 59 := by
  unfold t_sgn
  rw [Bool.or_eq_true, Bool.or_eq_true, Bool.or_eq_true, Bool.and_eq_true, decide_eq_true_iff, decide_eq_true_iff, decide_eq_true_iff, decide_eq_true_iff, decide_eq_true_iff, or_assoc]
theorem t_nlet {x : Int} (h : ¬(97 ≤ x ∧ x ≤ 122)) : t_let x = false := by
  cases hx : t_let x with
  | false => rfl
  | true => exact absurd (t_let_iff.mp hx) h
theorem t_ndig {x : Int} (h : ¬(48 ≤ x ∧ x ≤ 57)) : t_dig x = false := by
  cases hx : t_dig x with
  | false => rfl
  | true => exact absurd (t_dig_iff.mp hx) h
theorem t_nblk {x : Int} (h : ¬(x = 10 ∨ x = 32)) : t_blk x = false := by
  cases hx : t_blk x with
  | false => rfl
  | true => exact absurd (t_blk_iff.mp hx) h
theorem t_nsgn {x : Int} (h : ¬(((40 ≤ x ∧ x ≤ 43) ∨ x = 45) ∨ x = 47 ∨ x = 59)) : t_sgn x = false := by
  cases hx : t_sgn x with
  | false => rfl
  | true => exact absurd (t_sgn_iff.mp hx) h
theorem t_en_gt {X : t_X0} {p : Nat} (h : p < X.2) : p < t_en X p := by
  unfold t_en
  rw [if_neg (by omega)]
  split
  · rename_i h1
    rw [t_end_s h h1]
    exact t_end_ge (p + 1)
  · split
    · rename_i h1
      rw [t_end_s h h1]
      exact t_end_ge (p + 1)
    · split <;> omega
theorem t_ep_s {X : t_X0} (i : Nat) : t_ep X (i + 1) = t_en X (t_pl X i) := rfl
theorem t_pl_ge {X : t_X0} (i : Nat) : t_ep X i ≤ t_pl X i := t_end_ge _
/-- a token's place grows, until the text's end -/
theorem t_pl_i {X : t_X0} : ∀ i : Nat, i ≤ t_pl X i ∨ t_pl X i = X.2
  | 0 => Or.inl (Nat.zero_le _)
  | i + 1 => by
    have h1 := t_pl_ge (X := X) (i + 1)
    have h2 := t_pl_le (X := X) (i + 1)
    have h3 := t_pl_le (X := X) i
    rw [t_ep_s] at h1
    by_cases h : t_pl X i < X.2
    · have := t_en_gt h
      rcases t_pl_i (X := X) i with h4 | h4 <;> omega
    · have h5 : t_en X (t_pl X i) = X.2 := by
        unfold t_en
        rw [if_pos (by omega)]
      omega
theorem t_pl600 {X : t_X0} (hX : t_Xok X) {i : Nat} (h : 600 ≤ i) : t_pl X i = X.2 := by
  have h2 := t_pl_le (X := X) i
  have hX : X.2 ≤ 600 := hX
  rcases t_pl_i (X := X) i with h1 | h1 <;> omega
/-- what kind a token is of -/
theorem t_k0 {X : t_X0} {i : Nat} (h : X.2 ≤ t_pl X i) : t_k X i = 0 := by
  unfold t_k t_kd
  rw [if_pos h]
theorem t_k_pos {X : t_X0} {i : Nat} (h : t_pl X i < X.2) : 1 ≤ t_k X i := by
  unfold t_k t_kd
  rw [if_neg (by omega)]
  split
  · omega
  · split
    · split <;> omega
    · split <;> omega
theorem t_k_lt {X : t_X0} {i : Nat} (h : 1 ≤ t_k X i) : t_pl X i < X.2 := by
  by_cases h2 : X.2 ≤ t_pl X i
  · have := t_k0 h2
    omega
  · omega
theorem t_k_bd {X : t_X0} (i : Nat) : 0 ≤ t_k X i ∧ t_k X i ≤ 4 := by
  unfold t_k t_kd
  split
  · omega
  · split
    · omega
    · split
      · split <;> omega
      · split <;> omega
theorem t_k600 {X : t_X0} (hX : t_Xok X) {i : Nat} (h : 600 ≤ i) : t_k X i = 0 := t_k0 (by rw [t_pl600 hX h]; exact Nat.le_refl _)
/-- the packed letters -/
theorem t_pk_bd {X : t_X0} (a : Nat) : ∀ k : Nat, 0 ≤ t_pk X a k ∧ t_pk X a k < 32 ^ k ∧ (1 ≤ k → 1 ≤ t_pk X a k)
  | 0 => ⟨Int.le_refl _, by show (0 : Int) < 1; omega, fun h => absurd h (by omega)⟩
  | k + 1 => by
    obtain ⟨h1, h2, -⟩ := t_pk_bd (X := X) a k
    have h3 : t_pk X a (k + 1) = 32 * t_pk X a k + max 1 (min 26 (X.1 (a + k) - 96)) := rfl
    have h4 : (32 : Int) ^ (k + 1) = 32 ^ k * 32 := Int.pow_succ _ _
    rw [h3, h4]
    exact ⟨by omega, by omega, fun _ => by omega⟩
theorem t_pk8 {X : t_X0} (a : Nat) {k : Nat} (h : k ≤ 8) : 0 ≤ t_pk X a k ∧ t_pk X a k ≤ 1099511627775 ∧ (1 ≤ k → 1 ≤ t_pk X a k) := by
  obtain ⟨h1, h2, h3⟩ := t_pk_bd (X := X) a k
  refine ⟨h1, ?_, h3⟩
  rcases (show k = 0 ∨ k = 1 ∨ k = 2 ∨ k = 3 ∨ k = 4 ∨ k = 5 ∨ k = 6 ∨ k = 7 ∨ k = 8 by omega) with rfl | rfl | rfl | rfl | rfl | rfl | rfl | rfl | rfl <;> omega
theorem t_nm_bd {X : t_X0} (a : Nat) : ∀ k : Nat, 0 ≤ t_nm X a k ∧ t_nm X a k < 10 ^ k
  | 0 => ⟨Int.le_refl _, by show (0 : Int) < 1; omega⟩
  | k + 1 => by
    obtain ⟨h1, h2⟩ := t_nm_bd (X := X) a k
    have h3 : t_nm X a (k + 1) = 10 * t_nm X a k + max 0 (min 9 (X.1 (a + k) - 48)) := rfl
    have h4 : (10 : Int) ^ (k + 1) = 10 ^ k * 10 := Int.pow_succ _ _
    rw [h3, h4]
    exact ⟨by omega, by omega⟩
theorem t_nm4 {X : t_X0} (a : Nat) {k : Nat} (h : k ≤ 4) : 0 ≤ t_nm X a k ∧ t_nm X a k ≤ 9999 ∧ (k ≤ 3 → t_nm X a k ≤ 999) := by
  obtain ⟨h1, h2⟩ := t_nm_bd (X := X) a k
  rcases (show k = 0 ∨ k = 1 ∨ k = 2 ∨ k = 3 ∨ k = 4 by omega) with rfl | rfl | rfl | rfl | rfl <;> omega
/-- by what a token begins -/
theorem t_tokW {X : t_X0} {i : Nat} (h : t_pl X i < X.2) (hc : 97 ≤ X.1 (t_pl X i) ∧ X.1 (t_pl X i) ≤ 122) : t_k X i = 1 ∧ t_ep X (i + 1) = t_end t_let X (t_pl X i) ∧ t_v X i = if 8 < t_end t_let X (t_pl X i) - t_pl X i then 0 else t_pk X (t_pl X i) (t_end t_let X (t_pl X i) - t_pl X i) := by
  have h1 := t_let_iff.mpr hc
  refine ⟨?_, ?_, ?_⟩
  · unfold t_k t_kd
    rw [if_neg (by omega), if_pos h1]
  · rw [t_ep_s]
    unfold t_en
    rw [if_neg (by omega), if_pos h1]
  · unfold t_v t_vl
    rw [if_neg (by omega), if_pos h1]
theorem t_tokD {X : t_X0} {i : Nat} (h : t_pl X i < X.2) (hc : 48 ≤ X.1 (t_pl X i) ∧ X.1 (t_pl X i) ≤ 57) : t_k X i = (if 4 < t_end t_dig X (t_pl X i) - t_pl X i then 4 else 2) ∧ t_ep X (i + 1) = t_end t_dig X (t_pl X i) ∧ t_v X i = t_nm X (t_pl X i) (min 4 (t_end t_dig X (t_pl X i) - t_pl X i)) := by
  have h1 := t_dig_iff.mpr hc
  have h2 : ¬(t_let (X.1 (t_pl X i)) = true) := by rw [t_nlet (by omega)]; exact Bool.false_ne_true
  refine ⟨?_, ?_, ?_⟩
  · unfold t_k t_kd
    rw [if_neg (by omega), if_neg h2, if_pos h1]
  · rw [t_ep_s]
    unfold t_en
    rw [if_neg (by omega), if_neg h2, if_pos h1]
  · unfold t_v t_vl
    rw [if_neg (by omega), if_neg h2, if_pos h1]
theorem t_tokS {X : t_X0} {i : Nat} (h : t_pl X i < X.2) (hc : ((40 ≤ X.1 (t_pl X i) ∧ X.1 (t_pl X i) ≤ 43) ∨ X.1 (t_pl X i) = 45) ∨ X.1 (t_pl X i) = 47 ∨ X.1 (t_pl X i) = 59) : t_k X i = 3 ∧ t_ep X (i + 1) = t_pl X i + 1 ∧ t_v X i = X.1 (t_pl X i) := by
  have h1 := t_sgn_iff.mpr hc
  have h2 : ¬(t_let (X.1 (t_pl X i)) = true) := by rw [t_nlet (by omega)]; exact Bool.false_ne_true
  have h3 : ¬(t_dig (X.1 (t_pl X i)) = true) := by rw [t_ndig (by omega)]; exact Bool.false_ne_true
  refine ⟨?_, ?_, ?_⟩
  · unfold t_k t_kd
    rw [if_neg (by omega), if_neg h2, if_neg h3, if_pos h1]
  · rw [t_ep_s]
    unfold t_en
    rw [if_neg (by omega), if_neg h2, if_neg h3, if_pos h1]
  · unfold t_v t_vl
    rw [if_neg (by omega), if_neg h2, if_neg h3, if_pos h1]
theorem t_tokB {X : t_X0} {i : Nat} (h : t_pl X i < X.2) (h2 : ¬(97 ≤ X.1 (t_pl X i) ∧ X.1 (t_pl X i) ≤ 122)) (h3 : ¬(48 ≤ X.1 (t_pl X i) ∧ X.1 (t_pl X i) ≤ 57)) (hc : ¬(((40 ≤ X.1 (t_pl X i) ∧ X.1 (t_pl X i) ≤ 43) ∨ X.1 (t_pl X i) = 45) ∨ X.1 (t_pl X i) = 47 ∨ X.1 (t_pl X i) = 59)) : t_k X i = 4 ∧ t_ep X (i + 1) = X.2 ∧ t_v X i = 0 := by
  have h1 : ¬(t_sgn (X.1 (t_pl X i)) = true) := by rw [t_nsgn hc]; exact Bool.false_ne_true
  have h2 : ¬(t_let (X.1 (t_pl X i)) = true) := by rw [t_nlet h2]; exact Bool.false_ne_true
  have h3 : ¬(t_dig (X.1 (t_pl X i)) = true) := by rw [t_ndig h3]; exact Bool.false_ne_true
  refine ⟨?_, ?_, ?_⟩
  · unfold t_k t_kd
    rw [if_neg (by omega), if_neg h2, if_neg h3, if_neg h1]
  · rw [t_ep_s]
    unfold t_en
    rw [if_neg (by omega), if_neg h2, if_neg h3, if_neg h1]
  · unfold t_v t_vl
    rw [if_neg (by omega), if_neg h2, if_neg h3, if_neg h1]
theorem t_tokE {X : t_X0} {i : Nat} (h : X.2 ≤ t_pl X i) : t_k X i = 0 ∧ t_ep X (i + 1) = X.2 ∧ t_v X i = 0 := by
  refine ⟨t_k0 h, ?_, ?_⟩
  · rw [t_ep_s]
    unfold t_en
    rw [if_pos h]
  · unfold t_v t_vl
    rw [if_pos h]
/-- a token's value: of a word its letters (0 from nine on), of a number at most 9999 -/
theorem t_v_bd {X : t_X0} (i : Nat) (hb : ∀ p : Nat, p < X.2 → X.1 p ≤ 127) : 0 ≤ t_v X i ∧ t_v X i ≤ 1099511627775 ∧ (t_k X i = 2 → t_v X i ≤ 9999) ∧ (t_k X i = 1 → (1 ≤ t_v X i ↔ t_ep X (i + 1) - t_pl X i ≤ 8) ∧ t_pl X i < t_ep X (i + 1)) := by
  by_cases h : t_pl X i < X.2
  · have hb := hb _ h
    by_cases c1 : 97 ≤ X.1 (t_pl X i) ∧ X.1 (t_pl X i) ≤ 122
    · obtain ⟨e1, e2, e3⟩ := t_tokW h c1
      have g : t_pl X i + 1 ≤ t_end t_let X (t_pl X i) := by
        rw [t_end_s h (t_let_iff.mpr c1)]
        exact t_end_ge _
      rw [e3, e2]
      split
      · rename_i h9
        exact ⟨by omega, by omega, by omega, fun _ => ⟨⟨fun h8 => absurd h8 (by omega), fun h8 => absurd h8 (by omega)⟩, by omega⟩⟩
      · rename_i h9
        have h8 := t_pk8 (X := X) (t_pl X i) (k := t_end t_let X (t_pl X i) - t_pl X i) (by omega)
        have h7 := h8.2.2 (by omega)
        exact ⟨h8.1, h8.2.1, by omega, fun _ => ⟨⟨fun _ => by omega, fun _ => h7⟩, by omega⟩⟩
    · by_cases c2 : 48 ≤ X.1 (t_pl X i) ∧ X.1 (t_pl X i) ≤ 57
      · obtain ⟨e1, e2, e3⟩ := t_tokD h c2
        have h8 := t_nm4 (X := X) (t_pl X i) (k := min 4 (t_end t_dig X (t_pl X i) - t_pl X i)) (by omega)
        have h7 : t_k X i ≠ 1 := by
          rw [e1]
          split <;> omega
        rw [e3]
        exact ⟨h8.1, by omega, fun _ => h8.2.1, fun h9 => absurd h9 h7⟩
      · by_cases c3 : ((40 ≤ X.1 (t_pl X i) ∧ X.1 (t_pl X i) ≤ 43) ∨ X.1 (t_pl X i) = 45) ∨ X.1 (t_pl X i) = 47 ∨ X.1 (t_pl X i) = 59
        · obtain ⟨e1, e2, e3⟩ := t_tokS h c3
          rw [e3]
          exact ⟨by omega, by omega, by omega, by omega⟩
        · obtain ⟨e1, e2, e3⟩ := t_tokB h c1 c2 c3
          rw [e3]
          exact ⟨by omega, by omega, by omega, by omega⟩
  · obtain ⟨e1, e2, e3⟩ := t_tokE (X := X) (i := i) (by omega)
    rw [e3]
    exact ⟨by omega, by omega, by omega, by omega⟩
/-- searched words -/
theorem t_kf_is : ∀ (l : List Int) (v k : Int), t_kf l v k = -1 ∨ ∃ j : Nat, t_kf l v k = k + j ∧ j < l.length ∧ l[j]? = some v
  | [], _, _ => Or.inl rfl
  | x :: l, v, k => by
    unfold t_kf
    split
    · rename_i h
      exact Or.inr ⟨0, by omega, by simp, by rw [h]; rfl⟩
    · rcases t_kf_is l v (k + 1) with h | ⟨j, h1, h2, h3⟩
      · exact Or.inl h
      · exact Or.inr ⟨j + 1, by omega, by simpa using h2, h3⟩
theorem t_at_is : ∀ (l : List Int) (v k : Int), t_at0 l v k = -1 ∨ ∃ j : Nat, t_at0 l v k = k + j ∧ j < l.length ∧ l[j]? = some v
  | [], _, _ => Or.inl rfl
  | x :: l, v, k => by
    unfold t_at0
    split
    · rename_i h
      exact Or.inr ⟨0, by omega, by simp, by rw [h]; rfl⟩
    · rcases t_at_is l v (k + 1) with h | ⟨j, h1, h2, h3⟩
      · exact Or.inl h
      · exact Or.inr ⟨j + 1, by omega, by simpa using h2, h3⟩
theorem t_key_bd (v : Int) : -1 ≤ t_key v ∧ t_key v ≤ 25 := by
  rcases t_kf_is t_keys v 0 with h | ⟨j, h1, h2, -⟩
  · unfold t_key
    omega
  · have : t_keys.length = 26 := rfl
    unfold t_key
    omega
theorem t_key_inv {v : Int} {j : Nat} (h : t_key v = (j : Int)) : t_keys[j]? = some v := by
  rcases t_kf_is t_keys v 0 with h1 | ⟨j', h1, h2, h3⟩
  · unfold t_key at h
    omega
  · unfold t_key at h
    have : j' = j := by omega
    rw [← this]
    exact h3
theorem t_kdrop : ∀ k : Fin 26, t_keys.drop k.val = t_nth t_keys k.val :: t_keys.drop (k.val + 1) := by decide
theorem t_kf_s {k : Nat} (hk : k < 26) (v : Int) : t_kf (t_keys.drop k) v k = if t_nth t_keys k = v then (k : Int) else t_kf (t_keys.drop (k + 1)) v ((k : Int) + 1) := by
  rw [t_kdrop ⟨k, hk⟩]
  rfl
theorem t_kf_e {k : Nat} (hk : 26 ≤ k) (v : Int) (z : Int) : t_kf (t_keys.drop k) v z = -1 := by
  rw [List.drop_eq_nil_of_le (by show 26 ≤ k; exact hk)]
  rfl
theorem t_ky_bd {X : t_X0} (i : Nat) : -1 ≤ t_ky X i ∧ t_ky X i ≤ 25 := by
  unfold t_ky
  split
  · exact t_key_bd _
  · omega
theorem t_ky_k {X : t_X0} {i : Nat} (h : 0 ≤ t_ky X i) : t_k X i = 1 := by
  unfold t_ky at h
  split at h
  · assumption
  · omega
/-- the first token at the end -/
theorem t_fe_is {X : t_X0} : ∀ k i : Nat, i ≤ t_fe X k i ∧ t_fe X k i ≤ i + k ∧ (∀ j, i ≤ j → j < t_fe X k i → t_pl X j < X.2) ∧ (t_fe X k i < i + k → X.2 ≤ t_pl X (t_fe X k i))
  | 0, i => ⟨Nat.le_refl _, Nat.le_refl _, fun j h1 h2 => absurd h2 (by show ¬(j < i); omega), fun h => absurd h (by show ¬(i < i + 0); omega)⟩
  | k + 1, i => by
    unfold t_fe
    split
    · rename_i h
      obtain ⟨h1, h2, h3, h4⟩ := t_fe_is (X := X) k (i + 1)
      refine ⟨by omega, by omega, fun j j1 j2 => ?_, fun h5 => h4 (by omega)⟩
      by_cases hj : j = i
      · rw [hj]; exact h
      · exact h3 j (by omega) j2
    · rename_i h
      exact ⟨by omega, by omega, fun j j1 j2 => absurd j2 (by omega), fun _ => by omega⟩
theorem t_sz_is {X : t_X0} (hX : t_Xok X) : ∃ z : Nat, t_sz X = (z : Int) + 1 ∧ z ≤ 600 ∧ X.2 ≤ t_pl X z ∧ ∀ j, j < z → t_pl X j < X.2 := by
  obtain ⟨h1, h2, h3, h4⟩ := t_fe_is (X := X) 700 0
  have h5 : t_fe X 700 0 ≤ 600 := by
    by_cases h : t_fe X 700 0 ≤ 600
    · exact h
    · have := h3 600 (by omega) (by omega)
      have := t_pl600 hX (i := 600) (by omega)
      omega
  exact ⟨_, rfl, h5, h4 (by omega), fun j hj => h3 j (by omega) hj⟩
/-- what is read of a sum, an item, an atom: -1 or a token further on -/
theorem t_sg_iff {X : t_X0} {i : Nat} {x : Int} : t_sg X i x = true ↔ t_k X i = 3 ∧ t_v X i = x := by
  unfold t_sg
  rw [Bool.and_eq_true, decide_eq_true_iff, decide_eq_true_iff]
theorem t_nsg {X : t_X0} {i : Nat} {x : Int} (h : ¬(t_k X i = 3 ∧ t_v X i = x)) : ¬(t_sg X i x = true) := fun h2 => h (t_sg_iff.mp h2)
theorem t_need_is {X : t_X0} (i : Nat) (x : Int) : t_need X i x = if t_k X i = 3 ∧ t_v X i = x then (i : Int) + 1 else -1 := by
  unfold t_need
  by_cases h : t_k X i = 3 ∧ t_v X i = x
  · rw [if_pos h, if_pos (t_sg_iff.mpr h)]
  · rw [if_neg h, if_neg (t_nsg h)]
theorem t_k_i {X : t_X0} (hX : t_Xok X) {i : Nat} (h : 1 ≤ t_k X i) : i < 600 := by
  by_cases h2 : i < 600
  · exact h2
  · have := t_k600 hX (i := i) (by omega)
    omega
theorem t_var_iff {X : t_X0} {i : Nat} : t_var X i = true ↔ (0 ≤ t_ky X i ∧ t_ky X i ≤ 7) ∧ t_ky X i ≠ 2 ∧ t_ky X i ≠ 3 := by
  unfold t_var
  rw [Bool.and_eq_true, Bool.and_eq_true, Bool.and_eq_true, decide_eq_true_iff, decide_eq_true_iff, Bool.not_eq_true', decide_eq_false_iff_not, Bool.not_eq_true', decide_eq_false_iff_not, and_assoc]
theorem t_nam_iff {X : t_X0} {i : Nat} : t_nam X i = true ↔ (t_k X i = 1 ∧ t_v X i ≠ 0) ∧ (t_ky X i < 0 ∨ 7 < t_ky X i) := by
  unfold t_nam
  rw [Bool.and_eq_true, Bool.and_eq_true, Bool.or_eq_true, decide_eq_true_iff, decide_eq_true_iff, decide_eq_true_iff, Bool.not_eq_true', decide_eq_false_iff_not]
theorem t_b_iff {b : Bool} : t_b b = if b = true then 1 else 0 := rfl
/-- all six kinds of reading, by the place left over: -1, or at least the place (one more for atoms, items, sums), and at most 600 tokens on -/
theorem t_px_bd {X : t_X0} (hX : t_Xok X) : ∀ (n i sel d : Nat), (700 - i) * 6 + sel < n → i ≤ 600 → t_px X sel i d = -1 ∨ ((i : Int) + (if sel = 1 ∨ sel = 3 then 0 else 1) ≤ t_px X sel i d ∧ t_px X sel i d ≤ 600)
  | 0, _, _, _, h, _ => absurd h (by omega)
  | n + 1, i, sel, d, h, hi => by
    have hi7 : i < 700 := by omega
    rcases (show sel = 0 ∨ sel = 1 ∨ sel = 2 ∨ sel = 3 ∨ 4 ≤ sel by omega) with rfl | rfl | rfl | rfl | h4
    · rw [t_px0 hi7]
      have hK := t_k_i hX (i := i)
      split
      · rename_i h1
        have : 1 ≤ t_k X i := by
          rw [Bool.or_eq_true, decide_eq_true_iff] at h1
          rcases h1 with h1 | h1
          · omega
          · have := t_ky_k (X := X) (i := i) (t_var_iff.mp h1).1.1
            omega
        have := hK this
        right
        rw [if_neg (by omega)]
        omega
      · split
        · rename_i h2
          have := hK (by have := (t_sg_iff.mp h2).1; omega)
          split
          · exact Or.inl rfl
          · split
            · rename_i h5
              rcases t_px_bd hX n (i + 1) 4 (d + 1) (by omega) (by omega) with h6 | ⟨h6, h7⟩
              · omega
              · rw [t_need_is]
                split
                · rename_i h8
                  have := t_k_i hX (i := (t_px X 4 (i + 1) (d + 1)).toNat) (by omega)
                  right
                  rw [if_neg (by omega)]
                  rw [if_neg (by omega)] at h6
                  omega
                · exact Or.inl rfl
            · exact Or.inl rfl
        · exact Or.inl rfl
    · rw [t_px1 hi7]
      split
      · rename_i h1
        have hK : i < 600 := t_k_i hX (by
          rw [Bool.or_eq_true] at h1
          rcases h1 with h1 | h1 <;> (have := (t_sg_iff.mp h1).1; omega))
        split
        · rename_i h5
          rcases t_px_bd hX n (i + 1) 0 d (by omega) (by omega) with h6 | ⟨h6, h7⟩
          · omega
          · rw [if_neg (by omega)] at h6
            rcases t_px_bd hX n (t_px X 0 (i + 1) d).toNat 1 d (by omega) (by omega) with h8 | ⟨h8, h9⟩
            · exact Or.inl h8
            · right
              rw [if_pos (by omega)] at h8 ⊢
              omega
        · exact Or.inl rfl
      · right
        rw [if_pos (by omega)]
        omega
    · rw [t_px2 hi7]
      split
      · rename_i h5
        rcases t_px_bd hX n i 0 d (by omega) hi with h6 | ⟨h6, h7⟩
        · omega
        · rw [if_neg (by omega)] at h6
          rcases t_px_bd hX n (t_px X 0 i d).toNat 1 d (by omega) (by omega) with h8 | ⟨h8, h9⟩
          · exact Or.inl h8
          · right
            rw [if_pos (by omega)] at h8
            rw [if_neg (by omega)]
            omega
      · exact Or.inl rfl
    · rw [t_px3 hi7]
      split
      · rename_i h1
        have hK : i < 600 := t_k_i hX (by
          rw [Bool.or_eq_true] at h1
          rcases h1 with h1 | h1 <;> (have := (t_sg_iff.mp h1).1; omega))
        split
        · rename_i h5
          rcases t_px_bd hX n (i + 1) 2 d (by omega) (by omega) with h6 | ⟨h6, h7⟩
          · omega
          · rw [if_neg (by omega)] at h6
            rcases t_px_bd hX n (t_px X 2 (i + 1) d).toNat 3 d (by omega) (by omega) with h8 | ⟨h8, h9⟩
            · exact Or.inl h8
            · right
              rw [if_pos (by omega)] at h8 ⊢
              omega
        · exact Or.inl rfl
      · right
        rw [if_pos (by omega)]
        omega
    · have e : t_px X sel i d = t_px X 4 i d := by
        rw [t_px, dif_pos hi7, dif_neg (by omega), dif_neg (by omega), dif_neg (by omega), dif_neg (by omega), t_px4 hi7]
        rfl
      rw [e, t_px4 hi7]
      split
      · rename_i h5
        rcases t_px_bd hX n i 2 d (by omega) hi with h6 | ⟨h6, h7⟩
        · omega
        · rw [if_neg (by omega)] at h6
          rcases t_px_bd hX n (t_px X 2 i d).toNat 3 d (by omega) (by omega) with h8 | ⟨h8, h9⟩
          · exact Or.inl h8
          · right
            rw [if_pos (by omega)] at h8
            rw [if_neg (by omega)]
            omega
      · exact Or.inl rfl
theorem t_px_ge {X : t_X0} (hX : t_Xok X) {i : Nat} (sel d : Nat) (hi : i ≤ 600) : t_px X sel i d = -1 ∨ ((i : Int) + (if sel = 1 ∨ sel = 3 then 0 else 1) ≤ t_px X sel i d ∧ t_px X sel i d ≤ 600) := t_px_bd hX _ i sel d (Nat.lt_succ_self _) hi
/-- behind the text nothing is read -/
theorem t_px_gt {X : t_X0} (hX : t_Xok X) {i : Nat} (sel d : Nat) (hi : 600 ≤ i) : t_px X sel i d = -1 ∨ (t_px X sel i d = (i : Int) ∧ (sel = 1 ∨ sel = 3)) := by
  have hk := t_k600 hX hi
  have hs : ∀ x, ¬(t_sg X i x = true) := fun x => t_nsg (by omega)
  have hv : ¬(t_var X i = true) := fun h => by
    have := t_ky_k (X := X) (i := i) (t_var_iff.mp h).1.1
    omega
  have h0 : i < 700 → t_px X 0 i d = -1 := fun h7 => by
    rw [t_px0 h7, if_neg (by rw [Bool.or_eq_true, decide_eq_true_iff]; exact fun h => h.elim (by omega) hv), if_neg (hs _)]
  have h2 : i < 700 → t_px X 2 i d = -1 := fun h7 => by
    rw [t_px2 h7, h0 h7, if_neg (by omega)]
  by_cases h7 : i < 700
  · rcases (show sel = 0 ∨ sel = 1 ∨ sel = 2 ∨ sel = 3 ∨ 4 ≤ sel by omega) with rfl | rfl | rfl | rfl | h4
    · exact Or.inl (h0 h7)
    · rw [t_px1 h7, if_neg (by rw [Bool.or_eq_true]; exact fun h => h.elim (hs _) (hs _))]
      exact Or.inr ⟨rfl, Or.inl rfl⟩
    · exact Or.inl (h2 h7)
    · rw [t_px3 h7, if_neg (by rw [Bool.or_eq_true]; exact fun h => h.elim (hs _) (hs _))]
      exact Or.inr ⟨rfl, Or.inr rfl⟩
    · have e : t_px X sel i d = t_px X 4 i d := by
        rw [t_px, dif_pos h7, dif_neg (by omega), dif_neg (by omega), dif_neg (by omega), dif_neg (by omega), t_px4 h7]
        rfl
      rw [e, t_px4 h7, h2 h7, if_neg (by omega)]
      exact Or.inl rfl
  · rw [t_px, dif_neg h7]
    exact Or.inl rfl
theorem t_px_in {X : t_X0} (hX : t_Xok X) {i : Nat} (sel d : Nat) : t_px X sel i d = -1 ∨ (i : Int) + (if sel = 1 ∨ sel = 3 then 0 else 1) ≤ t_px X sel i d := by
  by_cases hi : i ≤ 600
  · rcases t_px_ge hX sel d hi with h | h
    · exact Or.inl h
    · exact Or.inr h.1
  · rcases t_px_gt hX sel d (i := i) (by omega) with h | ⟨h, h2⟩
    · exact Or.inl h
    · right
      rw [if_pos h2]
      omega
