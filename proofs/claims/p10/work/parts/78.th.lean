/-! lemmas for the rules -/
def t_rds (g v : Nat → Int) : Nat → List cLin → Prop
  | _, [] => True
  | k, q :: l => (∃ j : Nat, c_ev v q = (j : Int) ∧ c_gv j (g j) = v k) ∧ t_rds g v (k + 1) l
def t_fas (v : Nat → Int) : List cLin → Prop
  | [] => True
  | f :: l => 0 ≤ c_ev v f ∧ t_fas v l
theorem t_rds_ok {g v : Nat → Int} : ∀ (l : List cLin) (k : Nat), (∀ (i : Nat) (q : cLin), l[i]? = some q → ∃ j : Nat, c_ev v q = (j : Int) ∧ c_gv j (g j) = v (k + i)) → t_rds g v k l
  | [], _, _ => trivial
  | q :: l, k, h => ⟨h 0 q rfl, t_rds_ok l (k + 1) fun i q' hq => by
    have := h (i + 1) q' hq
    rwa [show k + (i + 1) = k + 1 + i by omega] at this⟩
theorem t_fas_to {v : Nat → Int} : ∀ {l : List cLin}, (∀ f ∈ l, 0 ≤ c_ev v f) → t_fas v l
  | [], _ => trivial
  | f :: _, h => ⟨h f List.mem_cons_self, t_fas_to fun f' hf => h f' (List.mem_cons_of_mem _ hf)⟩
theorem t_fas_of {v : Nat → Int} : ∀ {l : List cLin}, t_fas v l → ∀ f ∈ l, 0 ≤ c_ev v f
  | _ :: _, h, f, hf => by
    rcases List.mem_cons.mp hf with rfl | hf
    · exact h.1
    · exact t_fas_of h.2 f hf
theorem t_okI {g : Nat → Int} {n : Nat} {R : t_R} (H : ∀ v, t_rds g v n R.1 → t_fas v R.2.1 → t_fas v R.2.2) : t_ok g n R :=
  fun v h1 h2 => t_fas_of (H v (t_rds_ok R.1 n h1) (t_fas_to h2))
theorem t_ky_v {X : t_X0} {i j : Nat} (h : t_ky X i = (j : Int)) : t_keys[j]? = some (t_v X i) := by
  have hk := t_ky_k (X := X) (i := i) (by omega)
  unfold t_ky at h
  rw [if_pos hk] at h
  exact t_key_inv h
theorem t_cn_le1 {X : t_X0} (hX : t_Xok X) {m : Nat} (hm : m ≤ 700) : t_cn (fun s => s.2.1) X m ≤ ((t_la X 700).2.1.length : Int) := by
  cases hs : t_st X m with
  | none => rw [t_cn_n hs]; omega
  | some s =>
    rw [t_cn_s hs]
    have := (t_la_pre hX hs hm).1.length_le
    show (s.2.1.length : Int) ≤ _
    omega
theorem t_cn_le2 {X : t_X0} (hX : t_Xok X) {m : Nat} (hm : m ≤ 700) : t_cn (fun s => s.2.2.1) X m ≤ ((t_la X 700).2.2.1.length : Int) := by
  cases hs : t_st X m with
  | none => rw [t_cn_n hs]; omega
  | some s =>
    rw [t_cn_s hs]
    have := (t_la_pre hX hs hm).2.1.length_le
    show (s.2.2.1.length : Int) ≤ _
    omega
theorem t_cn_le3 {X : t_X0} (hX : t_Xok X) {m : Nat} (hm : m ≤ 700) : t_cn (fun s => s.2.2.2.1) X m ≤ ((t_la X 700).2.2.2.1.length : Int) := by
  cases hs : t_st X m with
  | none => rw [t_cn_n hs]; omega
  | some s =>
    rw [t_cn_s hs]
    have := (t_la_pre hX hs hm).2.2.1.length_le
    show (s.2.2.2.1.length : Int) ≤ _
    omega
theorem t_cn_le4 {X : t_X0} (hX : t_Xok X) {m : Nat} (hm : m ≤ 700) : t_cn (fun s => s.2.2.2.2) X m ≤ ((t_la X 700).2.2.2.2.length : Int) := by
  cases hs : t_st X m with
  | none => rw [t_cn_n hs]; omega
  | some s =>
    rw [t_cn_s hs]
    have := (t_la_pre hX hs hm).2.2.2.length_le
    show (s.2.2.2.2.length : Int) ≤ _
    omega
theorem t_kw_s {X : t_X0} {m : Nat} {s : t_St} {v : Int} (h : t_st X m = some s) : t_kw X m v = t_b (t_kno s v) := by
  unfold t_kw
  rw [h]
theorem t_kw_y {X : t_X0} {m : Nat} {s : t_St} {v : Int} (h : t_st X m = some s) (hk : t_kno s v = true) : t_kw X m v = 1 := by
  rw [t_kw_s h, hk]
  rfl
theorem t_kw1 {X : t_X0} (hX : t_Xok X) {m c : Nat} {v : Int} (hm : m ≤ 700) (hT : t_cn (fun s => s.2.1) X m = (c : Int)) (hF : 0 ≤ t_fd (t_la X 700).2.1 0 c v) : t_kw X m v = 1 := by
  cases hs : t_st X m with
  | none =>
    rw [t_cn_n hs] at hT
    have := t_fd_bd (l := (t_la X 700).2.1) c v
    omega
  | some s =>
    rw [t_cn_s hs] at hT
    have e : c = s.2.1.length := by
      have hT : (s.2.1.length : Int) = c := hT
      omega
    rw [e, t_fd_pre (t_la_pre hX hs hm).1] at hF
    exact t_kw_y hs (t_kno_iff.mpr (Or.inl (Or.inl hF)))
theorem t_kw2 {X : t_X0} (hX : t_Xok X) {m c : Nat} {v : Int} (hm : m ≤ 700) (hT : t_cn (fun s => s.2.2.1) X m = (c : Int)) (hF : 0 ≤ t_fd (t_la X 700).2.2.1 0 c v) : t_kw X m v = 1 := by
  cases hs : t_st X m with
  | none =>
    rw [t_cn_n hs] at hT
    have := t_fd_bd (l := (t_la X 700).2.2.1) c v
    omega
  | some s =>
    rw [t_cn_s hs] at hT
    have e : c = s.2.2.1.length := by
      have hT : (s.2.2.1.length : Int) = c := hT
      omega
    rw [e, t_fd_pre (t_la_pre hX hs hm).2.1] at hF
    exact t_kw_y hs (t_kno_iff.mpr (Or.inl (Or.inr hF)))
theorem t_kw3 {X : t_X0} (hX : t_Xok X) {m c : Nat} {v : Int} (hm : m ≤ 700) (hT : t_cn (fun s => s.2.2.2.1) X m = (c : Int)) (hF : 0 ≤ t_fd (t_la X 700).2.2.2.1 0 c v) : t_kw X m v = 1 := by
  cases hs : t_st X m with
  | none =>
    rw [t_cn_n hs] at hT
    have := t_fd_bd (l := (t_la X 700).2.2.2.1) c v
    omega
  | some s =>
    rw [t_cn_s hs] at hT
    have e : c = s.2.2.2.1.length := by
      have hT : (s.2.2.2.1.length : Int) = c := hT
      omega
    rw [e, t_fd_pre (t_la_pre hX hs hm).2.2.1] at hF
    exact t_kw_y hs (t_kno_iff.mpr (Or.inr hF))
theorem t_kw0 {X : t_X0} (hX : t_Xok X) {m : Nat} {v : Int} {a b c : Nat} (hm : m ≤ 700) (h1 : t_cn (fun s => s.2.1) X m = (a : Int)) (h2 : t_cn (fun s => s.2.2.1) X m = (b : Int)) (h3 : t_cn (fun s => s.2.2.2.1) X m = (c : Int)) (k1 : t_fd (t_la X 700).2.1 0 a v ≤ -1) (k2 : t_fd (t_la X 700).2.2.1 0 b v ≤ -1) (k3 : t_fd (t_la X 700).2.2.2.1 0 c v ≤ -1) : t_kw X m v = 0 := by
  cases hs : t_st X m with
  | none =>
    unfold t_kw
    rw [hs]
  | some s =>
    rw [t_cn_s hs] at h1 h2 h3
    have e1 : a = s.2.1.length := by
      have h1 : (s.2.1.length : Int) = a := h1
      omega
    have e2 : b = s.2.2.1.length := by
      have h2 : (s.2.2.1.length : Int) = b := h2
      omega
    have e3 : c = s.2.2.2.1.length := by
      have h3 : (s.2.2.2.1.length : Int) = c := h3
      omega
    have hp := t_la_pre hX hs hm
    rw [e1, t_fd_pre hp.1] at k1
    rw [e2, t_fd_pre hp.2.1] at k2
    rw [e3, t_fd_pre hp.2.2.1] at k3
    rw [t_kw_s hs]
    have : t_kno s v = false := by
      cases h9 : t_kno s v with
      | false => rfl
      | true =>
        have := t_kno_iff.mp h9
        omega
    rw [this]
    rfl
theorem t_tk0 {X : t_X0} {m : Nat} {s : t_St} (h : t_st X m = some s) : t_tk X m 0 = if t_nwp X s s.2.1 6 = true then (s.1 : Int) + 2 else -1 := by
  unfold t_tk
  rw [h]
  rfl
theorem t_tk1 {X : t_X0} {m : Nat} {s : t_St} (h : t_st X m = some s) : t_tk X m 1 = if t_nwp X s s.2.2.1 6 = true then (s.1 : Int) + 2 else -1 := by
  unfold t_tk
  rw [h]
  rfl
theorem t_tk2 {X : t_X0} {m : Nat} {s : t_St} (h : t_st X m = some s) : t_tk X m 2 = if t_nwp X s s.2.2.2.1 4 = true then (s.1 : Int) + 2 else -1 := by
  unfold t_tk
  rw [h]
  rfl
theorem t_pt_t {X : t_X0} {m : Nat} {s : t_St} (h : t_st X m = some s) (hy : t_ky X s.1 = 0) : t_pt X m = if (t_nwp X s s.2.1 6 = true ∧ t_sg X (s.1 + 2) 59 = true) then (s.1 : Int) + 3 else -1 := by
  rw [t_pt_s h]
  unfold t_stp
  rw [if_pos hy]
  by_cases h9 : t_nwp X s s.2.1 6 = true ∧ t_sg X (s.1 + 2) 59 = true
  · rw [if_pos h9, if_pos (by rw [Bool.and_eq_true]; exact h9)]
    show (((s.1 + 3 : Nat)) : Int) = _
    omega
  · rw [if_neg h9, if_neg (by rw [Bool.and_eq_true]; exact h9)]
theorem t_pt_k {X : t_X0} {m : Nat} {s : t_St} (h : t_st X m = some s) (hy : t_ky X s.1 = 1) : t_pt X m = if (t_nwp X s s.2.2.1 6 = true ∧ t_sg X (s.1 + 2) 59 = true) then (s.1 : Int) + 3 else -1 := by
  rw [t_pt_s h]
  unfold t_stp
  rw [if_neg (by omega), if_pos hy]
  by_cases h9 : t_nwp X s s.2.2.1 6 = true ∧ t_sg X (s.1 + 2) 59 = true
  · rw [if_pos h9, if_pos (by rw [Bool.and_eq_true]; exact h9)]
    show (((s.1 + 3 : Nat)) : Int) = _
    omega
  · rw [if_neg h9, if_neg (by rw [Bool.and_eq_true]; exact h9)]
theorem t_pt_b {X : t_X0} {m : Nat} {s : t_St} (h : t_st X m = some s) (hy : t_ky X s.1 = 2) : t_pt X m = if (s.2.2.2.2.length < 3 ∧ t_nam X (s.1 + 1) = true ∧ 0 ≤ t_at0 s.2.1 (t_v X (s.1 + 1)) 0 ∧ t_at0 s.2.2.2.2 (t_at0 s.2.1 (t_v X (s.1 + 1)) 0) 0 < 0 ∧ t_k X (s.1 + 2) = 2 ∧ t_v X (s.1 + 2) ≤ 11 ∧ t_sg X (s.1 + 3) 59 = true) then (s.1 : Int) + 4 else -1 := by
  rw [t_pt_s h]
  unfold t_stp
  rw [if_neg (by omega), if_neg (by omega), if_pos hy]
  have e : (decide (s.2.2.2.2.length < 3) && t_nam X (s.1 + 1) && decide (0 ≤ t_at0 s.2.1 (t_v X (s.1 + 1)) 0) && decide (t_at0 s.2.2.2.2 (t_at0 s.2.1 (t_v X (s.1 + 1)) 0) 0 < 0) && decide (t_k X (s.1 + 2) = 2) && decide (t_v X (s.1 + 2) ≤ 11) && t_sg X (s.1 + 3) 59) = true ↔ (s.2.2.2.2.length < 3 ∧ t_nam X (s.1 + 1) = true ∧ 0 ≤ t_at0 s.2.1 (t_v X (s.1 + 1)) 0 ∧ t_at0 s.2.2.2.2 (t_at0 s.2.1 (t_v X (s.1 + 1)) 0) 0 < 0 ∧ t_k X (s.1 + 2) = 2 ∧ t_v X (s.1 + 2) ≤ 11 ∧ t_sg X (s.1 + 3) 59 = true) := by
    rw [Bool.and_eq_true, Bool.and_eq_true, Bool.and_eq_true, Bool.and_eq_true, Bool.and_eq_true, Bool.and_eq_true, decide_eq_true_iff, decide_eq_true_iff, decide_eq_true_iff, decide_eq_true_iff, decide_eq_true_iff]
    exact ⟨fun ⟨⟨⟨⟨⟨⟨a1, a2⟩, a3⟩, a4⟩, a5⟩, a6⟩, a7⟩ => ⟨a1, a2, a3, a4, a5, a6, a7⟩, fun ⟨a1, a2, a3, a4, a5, a6, a7⟩ => ⟨⟨⟨⟨⟨⟨a1, a2⟩, a3⟩, a4⟩, a5⟩, a6⟩, a7⟩⟩
  by_cases h9 : (s.2.2.2.2.length < 3 ∧ t_nam X (s.1 + 1) = true ∧ 0 ≤ t_at0 s.2.1 (t_v X (s.1 + 1)) 0 ∧ t_at0 s.2.2.2.2 (t_at0 s.2.1 (t_v X (s.1 + 1)) 0) 0 < 0 ∧ t_k X (s.1 + 2) = 2 ∧ t_v X (s.1 + 2) ≤ 11 ∧ t_sg X (s.1 + 3) 59 = true)
  · rw [if_pos h9, if_pos (e.mpr h9)]
    show (((s.1 + 4 : Nat)) : Int) = _
    omega
  · rw [if_neg h9, if_neg (fun h8 => h9 (e.mp h8))]
theorem t_pt_l {X : t_X0} {m : Nat} {s : t_St} (h : t_st X m = some s) (hy : t_ky X s.1 = 3) : t_pt X m = if (t_nwp X s s.2.2.2.1 4 = true ∧ (s.1 : Int) < t_px X 4 (s.1 + 2) 0 ∧ t_sg X (t_px X 4 (s.1 + 2) 0).toNat 59 = true) then t_px X 4 (s.1 + 2) 0 + 1 else -1 := by
  rw [t_pt_s h]
  unfold t_stp
  rw [if_neg (by omega), if_neg (by omega), if_neg (by omega), if_pos hy]
  by_cases h9 : (t_nwp X s s.2.2.2.1 4 = true ∧ (s.1 : Int) < t_px X 4 (s.1 + 2) 0 ∧ t_sg X (t_px X 4 (s.1 + 2) 0).toNat 59 = true)
  · rw [if_pos h9, if_pos (by rw [Bool.and_eq_true, Bool.and_eq_true, decide_eq_true_iff]; exact ⟨⟨h9.1, h9.2.1⟩, h9.2.2⟩)]
    show ((((t_px X 4 (s.1 + 2) 0).toNat + 1 : Nat)) : Int) = _
    have := h9.2.1
    omega
  · rw [if_neg h9, if_neg (by rw [Bool.and_eq_true, Bool.and_eq_true, decide_eq_true_iff]; exact fun h8 => h9 ⟨h8.1.1, h8.1.2, h8.2⟩)]
theorem t_pt_e {X : t_X0} {m : Nat} {s : t_St} (h : t_st X m = some s) (hy : t_ky X s.1 ≠ 0 ∧ t_ky X s.1 ≠ 1 ∧ t_ky X s.1 ≠ 2 ∧ t_ky X s.1 ≠ 3) : t_pt X m = -1 := by
  rw [t_pt_s h]
  unfold t_stp
  rw [if_neg hy.1, if_neg hy.2.1, if_neg hy.2.2.1, if_neg hy.2.2.2]
theorem t_pt_n {X : t_X0} {m : Nat} {s : t_St} (h : t_st X m = some s) (hp : t_pt X m = -1) : t_stp X s = none := by
  rw [t_pt_s h] at hp
  cases hs : t_stp X s with
  | none => rfl
  | some s' =>
    rw [hs] at hp
    have hp : (s'.1 : Int) = -1 := hp
    omega
theorem t_nxt {X : t_X0} {m : Nat} {s : t_St} (h : t_st X m = some s) (hk : t_k X s.1 ≠ 0) (hp : 0 ≤ t_pt X m) : ∃ s', t_stp X s = some s' ∧ t_st X (m + 1) = some s' := by
  rw [t_pt_s h] at hp
  split at hp
  · rename_i s' h1
    exact ⟨s', h1, by rw [t_st_s h, if_neg hk, h1]⟩
  · omega
theorem t_ix_nx {X : t_X0} {m : Nat} {s : t_St} (h : t_st X m = some s) (hk : t_k X s.1 ≠ 0) : t_ix X (m + 1) = t_pt X m := by
  rw [t_pt_s h]
  unfold t_ix
  rw [t_st_s h, if_neg hk]
  cases t_stp X s <;> rfl
theorem t_pt_some {X : t_X0} {m : Nat} (hp : 0 ≤ t_pt X m) : ∃ s, t_st X m = some s ∧ ∃ s', t_stp X s = some s' ∧ t_pt X m = (s'.1 : Int) := by
  unfold t_pt at hp ⊢
  split at hp
  · rename_i s hs
    split at hp
    · rename_i s' hs'
      exact ⟨s, hs, s', hs', rfl⟩
    · omega
  · omega
