/-! bodies, by one boolean each -/
def k_retB (k : Nat) (ret : Option FieldType) : Bool := match k with
  | 0 => decide (ret = none)
  | 1 => decide (ret = some .int)
  | 2 => decide (ret = some .long)
  | _ => decide (ret = some .boolean)
theorem k_retB_ok {k : Nat} {ret : Option FieldType} (h : k_retB k ret = true) : c_retT1 k ret := by
  unfold k_retB at h
  unfold c_retT1
  split at h
  · exact of_decide_eq_true h
  · exact of_decide_eq_true h
  · exact of_decide_eq_true h
  · exact of_decide_eq_true h
def k_iniB (M : cMth) (b : cBody) : Bool := match c_annOf 0 3 b.2.2.1 with
  | none => true
  | some ci => decide (M.1.name = "<init>") && (match k_cl[ci]? with
    | some q => decide (q.1 = M.1.cls)
    | none => true)
def k_bodyB (M : cMth) (O : cCtr) (b : cBody) : Bool := plainName M.1.cls && Nat.beq b.1 M.2.2.1 && decide (k_nm b.2.1 = M.1.cls) && k_decB M.2.1 b.2.2.2.1 && k_retB (ct_ret O) M.2.2.2.1 && k_iniB M b
theorem k_bodyB_ok {M : cMth} {O : cCtr} {b : cBody} (h : k_bodyB M O b = true) : c_bodyOk k_cl k_Z O M b := by
  unfold k_bodyB at h
  rw [Bool.and_eq_true, Bool.and_eq_true, Bool.and_eq_true, Bool.and_eq_true, Bool.and_eq_true] at h
  obtain ⟨⟨⟨⟨⟨h1, h2⟩, h3⟩, h4⟩, h5⟩, h6⟩ := h
  refine ⟨h1, Nat.eq_of_beq_eq_true h2, of_decide_eq_true h3, k_decB_ok h4, k_retB_ok h5, fun ci hci => ?_⟩
  unfold k_iniB at h6
  rw [hci] at h6
  dsimp only at h6
  rw [Bool.and_eq_true] at h6
  refine ⟨of_decide_eq_true h6.1, fun C T N hC => ?_⟩
  have h7 := h6.2
  rw [hC] at h7
  exact of_decide_eq_true h7
/-- which instructions are by hand -/
def k_anB (l : cAnn) (ks : List (Nat × Nat)) : Bool := l.all (fun q => !(Nat.beq q.2.1 9) || ks.any (fun z => Nat.beq z.1 q.1 && Nat.beq z.2 q.2.2))
theorem k_anB_ok {l : cAnn} {ks : List (Nat × Nat)} (h : k_anB l ks = true) {pc k : Nat} (hk : c_annOf pc 9 l = some k) : (pc, k) ∈ ks := by
  have h1 := List.all_eq_true.mp h _ (c_annOf_mem hk)
  rw [Bool.or_eq_true] at h1
  rcases h1 with h1 | h1
  · have h1 : (!(Nat.beq 9 9)) = true := h1
    exact absurd h1 (by decide)
  · obtain ⟨z, z1, z2⟩ := List.any_eq_true.mp h1
    rw [Bool.and_eq_true] at z2
    have e1 := Nat.eq_of_beq_eq_true z2.1
    have e2 := Nat.eq_of_beq_eq_true z2.2
    have : z = (pc, k) := Prod.ext e1 e2
    rw [← this]
    exact z1
