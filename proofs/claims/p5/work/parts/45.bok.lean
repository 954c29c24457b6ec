/-! bodies, by one boolean each -/
def k_retB (k : Nat) (ret : Option FieldType) : Bool := match k with
  | 0 => decide (ret = none)
  | 1 => decide (ret = some .int)
  | 2 => decide (ret = some .long)
  | _ => decide (ret = some .boolean)
theorem k_retB_ok {k : Nat} {ret : Option FieldType} (h : k_retB k ret = true) : c_retT1 k ret := by
  unfold k_retB at h
  unfold c_retT1
  split at h
  · exact of_decide_eq_true h
  · exact of_decide_eq_true h
  · exact of_decide_eq_true h
  · exact of_decide_eq_true h
def k_iniB (M : cMth) (b : cBody) : Bool := match c_annOf 0 3 b.2.2.1 with
  | none => true
  | some ci => decide (M.1.name = "<init>") && (match k_cl[ci]? with
    | some q => decide (q.1 = M.1.cls)
    | none => true)
def k_bodyB (O : cCtr) (b : cBody) : Bool := match k_look (ct_m O) k_mths with
  | none => false
  | some M => plainName M.1.cls && Nat.beq b.1 M.2.2.1 && decide (k_nm b.2.1 = M.1.cls) && b.2.2.2.1.all (fun q => q.2.all (fun x => decide (decode M.2.1 x.1 = .ok x.2))) && k_retB (ct_ret O) M.2.2.2.1 && k_iniB M b
theorem k_bodyB_ok {O : cCtr} {b : cBody} (h : k_bodyB O b = true) : ∃ M, k_Z.2.1 (ct_m O) = some M ∧ c_bodyOk k_cl k_Z O M b := by
  unfold k_bodyB at h
  split at h
  · cases h
  · rename_i M hM
    rw [Bool.and_eq_true, Bool.and_eq_true, Bool.and_eq_true, Bool.and_eq_true, Bool.and_eq_true] at h
    obtain ⟨⟨⟨⟨⟨h1, h2⟩, h3⟩, h4⟩, h5⟩, h6⟩ := h
    refine ⟨M, hM, h1, Nat.eq_of_beq_eq_true h2, of_decide_eq_true h3, fun q hq x hx => of_decide_eq_true (List.all_eq_true.mp (List.all_eq_true.mp h4 q hq) x hx), k_retB_ok h5, fun ci hci => ?_⟩
    unfold k_iniB at h6
    rw [hci] at h6
    dsimp only at h6
    rw [Bool.and_eq_true] at h6
    refine ⟨of_decide_eq_true h6.1, fun C T N hC => ?_⟩
    have h7 := h6.2
    rw [hC] at h7
    exact of_decide_eq_true h7
