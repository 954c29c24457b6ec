/-! the claim's tables are as the checker wants them -/
def k_okRw (x : cVT) : Bool := !(Nat.beq x.1 3 || Nat.beq x.1 4) || Nat.ble x.2.1.toNat 100
theorem k_okRw_ok {x : cVT} (h : k_okRw x = true) (h3 : x.1 = 3 ∨ x.1 = 4) : x.2.1.toNat ≤ 100 := by
  unfold k_okRw at h
  rw [Bool.or_eq_true] at h
  rcases h with h | h
  · rcases h3 with e | e
    · rw [e] at h; exact absurd h (by decide)
    · rw [e] at h; exact absurd h (by decide)
  · exact Nat.le_of_ble_eq_true h
theorem k_reg_okN {j : Nat} : ∀ {l : List (Nat × Nat × cVT)}, l.all (fun q => k_okRw q.2.2) = true → k_okRw (k_reg j l) = true
  | [], _ => rfl
  | q :: l, h => by
    rw [List.all_cons, Bool.and_eq_true] at h
    unfold k_reg
    split
    · exact h.1
    · exact k_reg_okN h.2
theorem k_unisN : k_unis.all (fun q => k_okRw q.2) = true := by decide +kernel
theorem k_regCN : k_regC.all (fun q => k_okRw q.2.2) = true := by decide +kernel
theorem k_typsN : k_typs.all (fun q => q.2.all (fun z => k_okRw z.2.2)) = true := by decide +kernel
theorem k_typCN (j : Nat) : k_okRw (k_typC j) = true := by
  unfold k_typC
  split
  · rfl
  · split
    · split
      · rfl
      · rfl
    · exact k_reg_okN k_regCN
theorem k_noRaw : c_noRaw k_K := by
  refine ⟨fun t j h => k_okRw_ok ?_ h, fun i hi h => ?_⟩
  · unfold c_ty
    split
    · rename_i x hx
      have hx : k_look t k_unis = some x := hx
      exact List.all_eq_true.mp k_unisN _ (k_look_ok hx)
    · show k_okRw (if Nat.beq t 58 then k_typC j else match k_look t k_typs with
        | some l => k_reg j l
        | none => (5, 0, 0)) = true
      split
      · exact k_typCN j
      · split
        · rename_i l hl
          exact k_reg_okN (List.all_eq_true.mp k_typsN _ (k_look_ok hl))
        · rfl
  · have h9 : k_imps.all (fun i => k_okRw i.2.2.2) = true := by decide +kernel
    exact k_okRw_ok (List.all_eq_true.mp h9 i hi) h
theorem k_tabsOk : c_tabsOk k_K k_P k_cl k_Z "MayBoats$Book" := ⟨k_Jfr, k_Jnw, k_noRaw, k_acOk, k_libOk, k_clsOk, k_good, k_mOk, k_lnkOk, k_nest⟩
/-- what a contract's proof may take: the tables, and all contracts at less depth -/
abbrev k_Go (l : Launch) (D : va_G) (dA : Nat → ClassId) (AA : Nat → Prop) (d : Nat) (ct : cCtr) : Prop := c_Good l D k_cl dA AA "MayBoats$Book" k_K k_Z d ct
abbrev k_Hy (l : Launch) (D : va_G) (dA : Nat → ClassId) (AA : Nat → Prop) (d : Nat) : Prop := ∀ d', d' < d → ∀ a, ∀ ct ∈ k_P.2.1 a, k_Go l D dA AA d' ct
def k_allB (P : cCtr → Prop) : List cCtr → Prop
  | [] => True
  | c :: l => P c ∧ k_allB P l
def k_allC (P : cCtr → Prop) : List (Nat × List cCtr) → Prop
  | [] => True
  | q :: l => k_allB P q.2 ∧ k_allC P l
theorem k_allB_mem {P : cCtr → Prop} : ∀ {l : List cCtr}, k_allB P l → ∀ c ∈ l, P c
  | [], _, c, hc => by cases hc
  | x :: l, h, c, hc => by
    rcases List.mem_cons.mp hc with rfl | hc
    · exact h.1
    · exact k_allB_mem h.2 c hc
theorem k_allC_mem {P : cCtr → Prop} : ∀ {l : List (Nat × List cCtr)}, k_allC P l → ∀ q ∈ l, k_allB P q.2
  | [], _, c, hc => by cases hc
  | x :: l, h, c, hc => by
    rcases List.mem_cons.mp hc with rfl | hc
    · exact h.1
    · exact k_allC_mem h.2 c hc
theorem k_allC_app {P : cCtr → Prop} : ∀ {l m : List (Nat × List cCtr)}, k_allC P l → k_allC P m → k_allC P (l ++ m)
  | [], _, _, h => h
  | _ :: _, _, h, h' => ⟨h.1, k_allC_app h.2 h'⟩
