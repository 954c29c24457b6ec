/-! the tape: as long in both -/
def k_R (a1 a2 : Nat) (w : cWld) : Prop := ∃ z, k_fn w a1 12 7 z ∧ k_fn w a2 13 8 z
def k_offR (E : cEff) : Bool := c_off E 12 7 7 && c_off E 13 8 8
theorem k_RK {E : cEff} {pros : List Nat} {w w' : cWld} {a1 a2 : Nat} (h : c_ext E pros w w') (hp : pros.all (fun t => Nat.ble 101 t) = true) (hE : k_offR E = true) (hR : k_R a1 a2 w) : k_R a1 a2 w' := by
  unfold k_offR at hE
  rw [Bool.and_eq_true] at hE
  obtain ⟨z, h1, h2⟩ := hR
  exact ⟨z, k_fnK h hp (by decide) hE.1 h1, k_fnK h hp (by decide) hE.2 h2⟩
theorem k_R0 {w : cWld} {a1 a2 : Nat} (h1 : k_fn w a1 12 7 0) (h2 : k_fn w a2 13 8 0) : k_R a1 a2 w := ⟨0, h1, h2⟩
theorem k_feedC {w w' : cWld} {a : Nat} {x1 x2 x3 x4 x5 z r : Int} (h : c_Post k_c129_0 (k_rv [(a : Int), x1, x2, x3, x4, x5, z]) w w' [r]) (hin : c_in w' a 12) : ∃ n, k_fn w' a 12 7 n ∧ ((r = -1 ∧ n = z ∧ 581 ≤ z) ∨ (r = z + 20 ∧ n = z + 20 ∧ z ≤ 580)) := by
  obtain ⟨-, -, d, hd, rr, q1, q2, q3, q4, -⟩ := h
  have e1 : rr 1 = (a : Int) := q1 1 (by decide)
  have f1 : rr 2 = x1 := q1 2 (by decide)
  have f2 : rr 3 = x2 := q1 3 (by decide)
  have f3 : rr 4 = x3 := q1 4 (by decide)
  have f4 : rr 5 = x4 := q1 5 (by decide)
  have f5 : rr 6 = x5 := q1 6 (by decide)
  have e2 : rr 7 = z := q1 7 (by decide)
  have e3 : rr 8 = r := q2 0 _ rfl
  have hd : d ∈ ct_post k_c129_0 := hd
  simp only [ct_post, k_c129_0, List.mem_cons, List.not_mem_nil, or_false] at hd
  rcases hd with rfl | rfl <;>
    (have hc : k_fn w' a 12 7 (rr 9) := k_fnD (b := 0) (q3 0 _ rfl) e1 rfl hin
     simp only [List.forall_mem_cons, c_ev, c_evs, List.not_mem_nil, false_implies, implies_true, and_true, e2, e3, f1, f2, f3, f4, f5] at q4
     exact ⟨rr 9, hc, by omega⟩)
theorem k_feedM {w w' : cWld} {a : Nat} {x1 x2 x3 x4 x5 z r : Int} (h : c_Post k_c236_0 (k_rv [(a : Int), x1, x2, x3, x4, x5, z]) w w' [r]) (hin : c_in w' a 13) : ∃ n, k_fn w' a 13 8 n ∧ ((r = -1 ∧ n = z ∧ 581 ≤ z) ∨ (r = z + 20 ∧ n = z + 20 ∧ z ≤ 580)) := by
  obtain ⟨-, -, d, hd, rr, q1, q2, q3, q4, -⟩ := h
  have e1 : rr 1 = (a : Int) := q1 1 (by decide)
  have f1 : rr 2 = x1 := q1 2 (by decide)
  have f2 : rr 3 = x2 := q1 3 (by decide)
  have f3 : rr 4 = x3 := q1 4 (by decide)
  have f4 : rr 5 = x4 := q1 5 (by decide)
  have f5 : rr 6 = x5 := q1 6 (by decide)
  have e2 : rr 7 = z := q1 7 (by decide)
  have e3 : rr 8 = r := q2 0 _ rfl
  have hd : d ∈ ct_post k_c236_0 := hd
  simp only [ct_post, k_c236_0, List.mem_cons, List.not_mem_nil, or_false] at hd
  rcases hd with rfl | rfl <;>
    (have hc : k_fn w' a 13 8 (rr 9) := k_fnD (b := 0) (q3 0 _ rfl) e1 rfl hin
     simp only [List.forall_mem_cons, c_ev, c_evs, List.not_mem_nil, false_implies, implies_true, and_true, e2, e3, f1, f2, f3, f4, f5] at q4
     exact ⟨rr 9, hc, by omega⟩)
theorem k_landC {w w' : cWld} {a : Nat} {x1 z r : Int} (h : c_Post k_c132_0 (k_rv [(a : Int), x1, z]) w w' [r]) (hin : c_in w' a 12) : ∃ n, k_fn w' a 12 7 n ∧ ((n = 0 ∧ 0 ≤ x1 ∧ x1 ≤ z) ∨ (n = z ∧ (x1 < 0 ∨ z < x1))) := by
  obtain ⟨-, -, d, hd, rr, q1, q2, q3, q4, -⟩ := h
  have e1 : rr 1 = (a : Int) := q1 1 (by decide)
  have f1 : rr 2 = x1 := q1 2 (by decide)
  have e2 : rr 3 = z := q1 3 (by decide)
  have e3 : rr 4 = r := q2 0 _ rfl
  have hd : d ∈ ct_post k_c132_0 := hd
  simp only [ct_post, k_c132_0, List.mem_cons, List.not_mem_nil, or_false] at hd
  rcases hd with rfl | rfl | rfl <;>
    (have hc : k_fn w' a 12 7 (rr 5) := k_fnD (b := 0) (q3 0 _ rfl) e1 rfl hin
     simp only [List.forall_mem_cons, c_ev, c_evs, List.not_mem_nil, false_implies, implies_true, and_true, e2, e3, f1] at q4
     exact ⟨rr 5, hc, by omega⟩)
theorem k_landM {w w' : cWld} {a : Nat} {x1 z r : Int} (h : c_Post k_c250_0 (k_rv [(a : Int), x1, 0, z]) w w' [r]) (hin : c_in w' a 13) : ∃ n, k_fn w' a 13 8 n ∧ ((n = 0 ∧ 0 ≤ x1 ∧ x1 ≤ z) ∨ (n = z ∧ (x1 < 0 ∨ z < x1))) := by
  obtain ⟨-, -, d, hd, rr, q1, q2, q3, q4, -⟩ := h
  have e1 : rr 1 = (a : Int) := q1 1 (by decide)
  have f1 : rr 2 = x1 := q1 2 (by decide)
  have e2 : rr 4 = z := q1 4 (by decide)
  have e3 : rr 5 = r := q2 0 _ rfl
  have hd : d ∈ ct_post k_c250_0 := hd
  simp only [ct_post, k_c250_0, List.mem_cons, List.not_mem_nil, or_false] at hd
  rcases hd with rfl | rfl | rfl <;>
    (have hc : k_fn w' a 13 8 (rr 7) := k_fnD (b := 0) (q3 1 _ rfl) e1 rfl hin
     simp only [List.forall_mem_cons, c_ev, c_evs, List.not_mem_nil, false_implies, implies_true, and_true, e2, e3, f1] at q4
     exact ⟨rr 7, hc, by omega⟩)
theorem k_waysC {w w' : cWld} {a : Nat} {x1 z r : Int} (h : c_Post k_c190_0 (k_rv [(a : Int), x1, z]) w w' [r]) (hin : c_in w' a 12) : ∃ n, k_fn w' a 12 7 n ∧ ((n = 0 ∧ 0 ≤ x1 ∧ x1 ≤ z ∧ x1 ≤ 300) ∨ (n = z ∧ (x1 < 0 ∨ z < x1 ∨ 300 < x1))) := by
  obtain ⟨-, -, d, hd, rr, q1, q2, q3, q4, -⟩ := h
  have e1 : rr 1 = (a : Int) := q1 1 (by decide)
  have f1 : rr 2 = x1 := q1 2 (by decide)
  have e2 : rr 3 = z := q1 3 (by decide)
  have e3 : rr 4 = r := q2 0 _ rfl
  have hd : d ∈ ct_post k_c190_0 := hd
  simp only [ct_post, k_c190_0, List.mem_cons, List.not_mem_nil, or_false] at hd
  rcases hd with rfl | rfl | rfl | rfl <;>
    (have hc : k_fn w' a 12 7 (rr 5) := k_fnD (b := 0) (q3 0 _ rfl) e1 rfl hin
     simp only [List.forall_mem_cons, c_ev, c_evs, List.not_mem_nil, false_implies, implies_true, and_true, e2, e3, f1] at q4
     exact ⟨rr 5, hc, by omega⟩)
theorem k_waysM {w w' : cWld} {a : Nat} {x1 z r : Int} (h : c_Post k_c325_0 (k_rv [(a : Int), x1, z]) w w' [r]) (hin : c_in w' a 13) : ∃ n, k_fn w' a 13 8 n ∧ ((n = 0 ∧ 0 ≤ x1 ∧ x1 ≤ z ∧ x1 ≤ 300) ∨ (n = z ∧ (x1 < 0 ∨ z < x1 ∨ 300 < x1))) := by
  obtain ⟨-, -, d, hd, rr, q1, q2, q3, q4, -⟩ := h
  have e1 : rr 1 = (a : Int) := q1 1 (by decide)
  have f1 : rr 2 = x1 := q1 2 (by decide)
  have e2 : rr 3 = z := q1 3 (by decide)
  have e3 : rr 4 = r := q2 0 _ rfl
  have hd : d ∈ ct_post k_c325_0 := hd
  simp only [ct_post, k_c325_0, List.mem_cons, List.not_mem_nil, or_false] at hd
  rcases hd with rfl | rfl | rfl | rfl <;>
    (have hc : k_fn w' a 13 8 (rr 5) := k_fnD (b := 0) (q3 0 _ rfl) e1 rfl hin
     simp only [List.forall_mem_cons, c_ev, c_evs, List.not_mem_nil, false_implies, implies_true, and_true, e2, e3, f1] at q4
     exact ⟨rr 5, hc, by omega⟩)
theorem k_lineC {w w' : cWld} {a : Nat} {x1 z r : Int} (h : c_Post k_c193_0 (k_rv [(a : Int), x1, z]) w w' [r]) (hin : c_in w' a 12) : ∃ n, k_fn w' a 12 7 n ∧ ((n = 0 ∧ 0 ≤ x1 ∧ x1 ≤ z ∧ x1 ≤ 300) ∨ (n = z ∧ (x1 < 0 ∨ z < x1 ∨ 300 < x1))) := by
  obtain ⟨-, -, d, hd, rr, q1, q2, q3, q4, -⟩ := h
  have e1 : rr 1 = (a : Int) := q1 1 (by decide)
  have f1 : rr 2 = x1 := q1 2 (by decide)
  have e2 : rr 3 = z := q1 3 (by decide)
  have e3 : rr 4 = r := q2 0 _ rfl
  have hd : d ∈ ct_post k_c193_0 := hd
  simp only [ct_post, k_c193_0, List.mem_cons, List.not_mem_nil, or_false] at hd
  rcases hd with rfl | rfl | rfl | rfl <;>
    (have hc : k_fn w' a 12 7 (rr 5) := k_fnD (b := 0) (q3 0 _ rfl) e1 rfl hin
     simp only [List.forall_mem_cons, c_ev, c_evs, List.not_mem_nil, false_implies, implies_true, and_true, e2, e3, f1] at q4
     exact ⟨rr 5, hc, by omega⟩)
theorem k_lineM {w w' : cWld} {a : Nat} {x1 z r : Int} (h : c_Post k_c346_0 (k_rv [(a : Int), x1, 0, z]) w w' [r]) (hin : c_in w' a 13) : ∃ n, k_fn w' a 13 8 n ∧ ((n = 0 ∧ 0 ≤ x1 ∧ x1 ≤ z ∧ x1 ≤ 300) ∨ (n = z ∧ (x1 < 0 ∨ z < x1 ∨ 300 < x1))) := by
  obtain ⟨-, -, d, hd, rr, q1, q2, q3, q4, -⟩ := h
  have e1 : rr 1 = (a : Int) := q1 1 (by decide)
  have f1 : rr 2 = x1 := q1 2 (by decide)
  have e2 : rr 4 = z := q1 4 (by decide)
  have e3 : rr 5 = r := q2 0 _ rfl
  have hd : d ∈ ct_post k_c346_0 := hd
  simp only [ct_post, k_c346_0, List.mem_cons, List.not_mem_nil, or_false] at hd
  rcases hd with rfl | rfl | rfl | rfl <;>
    (have hc : k_fn w' a 13 8 (rr 7) := k_fnD (b := 0) (q3 1 _ rfl) e1 rfl hin
     simp only [List.forall_mem_cons, c_ev, c_evs, List.not_mem_nil, false_implies, implies_true, and_true, e2, e3, f1] at q4
     exact ⟨rr 7, hc, by omega⟩)
