/-! both answer by their numbers alone -/
theorem k_cmp {w w' v v' : cWld} {x1 y1 r1 r2 : Int32} {a1 a2 : Int} (h1 : c_Post k_c151_0 (k_rv [a1, x1.toInt]) w w' [r1.toInt]) (h2 : c_Post k_c270_0 (k_rv [a2, y1.toInt]) v v' [r2.toInt]) : r1 = r2 := by
  have k1 : (r1.toInt = 1 ∧ (0 ≤ 0)) ∨ (r1.toInt = 0 ∧ ¬ (0 ≤ 0)) := by
    obtain ⟨-, -, d, hd, rr, q1, q2, -, q4, -⟩ := h1
    have f1 : rr 2 = x1.toInt := q1 2 (by decide)
    have e3 : rr 3 = r1.toInt := q2 0 _ rfl
    have hd : d ∈ ct_post k_c151_0 := hd
    simp only [ct_post, k_c151_0, List.mem_cons, List.not_mem_nil, or_false] at hd
    rcases hd with rfl <;>
      (simp only [List.forall_mem_cons, c_ev, c_evs, List.not_mem_nil, false_implies, implies_true, and_true, f1, e3] at q4
       omega)
  have k2 : (r2.toInt = 1 ∧ (0 ≤ 0)) ∨ (r2.toInt = 0 ∧ ¬ (0 ≤ 0)) := by
    obtain ⟨-, -, d, hd, rr, q1, q2, -, q4, -⟩ := h2
    have f1 : rr 2 = y1.toInt := q1 2 (by decide)
    have e3 : rr 3 = r2.toInt := q2 0 _ rfl
    have hd : d ∈ ct_post k_c270_0 := hd
    simp only [ct_post, k_c270_0, List.mem_cons, List.not_mem_nil, or_false] at hd
    rcases hd with rfl | rfl <;>
      (simp only [List.forall_mem_cons, c_ev, c_evs, List.not_mem_nil, false_implies, implies_true, and_true, f1, e3] at q4
       omega)
  apply Int32.toInt_inj.mp
  omega
