/-! both answer by their numbers alone -/
theorem k_cmp {w w' v v' : cWld} {x1 x2 x3 x4 r1 r2 : Int32} {a1 a2 : Int} (h1 : c_Post k_c150_0 (k_rv [a1, x1.toInt, x2.toInt, x3.toInt, x4.toInt]) w w' [r1.toInt]) (h2 : c_Post k_c269_0 (k_rv [a2, x1.toInt, x2.toInt, x3.toInt, x4.toInt]) v v' [r2.toInt]) : r1 = r2 := by
  have k1 : (r1.toInt = 1 ∧ (0 ≤ x1.toInt ∧ x1.toInt ≤ x2.toInt ∧ x2.toInt ≤ 11 ∧ 0 ≤ x3.toInt ∧ x3.toInt ≤ x4.toInt ∧ x4.toInt ≤ 11)) ∨ (r1.toInt = 0 ∧ ¬ (0 ≤ x1.toInt ∧ x1.toInt ≤ x2.toInt ∧ x2.toInt ≤ 11 ∧ 0 ≤ x3.toInt ∧ x3.toInt ≤ x4.toInt ∧ x4.toInt ≤ 11)) := by
    obtain ⟨-, -, d, hd, rr, q1, q2, -, q4, -⟩ := h1
    have f1 : rr 2 = x1.toInt := q1 2 (by decide)
    have f2 : rr 3 = x2.toInt := q1 3 (by decide)
    have f3 : rr 4 = x3.toInt := q1 4 (by decide)
    have f4 : rr 5 = x4.toInt := q1 5 (by decide)
    have e3 : rr 6 = r1.toInt := q2 0 _ rfl
    have hd : d ∈ ct_post k_c150_0 := hd
    simp only [ct_post, k_c150_0, List.mem_cons, List.not_mem_nil, or_false] at hd
    rcases hd with rfl | rfl | rfl | rfl | rfl | rfl | rfl <;>
      (simp only [List.forall_mem_cons, c_ev, c_evs, List.not_mem_nil, false_implies, implies_true, and_true, f1, f2, f3, f4, e3] at q4
       omega)
  have k2 : (r2.toInt = 1 ∧ (0 ≤ x1.toInt ∧ x1.toInt ≤ x2.toInt ∧ x2.toInt ≤ 11 ∧ 0 ≤ x3.toInt ∧ x3.toInt ≤ x4.toInt ∧ x4.toInt ≤ 11)) ∨ (r2.toInt = 0 ∧ ¬ (0 ≤ x1.toInt ∧ x1.toInt ≤ x2.toInt ∧ x2.toInt ≤ 11 ∧ 0 ≤ x3.toInt ∧ x3.toInt ≤ x4.toInt ∧ x4.toInt ≤ 11)) := by
    obtain ⟨-, -, d, hd, rr, q1, q2, -, q4, -⟩ := h2
    have f1 : rr 2 = x1.toInt := q1 2 (by decide)
    have f2 : rr 3 = x2.toInt := q1 3 (by decide)
    have f3 : rr 4 = x3.toInt := q1 4 (by decide)
    have f4 : rr 5 = x4.toInt := q1 5 (by decide)
    have e3 : rr 6 = r2.toInt := q2 0 _ rfl
    have hd : d ∈ ct_post k_c269_0 := hd
    simp only [ct_post, k_c269_0, List.mem_cons, List.not_mem_nil, or_false] at hd
    rcases hd with rfl | rfl | rfl | rfl | rfl | rfl | rfl | rfl | rfl <;>
      (simp only [List.forall_mem_cons, c_ev, c_evs, List.not_mem_nil, false_implies, implies_true, and_true, f1, f2, f3, f4, e3] at q4
       omega)
  apply Int32.toInt_inj.mp
  omega
