/-! rules on the tables, each with its proof (printed by gen_rul.py) -/
-- nd3
theorem t_q65 {g : Nat → Int} (h : t_G g) : t_ok g 2 ([(9671406556917033397649408, [(0, 1)]), (12089258196146291747061760, [(0, 1)]), (20551738933448695970004992, [(0, 1), (1, 1024)])], [(0, [(0, 1)]), (700, [(0, (-1))]), (0, [(1, 1)]), (127, [(1, (-1))]), ((-4), [(2, 1)])], [(1, [(4, 1)]), ((-1), [(4, (-1))])]) := by
  refine t_okI fun v hr hp => ?_
  obtain ⟨rK, rV, rD, -⟩ := hr
  obtain ⟨p0, p1, p2, p3, p4, -⟩ := hp
  have p0 : 0 ≤ 0 + (1 * v 0 + (0)) := p0
  have p1 : 0 ≤ 700 + ((-1) * v 0 + (0)) := p1
  have p2 : 0 ≤ 0 + (1 * v 1 + (0)) := p2
  have p3 : 0 ≤ 127 + ((-1) * v 1 + (0)) := p3
  have p4 : 0 ≤ (-4) + (1 * v 2 + (0)) := p4
  obtain ⟨ni, hi⟩ : ∃ n : Nat, v 0 = (n : Int) := ⟨(v 0).toNat, by omega⟩
  obtain ⟨nx, hx⟩ : ∃ n : Nat, v 1 = (n : Int) := ⟨(v 1).toNat, by omega⟩
  have rK : ∃ j : Nat, 9671406556917033397649408 + (1 * v 0 + (0)) = (j : Int) ∧ c_gv j (g j) = v 2 := rK
  have eK := t_g8 h ni (by omega) rK (by omega)
  have rV : ∃ j : Nat, 12089258196146291747061760 + (1 * v 0 + (0)) = (j : Int) ∧ c_gv j (g j) = v 3 := rV
  have eV := t_g10 h ni (by omega) rV (by omega)
  have rD : ∃ j : Nat, 20551738933448695970004992 + (1 * v 0 + (1024 * v 1 + (0))) = (j : Int) ∧ c_gv j (g j) = v 4 := rD
  have eD := t_g17 h ni nx (by omega) (by omega) rD (by omega)
  rw [t_need_is, if_neg (by omega)] at eD
  exact ⟨(by show 0 ≤ 1 + (1 * v 4 + (0)); omega), (by show 0 ≤ (-1) + ((-1) * v 4 + (0)); omega), trivial⟩
-- nd4
theorem t_q66 {g : Nat → Int} (h : t_G g) : t_ok g 2 ([(9671406556917033397649408, [(0, 1)]), (12089258196146291747061760, [(0, 1)]), (20551738933448695970004992, [(0, 1), (1, 1024)])], [(0, [(0, 1)]), (700, [(0, (-1))]), (0, [(1, 1)]), (127, [(1, (-1))]), ((-1), [(1, 1), (3, (-1))])], [(1, [(4, 1)]), ((-1), [(4, (-1))])]) := by
  refine t_okI fun v hr hp => ?_
  obtain ⟨rK, rV, rD, -⟩ := hr
  obtain ⟨p0, p1, p2, p3, p4, -⟩ := hp
  have p0 : 0 ≤ 0 + (1 * v 0 + (0)) := p0
  have p1 : 0 ≤ 700 + ((-1) * v 0 + (0)) := p1
  have p2 : 0 ≤ 0 + (1 * v 1 + (0)) := p2
  have p3 : 0 ≤ 127 + ((-1) * v 1 + (0)) := p3
  have p4 : 0 ≤ (-1) + (1 * v 1 + ((-1) * v 3 + (0))) := p4
  obtain ⟨ni, hi⟩ : ∃ n : Nat, v 0 = (n : Int) := ⟨(v 0).toNat, by omega⟩
  obtain ⟨nx, hx⟩ : ∃ n : Nat, v 1 = (n : Int) := ⟨(v 1).toNat, by omega⟩
  have rK : ∃ j : Nat, 9671406556917033397649408 + (1 * v 0 + (0)) = (j : Int) ∧ c_gv j (g j) = v 2 := rK
  have eK := t_g8 h ni (by omega) rK (by omega)
  have rV : ∃ j : Nat, 12089258196146291747061760 + (1 * v 0 + (0)) = (j : Int) ∧ c_gv j (g j) = v 3 := rV
  have eV := t_g10 h ni (by omega) rV (by omega)
  have rD : ∃ j : Nat, 20551738933448695970004992 + (1 * v 0 + (1024 * v 1 + (0))) = (j : Int) ∧ c_gv j (g j) = v 4 := rD
  have eD := t_g17 h ni nx (by omega) (by omega) rD (by omega)
  rw [t_need_is, if_neg (by omega)] at eD
  exact ⟨(by show 0 ≤ 1 + (1 * v 4 + (0)); omega), (by show 0 ≤ (-1) + ((-1) * v 4 + (0)); omega), trivial⟩
-- nd5
theorem t_q67 {g : Nat → Int} (h : t_G g) : t_ok g 2 ([(9671406556917033397649408, [(0, 1)]), (12089258196146291747061760, [(0, 1)]), (20551738933448695970004992, [(0, 1), (1, 1024)])], [(0, [(0, 1)]), (700, [(0, (-1))]), (0, [(1, 1)]), (127, [(1, (-1))]), ((-1), [(1, (-1)), (3, 1)])], [(1, [(4, 1)]), ((-1), [(4, (-1))])]) := by
  refine t_okI fun v hr hp => ?_
  obtain ⟨rK, rV, rD, -⟩ := hr
  obtain ⟨p0, p1, p2, p3, p4, -⟩ := hp
  have p0 : 0 ≤ 0 + (1 * v 0 + (0)) := p0
  have p1 : 0 ≤ 700 + ((-1) * v 0 + (0)) := p1
  have p2 : 0 ≤ 0 + (1 * v 1 + (0)) := p2
  have p3 : 0 ≤ 127 + ((-1) * v 1 + (0)) := p3
  have p4 : 0 ≤ (-1) + ((-1) * v 1 + (1 * v 3 + (0))) := p4
  obtain ⟨ni, hi⟩ : ∃ n : Nat, v 0 = (n : Int) := ⟨(v 0).toNat, by omega⟩
  obtain ⟨nx, hx⟩ : ∃ n : Nat, v 1 = (n : Int) := ⟨(v 1).toNat, by omega⟩
  have rK : ∃ j : Nat, 9671406556917033397649408 + (1 * v 0 + (0)) = (j : Int) ∧ c_gv j (g j) = v 2 := rK
  have eK := t_g8 h ni (by omega) rK (by omega)
  have rV : ∃ j : Nat, 12089258196146291747061760 + (1 * v 0 + (0)) = (j : Int) ∧ c_gv j (g j) = v 3 := rV
  have eV := t_g10 h ni (by omega) rV (by omega)
  have rD : ∃ j : Nat, 20551738933448695970004992 + (1 * v 0 + (1024 * v 1 + (0))) = (j : Int) ∧ c_gv j (g j) = v 4 := rD
  have eD := t_g17 h ni nx (by omega) (by omega) rD (by omega)
  rw [t_need_is, if_neg (by omega)] at eD
  exact ⟨(by show 0 ≤ 1 + (1 * v 4 + (0)); omega), (by show 0 ≤ (-1) + ((-1) * v 4 + (0)); omega), trivial⟩
-- nb1
theorem t_q68 {g : Nat → Int} (h : t_G g) : t_ok g 1 ([(9671406556917033397649408, [(0, 1)]), (12089258196146291747061760, [(0, 1)]), (21760664753063325144711168, [(0, 1)])], [(0, [(0, 1)]), (700, [(0, (-1))]), ((-2), [(1, 1)]), (2, [(1, (-1))]), (11, [(2, (-1))])], [((-1), [(0, (-1)), (3, 1)]), (1, [(0, 1), (3, (-1))]), (0, [(2, 1)])]) := by
  refine t_okI fun v hr hp => ?_
  obtain ⟨rK, rV, rD, -⟩ := hr
  obtain ⟨p0, p1, p2, p3, p4, -⟩ := hp
  have p0 : 0 ≤ 0 + (1 * v 0 + (0)) := p0
  have p1 : 0 ≤ 700 + ((-1) * v 0 + (0)) := p1
  have p2 : 0 ≤ (-2) + (1 * v 1 + (0)) := p2
  have p3 : 0 ≤ 2 + ((-1) * v 1 + (0)) := p3
  have p4 : 0 ≤ 11 + ((-1) * v 2 + (0)) := p4
  obtain ⟨ni, hi⟩ : ∃ n : Nat, v 0 = (n : Int) := ⟨(v 0).toNat, by omega⟩
  have rK : ∃ j : Nat, 9671406556917033397649408 + (1 * v 0 + (0)) = (j : Int) ∧ c_gv j (g j) = v 1 := rK
  have eK := t_g8 h ni (by omega) rK (by omega)
  have rV : ∃ j : Nat, 12089258196146291747061760 + (1 * v 0 + (0)) = (j : Int) ∧ c_gv j (g j) = v 2 := rV
  have eV := t_g10 h ni (by omega) rV (by omega)
  have rD : ∃ j : Nat, 21760664753063325144711168 + (1 * v 0 + (0)) = (j : Int) ∧ c_gv j (g j) = v 3 := rD
  have eD := t_g18 h ni (by omega) rD (by omega)
  unfold t_nb at eD
  rw [if_pos ⟨by omega, by omega⟩] at eD
  have cv := t_v_bd (X := t_tx g) ni (t_G_by h)
  exact ⟨(by show 0 ≤ (-1) + ((-1) * v 0 + (1 * v 3 + (0))); omega), (by show 0 ≤ 1 + (1 * v 0 + ((-1) * v 3 + (0))); omega), (by show 0 ≤ 0 + (1 * v 2 + (0)); omega), trivial⟩
-- nb2
theorem t_q69 {g : Nat → Int} (h : t_G g) : t_ok g 1 ([(9671406556917033397649408, [(0, 1)]), (12089258196146291747061760, [(0, 1)]), (21760664753063325144711168, [(0, 1)])], [(0, [(0, 1)]), (700, [(0, (-1))]), (1, [(1, (-1))])], [(1, [(3, 1)]), ((-1), [(3, (-1))])]) := by
  refine t_okI fun v hr hp => ?_
  obtain ⟨rK, rV, rD, -⟩ := hr
  obtain ⟨p0, p1, p2, -⟩ := hp
  have p0 : 0 ≤ 0 + (1 * v 0 + (0)) := p0
  have p1 : 0 ≤ 700 + ((-1) * v 0 + (0)) := p1
  have p2 : 0 ≤ 1 + ((-1) * v 1 + (0)) := p2
  obtain ⟨ni, hi⟩ : ∃ n : Nat, v 0 = (n : Int) := ⟨(v 0).toNat, by omega⟩
  have rK : ∃ j : Nat, 9671406556917033397649408 + (1 * v 0 + (0)) = (j : Int) ∧ c_gv j (g j) = v 1 := rK
  have eK := t_g8 h ni (by omega) rK (by omega)
  have rV : ∃ j : Nat, 12089258196146291747061760 + (1 * v 0 + (0)) = (j : Int) ∧ c_gv j (g j) = v 2 := rV
  have eV := t_g10 h ni (by omega) rV (by omega)
  have rD : ∃ j : Nat, 21760664753063325144711168 + (1 * v 0 + (0)) = (j : Int) ∧ c_gv j (g j) = v 3 := rD
  have eD := t_g18 h ni (by omega) rD (by omega)
  unfold t_nb at eD
  rw [if_neg (by omega)] at eD
  exact ⟨(by show 0 ≤ 1 + (1 * v 3 + (0)); omega), (by show 0 ≤ (-1) + ((-1) * v 3 + (0)); omega), trivial⟩
-- nb3
theorem t_q70 {g : Nat → Int} (h : t_G g) : t_ok g 1 ([(9671406556917033397649408, [(0, 1)]), (12089258196146291747061760, [(0, 1)]), (21760664753063325144711168, [(0, 1)])], [(0, [(0, 1)]), (700, [(0, (-1))]), ((-3), [(1, 1)])], [(1, [(3, 1)]), ((-1), [(3, (-1))])]) := by
  refine t_okI fun v hr hp => ?_
  obtain ⟨rK, rV, rD, -⟩ := hr
  obtain ⟨p0, p1, p2, -⟩ := hp
  have p0 : 0 ≤ 0 + (1 * v 0 + (0)) := p0
  have p1 : 0 ≤ 700 + ((-1) * v 0 + (0)) := p1
  have p2 : 0 ≤ (-3) + (1 * v 1 + (0)) := p2
  obtain ⟨ni, hi⟩ : ∃ n : Nat, v 0 = (n : Int) := ⟨(v 0).toNat, by omega⟩
  have rK : ∃ j : Nat, 9671406556917033397649408 + (1 * v 0 + (0)) = (j : Int) ∧ c_gv j (g j) = v 1 := rK
  have eK := t_g8 h ni (by omega) rK (by omega)
  have rV : ∃ j : Nat, 12089258196146291747061760 + (1 * v 0 + (0)) = (j : Int) ∧ c_gv j (g j) = v 2 := rV
  have eV := t_g10 h ni (by omega) rV (by omega)
  have rD : ∃ j : Nat, 21760664753063325144711168 + (1 * v 0 + (0)) = (j : Int) ∧ c_gv j (g j) = v 3 := rD
  have eD := t_g18 h ni (by omega) rD (by omega)
  unfold t_nb at eD
  rw [if_neg (by omega)] at eD
  exact ⟨(by show 0 ≤ 1 + (1 * v 3 + (0)); omega), (by show 0 ≤ (-1) + ((-1) * v 3 + (0)); omega), trivial⟩
-- nb4
theorem t_q71 {g : Nat → Int} (h : t_G g) : t_ok g 1 ([(9671406556917033397649408, [(0, 1)]), (12089258196146291747061760, [(0, 1)]), (21760664753063325144711168, [(0, 1)])], [(0, [(0, 1)]), (700, [(0, (-1))]), ((-12), [(2, 1)])], [(1, [(3, 1)]), ((-1), [(3, (-1))])]) := by
  refine t_okI fun v hr hp => ?_
  obtain ⟨rK, rV, rD, -⟩ := hr
  obtain ⟨p0, p1, p2, -⟩ := hp
  have p0 : 0 ≤ 0 + (1 * v 0 + (0)) := p0
  have p1 : 0 ≤ 700 + ((-1) * v 0 + (0)) := p1
  have p2 : 0 ≤ (-12) + (1 * v 2 + (0)) := p2
  obtain ⟨ni, hi⟩ : ∃ n : Nat, v 0 = (n : Int) := ⟨(v 0).toNat, by omega⟩
  have rK : ∃ j : Nat, 9671406556917033397649408 + (1 * v 0 + (0)) = (j : Int) ∧ c_gv j (g j) = v 1 := rK
  have eK := t_g8 h ni (by omega) rK (by omega)
  have rV : ∃ j : Nat, 12089258196146291747061760 + (1 * v 0 + (0)) = (j : Int) ∧ c_gv j (g j) = v 2 := rV
  have eV := t_g10 h ni (by omega) rV (by omega)
  have rD : ∃ j : Nat, 21760664753063325144711168 + (1 * v 0 + (0)) = (j : Int) ∧ c_gv j (g j) = v 3 := rD
  have eD := t_g18 h ni (by omega) rD (by omega)
  unfold t_nb at eD
  rw [if_neg (by omega)] at eD
  exact ⟨(by show 0 ≤ 1 + (1 * v 3 + (0)); omega), (by show 0 ≤ (-1) + ((-1) * v 3 + (0)); omega), trivial⟩
-- asEQ
theorem t_q72 {g : Nat → Int} (h : t_G g) : t_ok g 2 ([], [(0, [(0, 1), (1, (-1))]), (0, [(0, (-1)), (1, 1)])], [(0, [(0, 1), (1, (-1))]), (0, [(0, (-1)), (1, 1)])]) := by
  refine t_okI fun v hr hp => ?_
  obtain ⟨p0, p1, -⟩ := hp
  have p0 : 0 ≤ 0 + (1 * v 0 + ((-1) * v 1 + (0))) := p0
  have p1 : 0 ≤ 0 + ((-1) * v 0 + (1 * v 1 + (0))) := p1
  exact ⟨(by show 0 ≤ 0 + (1 * v 0 + ((-1) * v 1 + (0))); omega), (by show 0 ≤ 0 + ((-1) * v 0 + (1 * v 1 + (0))); omega), trivial⟩
-- var1
theorem t_q73 {g : Nat → Int} (h : t_G g) : t_ok g 1 ([(13298184015760920921767936, [(0, 1)]), (44730255325741279464128512, [(0, 1)])], [(0, [(0, 1)]), (700, [(0, (-1))]), (0, [(1, 1)]), (1, [(1, (-1))])], [((-1), [(2, 1)]), (1, [(2, (-1))])]) := by
  refine t_okI fun v hr hp => ?_
  obtain ⟨rY, rW, -⟩ := hr
  obtain ⟨p0, p1, p2, p3, -⟩ := hp
  have p0 : 0 ≤ 0 + (1 * v 0 + (0)) := p0
  have p1 : 0 ≤ 700 + ((-1) * v 0 + (0)) := p1
  have p2 : 0 ≤ 0 + (1 * v 1 + (0)) := p2
  have p3 : 0 ≤ 1 + ((-1) * v 1 + (0)) := p3
  obtain ⟨ni, hi⟩ : ∃ n : Nat, v 0 = (n : Int) := ⟨(v 0).toNat, by omega⟩
  have rY : ∃ j : Nat, 13298184015760920921767936 + (1 * v 0 + (0)) = (j : Int) ∧ c_gv j (g j) = v 1 := rY
  have eY := t_g11 h ni (by omega) rY (by omega)
  have rW : ∃ j : Nat, 44730255325741279464128512 + (1 * v 0 + (0)) = (j : Int) ∧ c_gv j (g j) = v 2 := rW
  have eW := t_g37 h ni (by omega) rW (by omega)
  have ceW : t_var (t_tx g) ni = true := t_var_iff.mpr ⟨by omega, by omega, by omega⟩
  rw [ceW] at eW
  have eW : v 2 = 1 := eW
  exact ⟨(by show 0 ≤ (-1) + (1 * v 2 + (0)); omega), (by show 0 ≤ 1 + ((-1) * v 2 + (0)); omega), trivial⟩
-- var2
theorem t_q74 {g : Nat → Int} (h : t_G g) : t_ok g 1 ([(13298184015760920921767936, [(0, 1)]), (44730255325741279464128512, [(0, 1)])], [(0, [(0, 1)]), (700, [(0, (-1))]), ((-4), [(1, 1)]), (7, [(1, (-1))])], [((-1), [(2, 1)]), (1, [(2, (-1))])]) := by
  refine t_okI fun v hr hp => ?_
  obtain ⟨rY, rW, -⟩ := hr
  obtain ⟨p0, p1, p2, p3, -⟩ := hp
  have p0 : 0 ≤ 0 + (1 * v 0 + (0)) := p0
  have p1 : 0 ≤ 700 + ((-1) * v 0 + (0)) := p1
  have p2 : 0 ≤ (-4) + (1 * v 1 + (0)) := p2
  have p3 : 0 ≤ 7 + ((-1) * v 1 + (0)) := p3
  obtain ⟨ni, hi⟩ : ∃ n : Nat, v 0 = (n : Int) := ⟨(v 0).toNat, by omega⟩
  have rY : ∃ j : Nat, 13298184015760920921767936 + (1 * v 0 + (0)) = (j : Int) ∧ c_gv j (g j) = v 1 := rY
  have eY := t_g11 h ni (by omega) rY (by omega)
  have rW : ∃ j : Nat, 44730255325741279464128512 + (1 * v 0 + (0)) = (j : Int) ∧ c_gv j (g j) = v 2 := rW
  have eW := t_g37 h ni (by omega) rW (by omega)
  have ceW : t_var (t_tx g) ni = true := t_var_iff.mpr ⟨by omega, by omega, by omega⟩
  rw [ceW] at eW
  have eW : v 2 = 1 := eW
  exact ⟨(by show 0 ≤ (-1) + (1 * v 2 + (0)); omega), (by show 0 ≤ 1 + ((-1) * v 2 + (0)); omega), trivial⟩
-- var3
theorem t_q75 {g : Nat → Int} (h : t_G g) : t_ok g 1 ([(13298184015760920921767936, [(0, 1)]), (44730255325741279464128512, [(0, 1)])], [(0, [(0, 1)]), (700, [(0, (-1))]), ((-1), [(1, (-1))])], [(0, [(2, 1)]), (0, [(2, (-1))])]) := by
  refine t_okI fun v hr hp => ?_
  obtain ⟨rY, rW, -⟩ := hr
  obtain ⟨p0, p1, p2, -⟩ := hp
  have p0 : 0 ≤ 0 + (1 * v 0 + (0)) := p0
  have p1 : 0 ≤ 700 + ((-1) * v 0 + (0)) := p1
  have p2 : 0 ≤ (-1) + ((-1) * v 1 + (0)) := p2
  obtain ⟨ni, hi⟩ : ∃ n : Nat, v 0 = (n : Int) := ⟨(v 0).toNat, by omega⟩
  have rY : ∃ j : Nat, 13298184015760920921767936 + (1 * v 0 + (0)) = (j : Int) ∧ c_gv j (g j) = v 1 := rY
  have eY := t_g11 h ni (by omega) rY (by omega)
  have rW : ∃ j : Nat, 44730255325741279464128512 + (1 * v 0 + (0)) = (j : Int) ∧ c_gv j (g j) = v 2 := rW
  have eW := t_g37 h ni (by omega) rW (by omega)
  have ceW : t_var (t_tx g) ni = false := by
    cases h9 : t_var (t_tx g) ni with
    | false => rfl
    | true =>
      exfalso
      have h8 := t_var_iff.mp h9
      omega
  rw [ceW] at eW
  have eW : v 2 = 0 := eW
  exact ⟨(by show 0 ≤ 0 + (1 * v 2 + (0)); omega), (by show 0 ≤ 0 + ((-1) * v 2 + (0)); omega), trivial⟩
-- var4
theorem t_q76 {g : Nat → Int} (h : t_G g) : t_ok g 1 ([(13298184015760920921767936, [(0, 1)]), (44730255325741279464128512, [(0, 1)])], [(0, [(0, 1)]), (700, [(0, (-1))]), ((-2), [(1, 1)]), (2, [(1, (-1))])], [(0, [(2, 1)]), (0, [(2, (-1))])]) := by
  refine t_okI fun v hr hp => ?_
  obtain ⟨rY, rW, -⟩ := hr
  obtain ⟨p0, p1, p2, p3, -⟩ := hp
  have p0 : 0 ≤ 0 + (1 * v 0 + (0)) := p0
  have p1 : 0 ≤ 700 + ((-1) * v 0 + (0)) := p1
  have p2 : 0 ≤ (-2) + (1 * v 1 + (0)) := p2
  have p3 : 0 ≤ 2 + ((-1) * v 1 + (0)) := p3
  obtain ⟨ni, hi⟩ : ∃ n : Nat, v 0 = (n : Int) := ⟨(v 0).toNat, by omega⟩
  have rY : ∃ j : Nat, 13298184015760920921767936 + (1 * v 0 + (0)) = (j : Int) ∧ c_gv j (g j) = v 1 := rY
  have eY := t_g11 h ni (by omega) rY (by omega)
  have rW : ∃ j : Nat, 44730255325741279464128512 + (1 * v 0 + (0)) = (j : Int) ∧ c_gv j (g j) = v 2 := rW
  have eW := t_g37 h ni (by omega) rW (by omega)
  have ceW : t_var (t_tx g) ni = false := by
    cases h9 : t_var (t_tx g) ni with
    | false => rfl
    | true =>
      exfalso
      have h8 := t_var_iff.mp h9
      omega
  rw [ceW] at eW
  have eW : v 2 = 0 := eW
  exact ⟨(by show 0 ≤ 0 + (1 * v 2 + (0)); omega), (by show 0 ≤ 0 + ((-1) * v 2 + (0)); omega), trivial⟩
-- var5
theorem t_q77 {g : Nat → Int} (h : t_G g) : t_ok g 1 ([(13298184015760920921767936, [(0, 1)]), (44730255325741279464128512, [(0, 1)])], [(0, [(0, 1)]), (700, [(0, (-1))]), ((-3), [(1, 1)]), (3, [(1, (-1))])], [(0, [(2, 1)]), (0, [(2, (-1))])]) := by
  refine t_okI fun v hr hp => ?_
  obtain ⟨rY, rW, -⟩ := hr
  obtain ⟨p0, p1, p2, p3, -⟩ := hp
  have p0 : 0 ≤ 0 + (1 * v 0 + (0)) := p0
  have p1 : 0 ≤ 700 + ((-1) * v 0 + (0)) := p1
  have p2 : 0 ≤ (-3) + (1 * v 1 + (0)) := p2
  have p3 : 0 ≤ 3 + ((-1) * v 1 + (0)) := p3
  obtain ⟨ni, hi⟩ : ∃ n : Nat, v 0 = (n : Int) := ⟨(v 0).toNat, by omega⟩
  have rY : ∃ j : Nat, 13298184015760920921767936 + (1 * v 0 + (0)) = (j : Int) ∧ c_gv j (g j) = v 1 := rY
  have eY := t_g11 h ni (by omega) rY (by omega)
  have rW : ∃ j : Nat, 44730255325741279464128512 + (1 * v 0 + (0)) = (j : Int) ∧ c_gv j (g j) = v 2 := rW
  have eW := t_g37 h ni (by omega) rW (by omega)
  have ceW : t_var (t_tx g) ni = false := by
    cases h9 : t_var (t_tx g) ni with
    | false => rfl
    | true =>
      exfalso
      have h8 := t_var_iff.mp h9
      omega
  rw [ceW] at eW
  have eW : v 2 = 0 := eW
  exact ⟨(by show 0 ≤ 0 + (1 * v 2 + (0)); omega), (by show 0 ≤ 0 + ((-1) * v 2 + (0)); omega), trivial⟩
-- var6
theorem t_q78 {g : Nat → Int} (h : t_G g) : t_ok g 1 ([(13298184015760920921767936, [(0, 1)]), (44730255325741279464128512, [(0, 1)])], [(0, [(0, 1)]), (700, [(0, (-1))]), ((-8), [(1, 1)])], [(0, [(2, 1)]), (0, [(2, (-1))])]) := by
  refine t_okI fun v hr hp => ?_
  obtain ⟨rY, rW, -⟩ := hr
  obtain ⟨p0, p1, p2, -⟩ := hp
  have p0 : 0 ≤ 0 + (1 * v 0 + (0)) := p0
  have p1 : 0 ≤ 700 + ((-1) * v 0 + (0)) := p1
  have p2 : 0 ≤ (-8) + (1 * v 1 + (0)) := p2
  obtain ⟨ni, hi⟩ : ∃ n : Nat, v 0 = (n : Int) := ⟨(v 0).toNat, by omega⟩
  have rY : ∃ j : Nat, 13298184015760920921767936 + (1 * v 0 + (0)) = (j : Int) ∧ c_gv j (g j) = v 1 := rY
  have eY := t_g11 h ni (by omega) rY (by omega)
  have rW : ∃ j : Nat, 44730255325741279464128512 + (1 * v 0 + (0)) = (j : Int) ∧ c_gv j (g j) = v 2 := rW
  have eW := t_g37 h ni (by omega) rW (by omega)
  have ceW : t_var (t_tx g) ni = false := by
    cases h9 : t_var (t_tx g) ni with
    | false => rfl
    | true =>
      exfalso
      have h8 := t_var_iff.mp h9
      omega
  rw [ceW] at eW
  have eW : v 2 = 0 := eW
  exact ⟨(by show 0 ≤ 0 + (1 * v 2 + (0)); omega), (by show 0 ≤ 0 + ((-1) * v 2 + (0)); omega), trivial⟩
-- at1
theorem t_q79 {g : Nat → Int} (h : t_G g) : t_ok g 2 ([(9671406556917033397649408, [(0, 1)]), (15716035654990179271180288, [(0, 1), (1, 1024)])], [(0, [(0, 1)]), (650, [(0, (-1))]), (0, [(1, 1)]), (6, [(1, (-1))]), ((-2), [(2, 1)]), (2, [(2, (-1))])], [((-1), [(0, (-1)), (3, 1)]), (1, [(0, 1), (3, (-1))])]) := by
  refine t_okI fun v hr hp => ?_
  obtain ⟨rK, rA, -⟩ := hr
  obtain ⟨p0, p1, p2, p3, p4, p5, -⟩ := hp
  have p0 : 0 ≤ 0 + (1 * v 0 + (0)) := p0
  have p1 : 0 ≤ 650 + ((-1) * v 0 + (0)) := p1
  have p2 : 0 ≤ 0 + (1 * v 1 + (0)) := p2
  have p3 : 0 ≤ 6 + ((-1) * v 1 + (0)) := p3
  have p4 : 0 ≤ (-2) + (1 * v 2 + (0)) := p4
  have p5 : 0 ≤ 2 + ((-1) * v 2 + (0)) := p5
  obtain ⟨ni, hi⟩ : ∃ n : Nat, v 0 = (n : Int) := ⟨(v 0).toNat, by omega⟩
  obtain ⟨nd, hd⟩ : ∃ n : Nat, v 1 = (n : Int) := ⟨(v 1).toNat, by omega⟩
  have rK : ∃ j : Nat, 9671406556917033397649408 + (1 * v 0 + (0)) = (j : Int) ∧ c_gv j (g j) = v 2 := rK
  have eK := t_g8 h ni (by omega) rK (by omega)
  have rA : ∃ j : Nat, 15716035654990179271180288 + (1 * v 0 + (1024 * v 1 + (0))) = (j : Int) ∧ c_gv j (g j) = v 3 := rA
  have eA := t_g13 h ni nd 0 (by omega) (by omega) (by omega) rA (by omega)
  rw [t_px0 (by omega), if_pos (by rw [Bool.or_eq_true, decide_eq_true_iff]; exact Or.inl (by omega))] at eA
  exact ⟨(by show 0 ≤ (-1) + ((-1) * v 0 + (1 * v 3 + (0))); omega), (by show 0 ≤ 1 + (1 * v 0 + ((-1) * v 3 + (0))); omega), trivial⟩
-- at2
theorem t_q80 {g : Nat → Int} (h : t_G g) : t_ok g 2 ([(44730255325741279464128512, [(0, 1)]), (15716035654990179271180288, [(0, 1), (1, 1024)])], [(0, [(0, 1)]), (650, [(0, (-1))]), (0, [(1, 1)]), (6, [(1, (-1))]), ((-1), [(2, 1)]), (1, [(2, (-1))])], [((-1), [(0, (-1)), (3, 1)]), (1, [(0, 1), (3, (-1))])]) := by
  refine t_okI fun v hr hp => ?_
  obtain ⟨rW, rA, -⟩ := hr
  obtain ⟨p0, p1, p2, p3, p4, p5, -⟩ := hp
  have p0 : 0 ≤ 0 + (1 * v 0 + (0)) := p0
  have p1 : 0 ≤ 650 + ((-1) * v 0 + (0)) := p1
  have p2 : 0 ≤ 0 + (1 * v 1 + (0)) := p2
  have p3 : 0 ≤ 6 + ((-1) * v 1 + (0)) := p3
  have p4 : 0 ≤ (-1) + (1 * v 2 + (0)) := p4
  have p5 : 0 ≤ 1 + ((-1) * v 2 + (0)) := p5
  obtain ⟨ni, hi⟩ : ∃ n : Nat, v 0 = (n : Int) := ⟨(v 0).toNat, by omega⟩
  obtain ⟨nd, hd⟩ : ∃ n : Nat, v 1 = (n : Int) := ⟨(v 1).toNat, by omega⟩
  have rW : ∃ j : Nat, 44730255325741279464128512 + (1 * v 0 + (0)) = (j : Int) ∧ c_gv j (g j) = v 2 := rW
  have eW := t_g37 h ni (by omega) rW (by omega)
  have rA : ∃ j : Nat, 15716035654990179271180288 + (1 * v 0 + (1024 * v 1 + (0))) = (j : Int) ∧ c_gv j (g j) = v 3 := rA
  have eA := t_g13 h ni nd 0 (by omega) (by omega) (by omega) rA (by omega)
  have ceW : t_var (t_tx g) ni = true := by
    cases h9 : t_var (t_tx g) ni with
    | true => rfl
    | false =>
      exfalso
      rw [h9] at eW
      have eW : v 2 = 0 := eW
      omega
  have deW := t_var_iff.mp ceW
  rw [t_px0 (by omega), if_pos (by rw [Bool.or_eq_true, decide_eq_true_iff]; exact Or.inr ceW)] at eA
  exact ⟨(by show 0 ≤ (-1) + ((-1) * v 0 + (1 * v 3 + (0))); omega), (by show 0 ≤ 1 + (1 * v 0 + ((-1) * v 3 + (0))); omega), trivial⟩
-- at4
theorem t_q81 {g : Nat → Int} (h : t_G g) : t_ok g 3 ([(9671406556917033397649408, [(0, 1)]), (12089258196146291747061760, [(0, 1)]), (15716035654990179271180288, [(0, 1), (2, 1024)]), (45939181145355908638835712, [(1, 1), (2, 1024)])], [(0, [(0, 1)]), (650, [(0, (-1))]), (0, [(2, 1)]), (6, [(2, (-1))]), ((-1), [(0, (-1)), (1, 1)]), (1, [(0, 1), (1, (-1))]), ((-3), [(3, 1)]), (3, [(3, (-1))]), ((-40), [(4, 1)]), (40, [(4, (-1))]), (5, [(2, (-1))])], [(0, [(5, 1), (6, (-1))]), (0, [(5, (-1)), (6, 1)])]) := by
  refine t_okI fun v hr hp => ?_
  obtain ⟨rK, rV, rA, rS, -⟩ := hr
  obtain ⟨p0, p1, p2, p3, p4, p5, p6, p7, p8, p9, p10, -⟩ := hp
  have p0 : 0 ≤ 0 + (1 * v 0 + (0)) := p0
  have p1 : 0 ≤ 650 + ((-1) * v 0 + (0)) := p1
  have p2 : 0 ≤ 0 + (1 * v 2 + (0)) := p2
  have p3 : 0 ≤ 6 + ((-1) * v 2 + (0)) := p3
  have p4 : 0 ≤ (-1) + ((-1) * v 0 + (1 * v 1 + (0))) := p4
  have p5 : 0 ≤ 1 + (1 * v 0 + ((-1) * v 1 + (0))) := p5
  have p6 : 0 ≤ (-3) + (1 * v 3 + (0)) := p6
  have p7 : 0 ≤ 3 + ((-1) * v 3 + (0)) := p7
  have p8 : 0 ≤ (-40) + (1 * v 4 + (0)) := p8
  have p9 : 0 ≤ 40 + ((-1) * v 4 + (0)) := p9
  have p10 : 0 ≤ 5 + ((-1) * v 2 + (0)) := p10
  obtain ⟨ni, hi⟩ : ∃ n : Nat, v 0 = (n : Int) := ⟨(v 0).toNat, by omega⟩
  obtain ⟨nj, hj⟩ : ∃ n : Nat, v 1 = (n : Int) := ⟨(v 1).toNat, by omega⟩
  obtain ⟨nd, hd⟩ : ∃ n : Nat, v 2 = (n : Int) := ⟨(v 2).toNat, by omega⟩
  have rK : ∃ j : Nat, 9671406556917033397649408 + (1 * v 0 + (0)) = (j : Int) ∧ c_gv j (g j) = v 3 := rK
  have eK := t_g8 h ni (by omega) rK (by omega)
  have rV : ∃ j : Nat, 12089258196146291747061760 + (1 * v 0 + (0)) = (j : Int) ∧ c_gv j (g j) = v 4 := rV
  have eV := t_g10 h ni (by omega) rV (by omega)
  have rA : ∃ j : Nat, 15716035654990179271180288 + (1 * v 0 + (1024 * v 2 + (0))) = (j : Int) ∧ c_gv j (g j) = v 5 := rA
  have eA := t_g13 h ni nd 0 (by omega) (by omega) (by omega) rA (by omega)
  have rS : ∃ j : Nat, 45939181145355908638835712 + (1 * v 1 + (1024 * v 2 + (0))) = (j : Int) ∧ c_gv j (g j) = v 6 := rS
  have eS := t_g38 h nj (nd+1) (by omega) (by omega) rS (by omega)
  have cv : ¬(t_var (t_tx g) ni = true) := fun h9 => by
    have h8 := t_ky_k (X := t_tx g) (i := ni) (t_var_iff.mp h9).1.1
    omega
  have c : nj = ni + 1 := by omega
  subst c
  rw [t_px0 (by omega), if_neg (by rw [Bool.or_eq_true, decide_eq_true_iff]; exact fun h9 => h9.elim (by omega) cv), if_pos (t_sg_iff.mpr ⟨by omega, by omega⟩), if_neg (by omega)] at eA
  unfold t_af at eS
  have c3 := t_px_in (X := t_tx g) (t_G_ok h) (i := ni + 1) 4 (nd + 1)
  rw [if_neg (by omega)] at c3
  have key : v 5 = v 6 := by
    rcases c3 with c3 | c3
    · rw [if_neg (by omega)] at eA
      rw [if_pos (by omega)] at eS
      omega
    · rw [if_pos (by omega)] at eA
      rw [if_neg (by omega)] at eS
      rw [eA, eS]
  exact ⟨(by show 0 ≤ 0 + (1 * v 5 + ((-1) * v 6 + (0))); omega), (by show 0 ≤ 0 + ((-1) * v 5 + (1 * v 6 + (0))); omega), trivial⟩
-- at5
theorem t_q82 {g : Nat → Int} (h : t_G g) : t_ok g 2 ([(9671406556917033397649408, [(0, 1)]), (12089258196146291747061760, [(0, 1)]), (15716035654990179271180288, [(0, 1), (1, 1024)])], [(0, [(0, 1)]), (650, [(0, (-1))]), (0, [(1, 1)]), (6, [(1, (-1))]), ((-3), [(2, 1)]), (3, [(2, (-1))]), ((-40), [(3, 1)]), (40, [(3, (-1))]), ((-6), [(1, 1)])], [(1, [(4, 1)]), ((-1), [(4, (-1))])]) := by
  refine t_okI fun v hr hp => ?_
  obtain ⟨rK, rV, rA, -⟩ := hr
  obtain ⟨p0, p1, p2, p3, p4, p5, p6, p7, p8, -⟩ := hp
  have p0 : 0 ≤ 0 + (1 * v 0 + (0)) := p0
  have p1 : 0 ≤ 650 + ((-1) * v 0 + (0)) := p1
  have p2 : 0 ≤ 0 + (1 * v 1 + (0)) := p2
  have p3 : 0 ≤ 6 + ((-1) * v 1 + (0)) := p3
  have p4 : 0 ≤ (-3) + (1 * v 2 + (0)) := p4
  have p5 : 0 ≤ 3 + ((-1) * v 2 + (0)) := p5
  have p6 : 0 ≤ (-40) + (1 * v 3 + (0)) := p6
  have p7 : 0 ≤ 40 + ((-1) * v 3 + (0)) := p7
  have p8 : 0 ≤ (-6) + (1 * v 1 + (0)) := p8
  obtain ⟨ni, hi⟩ : ∃ n : Nat, v 0 = (n : Int) := ⟨(v 0).toNat, by omega⟩
  obtain ⟨nd, hd⟩ : ∃ n : Nat, v 1 = (n : Int) := ⟨(v 1).toNat, by omega⟩
  have rK : ∃ j : Nat, 9671406556917033397649408 + (1 * v 0 + (0)) = (j : Int) ∧ c_gv j (g j) = v 2 := rK
  have eK := t_g8 h ni (by omega) rK (by omega)
  have rV : ∃ j : Nat, 12089258196146291747061760 + (1 * v 0 + (0)) = (j : Int) ∧ c_gv j (g j) = v 3 := rV
  have eV := t_g10 h ni (by omega) rV (by omega)
  have rA : ∃ j : Nat, 15716035654990179271180288 + (1 * v 0 + (1024 * v 1 + (0))) = (j : Int) ∧ c_gv j (g j) = v 4 := rA
  have eA := t_g13 h ni nd 0 (by omega) (by omega) (by omega) rA (by omega)
  have cv : ¬(t_var (t_tx g) ni = true) := fun h9 => by
    have h8 := t_ky_k (X := t_tx g) (i := ni) (t_var_iff.mp h9).1.1
    omega
  rw [t_px0 (by omega), if_neg (by rw [Bool.or_eq_true, decide_eq_true_iff]; exact fun h9 => h9.elim (by omega) cv), if_pos (t_sg_iff.mpr ⟨by omega, by omega⟩), if_pos (by omega)] at eA
  exact ⟨(by show 0 ≤ 1 + (1 * v 4 + (0)); omega), (by show 0 ≤ (-1) + ((-1) * v 4 + (0)); omega), trivial⟩
-- at6
theorem t_q83 {g : Nat → Int} (h : t_G g) : t_ok g 2 ([(9671406556917033397649408, [(0, 1)]), (12089258196146291747061760, [(0, 1)]), (44730255325741279464128512, [(0, 1)]), (15716035654990179271180288, [(0, 1), (1, 1024)])], [(0, [(0, 1)]), (650, [(0, (-1))]), (0, [(1, 1)]), (6, [(1, (-1))]), ((-1), [(2, 1)]), (1, [(2, (-1))]), (0, [(4, 1)]), (0, [(4, (-1))])], [(1, [(5, 1)]), ((-1), [(5, (-1))])]) := by
  refine t_okI fun v hr hp => ?_
  obtain ⟨rK, rV, rW, rA, -⟩ := hr
  obtain ⟨p0, p1, p2, p3, p4, p5, p6, p7, -⟩ := hp
  have p0 : 0 ≤ 0 + (1 * v 0 + (0)) := p0
  have p1 : 0 ≤ 650 + ((-1) * v 0 + (0)) := p1
  have p2 : 0 ≤ 0 + (1 * v 1 + (0)) := p2
  have p3 : 0 ≤ 6 + ((-1) * v 1 + (0)) := p3
  have p4 : 0 ≤ (-1) + (1 * v 2 + (0)) := p4
  have p5 : 0 ≤ 1 + ((-1) * v 2 + (0)) := p5
  have p6 : 0 ≤ 0 + (1 * v 4 + (0)) := p6
  have p7 : 0 ≤ 0 + ((-1) * v 4 + (0)) := p7
  obtain ⟨ni, hi⟩ : ∃ n : Nat, v 0 = (n : Int) := ⟨(v 0).toNat, by omega⟩
  obtain ⟨nd, hd⟩ : ∃ n : Nat, v 1 = (n : Int) := ⟨(v 1).toNat, by omega⟩
  have rK : ∃ j : Nat, 9671406556917033397649408 + (1 * v 0 + (0)) = (j : Int) ∧ c_gv j (g j) = v 2 := rK
  have eK := t_g8 h ni (by omega) rK (by omega)
  have rV : ∃ j : Nat, 12089258196146291747061760 + (1 * v 0 + (0)) = (j : Int) ∧ c_gv j (g j) = v 3 := rV
  have eV := t_g10 h ni (by omega) rV (by omega)
  have rW : ∃ j : Nat, 44730255325741279464128512 + (1 * v 0 + (0)) = (j : Int) ∧ c_gv j (g j) = v 4 := rW
  have eW := t_g37 h ni (by omega) rW (by omega)
  have rA : ∃ j : Nat, 15716035654990179271180288 + (1 * v 0 + (1024 * v 1 + (0))) = (j : Int) ∧ c_gv j (g j) = v 5 := rA
  have eA := t_g13 h ni nd 0 (by omega) (by omega) (by omega) rA (by omega)
  have ceW : t_var (t_tx g) ni = false := by
    cases h9 : t_var (t_tx g) ni with
    | false => rfl
    | true =>
      exfalso
      rw [h9] at eW
      have eW : v 4 = 1 := eW
      omega
  have deW : ¬(t_var (t_tx g) ni = true) := by rw [ceW]; exact Bool.false_ne_true
  rw [t_var_iff] at deW
  have cv : ¬(t_var (t_tx g) ni = true) := by rw [ceW]; exact Bool.false_ne_true
  rw [t_px0 (by omega), if_neg (by rw [Bool.or_eq_true, decide_eq_true_iff]; exact fun h9 => h9.elim (by omega) cv), if_neg (t_nsg (by omega))] at eA
  exact ⟨(by show 0 ≤ 1 + (1 * v 5 + (0)); omega), (by show 0 ≤ (-1) + ((-1) * v 5 + (0)); omega), trivial⟩
-- at7
theorem t_q84 {g : Nat → Int} (h : t_G g) : t_ok g 2 ([(9671406556917033397649408, [(0, 1)]), (12089258196146291747061760, [(0, 1)]), (44730255325741279464128512, [(0, 1)]), (15716035654990179271180288, [(0, 1), (1, 1024)])], [(0, [(0, 1)]), (650, [(0, (-1))]), (0, [(1, 1)]), (6, [(1, (-1))]), ((-4), [(2, 1)])], [(1, [(5, 1)]), ((-1), [(5, (-1))])]) := by
  refine t_okI fun v hr hp => ?_
  obtain ⟨rK, rV, rW, rA, -⟩ := hr
  obtain ⟨p0, p1, p2, p3, p4, -⟩ := hp
  have p0 : 0 ≤ 0 + (1 * v 0 + (0)) := p0
  have p1 : 0 ≤ 650 + ((-1) * v 0 + (0)) := p1
  have p2 : 0 ≤ 0 + (1 * v 1 + (0)) := p2
  have p3 : 0 ≤ 6 + ((-1) * v 1 + (0)) := p3
  have p4 : 0 ≤ (-4) + (1 * v 2 + (0)) := p4
  obtain ⟨ni, hi⟩ : ∃ n : Nat, v 0 = (n : Int) := ⟨(v 0).toNat, by omega⟩
  obtain ⟨nd, hd⟩ : ∃ n : Nat, v 1 = (n : Int) := ⟨(v 1).toNat, by omega⟩
  have rK : ∃ j : Nat, 9671406556917033397649408 + (1 * v 0 + (0)) = (j : Int) ∧ c_gv j (g j) = v 2 := rK
  have eK := t_g8 h ni (by omega) rK (by omega)
  have rV : ∃ j : Nat, 12089258196146291747061760 + (1 * v 0 + (0)) = (j : Int) ∧ c_gv j (g j) = v 3 := rV
  have eV := t_g10 h ni (by omega) rV (by omega)
  have rW : ∃ j : Nat, 44730255325741279464128512 + (1 * v 0 + (0)) = (j : Int) ∧ c_gv j (g j) = v 4 := rW
  have eW := t_g37 h ni (by omega) rW (by omega)
  have rA : ∃ j : Nat, 15716035654990179271180288 + (1 * v 0 + (1024 * v 1 + (0))) = (j : Int) ∧ c_gv j (g j) = v 5 := rA
  have eA := t_g13 h ni nd 0 (by omega) (by omega) (by omega) rA (by omega)
  have cv : ¬(t_var (t_tx g) ni = true) := fun h9 => by
    have h8 := t_ky_k (X := t_tx g) (i := ni) (t_var_iff.mp h9).1.1
    omega
  rw [t_px0 (by omega), if_neg (by rw [Bool.or_eq_true, decide_eq_true_iff]; exact fun h9 => h9.elim (by omega) cv), if_neg (t_nsg (by omega))] at eA
  exact ⟨(by show 0 ≤ 1 + (1 * v 5 + (0)); omega), (by show 0 ≤ (-1) + ((-1) * v 5 + (0)); omega), trivial⟩
-- at8
theorem t_q85 {g : Nat → Int} (h : t_G g) : t_ok g 2 ([(9671406556917033397649408, [(0, 1)]), (12089258196146291747061760, [(0, 1)]), (44730255325741279464128512, [(0, 1)]), (15716035654990179271180288, [(0, 1), (1, 1024)])], [(0, [(0, 1)]), (650, [(0, (-1))]), (0, [(1, 1)]), (6, [(1, (-1))]), ((-3), [(2, 1)]), (3, [(2, (-1))]), (39, [(3, (-1))])], [(1, [(5, 1)]), ((-1), [(5, (-1))])]) := by
  refine t_okI fun v hr hp => ?_
  obtain ⟨rK, rV, rW, rA, -⟩ := hr
  obtain ⟨p0, p1, p2, p3, p4, p5, p6, -⟩ := hp
  have p0 : 0 ≤ 0 + (1 * v 0 + (0)) := p0
  have p1 : 0 ≤ 650 + ((-1) * v 0 + (0)) := p1
  have p2 : 0 ≤ 0 + (1 * v 1 + (0)) := p2
  have p3 : 0 ≤ 6 + ((-1) * v 1 + (0)) := p3
  have p4 : 0 ≤ (-3) + (1 * v 2 + (0)) := p4
  have p5 : 0 ≤ 3 + ((-1) * v 2 + (0)) := p5
  have p6 : 0 ≤ 39 + ((-1) * v 3 + (0)) := p6
  obtain ⟨ni, hi⟩ : ∃ n : Nat, v 0 = (n : Int) := ⟨(v 0).toNat, by omega⟩
  obtain ⟨nd, hd⟩ : ∃ n : Nat, v 1 = (n : Int) := ⟨(v 1).toNat, by omega⟩
  have rK : ∃ j : Nat, 9671406556917033397649408 + (1 * v 0 + (0)) = (j : Int) ∧ c_gv j (g j) = v 2 := rK
  have eK := t_g8 h ni (by omega) rK (by omega)
  have rV : ∃ j : Nat, 12089258196146291747061760 + (1 * v 0 + (0)) = (j : Int) ∧ c_gv j (g j) = v 3 := rV
  have eV := t_g10 h ni (by omega) rV (by omega)
  have rW : ∃ j : Nat, 44730255325741279464128512 + (1 * v 0 + (0)) = (j : Int) ∧ c_gv j (g j) = v 4 := rW
  have eW := t_g37 h ni (by omega) rW (by omega)
  have rA : ∃ j : Nat, 15716035654990179271180288 + (1 * v 0 + (1024 * v 1 + (0))) = (j : Int) ∧ c_gv j (g j) = v 5 := rA
  have eA := t_g13 h ni nd 0 (by omega) (by omega) (by omega) rA (by omega)
  have cv : ¬(t_var (t_tx g) ni = true) := fun h9 => by
    have h8 := t_ky_k (X := t_tx g) (i := ni) (t_var_iff.mp h9).1.1
    omega
  rw [t_px0 (by omega), if_neg (by rw [Bool.or_eq_true, decide_eq_true_iff]; exact fun h9 => h9.elim (by omega) cv), if_neg (t_nsg (by omega))] at eA
  exact ⟨(by show 0 ≤ 1 + (1 * v 5 + (0)); omega), (by show 0 ≤ (-1) + ((-1) * v 5 + (0)); omega), trivial⟩
-- at9
theorem t_q86 {g : Nat → Int} (h : t_G g) : t_ok g 2 ([(9671406556917033397649408, [(0, 1)]), (12089258196146291747061760, [(0, 1)]), (44730255325741279464128512, [(0, 1)]), (15716035654990179271180288, [(0, 1), (1, 1024)])], [(0, [(0, 1)]), (650, [(0, (-1))]), (0, [(1, 1)]), (6, [(1, (-1))]), ((-3), [(2, 1)]), (3, [(2, (-1))]), ((-41), [(3, 1)])], [(1, [(5, 1)]), ((-1), [(5, (-1))])]) := by
  refine t_okI fun v hr hp => ?_
  obtain ⟨rK, rV, rW, rA, -⟩ := hr
  obtain ⟨p0, p1, p2, p3, p4, p5, p6, -⟩ := hp
  have p0 : 0 ≤ 0 + (1 * v 0 + (0)) := p0
  have p1 : 0 ≤ 650 + ((-1) * v 0 + (0)) := p1
  have p2 : 0 ≤ 0 + (1 * v 1 + (0)) := p2
  have p3 : 0 ≤ 6 + ((-1) * v 1 + (0)) := p3
  have p4 : 0 ≤ (-3) + (1 * v 2 + (0)) := p4
  have p5 : 0 ≤ 3 + ((-1) * v 2 + (0)) := p5
  have p6 : 0 ≤ (-41) + (1 * v 3 + (0)) := p6
  obtain ⟨ni, hi⟩ : ∃ n : Nat, v 0 = (n : Int) := ⟨(v 0).toNat, by omega⟩
  obtain ⟨nd, hd⟩ : ∃ n : Nat, v 1 = (n : Int) := ⟨(v 1).toNat, by omega⟩
  have rK : ∃ j : Nat, 9671406556917033397649408 + (1 * v 0 + (0)) = (j : Int) ∧ c_gv j (g j) = v 2 := rK
  have eK := t_g8 h ni (by omega) rK (by omega)
  have rV : ∃ j : Nat, 12089258196146291747061760 + (1 * v 0 + (0)) = (j : Int) ∧ c_gv j (g j) = v 3 := rV
  have eV := t_g10 h ni (by omega) rV (by omega)
  have rW : ∃ j : Nat, 44730255325741279464128512 + (1 * v 0 + (0)) = (j : Int) ∧ c_gv j (g j) = v 4 := rW
  have eW := t_g37 h ni (by omega) rW (by omega)
  have rA : ∃ j : Nat, 15716035654990179271180288 + (1 * v 0 + (1024 * v 1 + (0))) = (j : Int) ∧ c_gv j (g j) = v 5 := rA
  have eA := t_g13 h ni nd 0 (by omega) (by omega) (by omega) rA (by omega)
  have cv : ¬(t_var (t_tx g) ni = true) := fun h9 => by
    have h8 := t_ky_k (X := t_tx g) (i := ni) (t_var_iff.mp h9).1.1
    omega
  rw [t_px0 (by omega), if_neg (by rw [Bool.or_eq_true, decide_eq_true_iff]; exact fun h9 => h9.elim (by omega) cv), if_neg (t_nsg (by omega))] at eA
  exact ⟨(by show 0 ≤ 1 + (1 * v 5 + (0)); omega), (by show 0 ≤ (-1) + ((-1) * v 5 + (0)); omega), trivial⟩
-- at10
theorem t_q87 {g : Nat → Int} (h : t_G g) : t_ok g 2 ([(9671406556917033397649408, [(0, 1)]), (12089258196146291747061760, [(0, 1)]), (44730255325741279464128512, [(0, 1)]), (15716035654990179271180288, [(0, 1), (1, 1024)])], [(0, [(0, 1)]), (650, [(0, (-1))]), (0, [(1, 1)]), (6, [(1, (-1))]), (0, [(2, (-1))])], [(1, [(5, 1)]), ((-1), [(5, (-1))])]) := by
  refine t_okI fun v hr hp => ?_
  obtain ⟨rK, rV, rW, rA, -⟩ := hr
  obtain ⟨p0, p1, p2, p3, p4, -⟩ := hp
  have p0 : 0 ≤ 0 + (1 * v 0 + (0)) := p0
  have p1 : 0 ≤ 650 + ((-1) * v 0 + (0)) := p1
  have p2 : 0 ≤ 0 + (1 * v 1 + (0)) := p2
  have p3 : 0 ≤ 6 + ((-1) * v 1 + (0)) := p3
  have p4 : 0 ≤ 0 + ((-1) * v 2 + (0)) := p4
  obtain ⟨ni, hi⟩ : ∃ n : Nat, v 0 = (n : Int) := ⟨(v 0).toNat, by omega⟩
  obtain ⟨nd, hd⟩ : ∃ n : Nat, v 1 = (n : Int) := ⟨(v 1).toNat, by omega⟩
  have rK : ∃ j : Nat, 9671406556917033397649408 + (1 * v 0 + (0)) = (j : Int) ∧ c_gv j (g j) = v 2 := rK
  have eK := t_g8 h ni (by omega) rK (by omega)
  have rV : ∃ j : Nat, 12089258196146291747061760 + (1 * v 0 + (0)) = (j : Int) ∧ c_gv j (g j) = v 3 := rV
  have eV := t_g10 h ni (by omega) rV (by omega)
  have rW : ∃ j : Nat, 44730255325741279464128512 + (1 * v 0 + (0)) = (j : Int) ∧ c_gv j (g j) = v 4 := rW
  have eW := t_g37 h ni (by omega) rW (by omega)
  have rA : ∃ j : Nat, 15716035654990179271180288 + (1 * v 0 + (1024 * v 1 + (0))) = (j : Int) ∧ c_gv j (g j) = v 5 := rA
  have eA := t_g13 h ni nd 0 (by omega) (by omega) (by omega) rA (by omega)
  have cv : ¬(t_var (t_tx g) ni = true) := fun h9 => by
    have h8 := t_ky_k (X := t_tx g) (i := ni) (t_var_iff.mp h9).1.1
    omega
  rw [t_px0 (by omega), if_neg (by rw [Bool.or_eq_true, decide_eq_true_iff]; exact fun h9 => h9.elim (by omega) cv), if_neg (t_nsg (by omega))] at eA
  exact ⟨(by show 0 ≤ 1 + (1 * v 5 + (0)); omega), (by show 0 ≤ (-1) + ((-1) * v 5 + (0)); omega), trivial⟩
-- im1
theorem t_q88 {g : Nat → Int} (h : t_G g) : t_ok g 3 ([(15716035654990179271180288, [(0, 1), (1, 1024)]), (15716035654990179273277440, [(0, 1), (1, 1024)]), (15716035654990179272228864, [(1, 1024), (2, 1)])], [(0, [(0, 1)]), (650, [(0, (-1))]), (0, [(1, 1)]), (6, [(1, (-1))]), (0, [(2, 1)]), (650, [(2, (-1))]), (0, [(2, (-1)), (3, 1)]), (0, [(2, 1), (3, (-1))])], [(0, [(4, 1), (5, (-1))]), (0, [(4, (-1)), (5, 1)]), ((-1), [(0, (-1)), (2, 1)])]) := by
  refine t_okI fun v hr hp => ?_
  obtain ⟨rA, rM, rB, -⟩ := hr
  obtain ⟨p0, p1, p2, p3, p4, p5, p6, p7, -⟩ := hp
  have p0 : 0 ≤ 0 + (1 * v 0 + (0)) := p0
  have p1 : 0 ≤ 650 + ((-1) * v 0 + (0)) := p1
  have p2 : 0 ≤ 0 + (1 * v 1 + (0)) := p2
  have p3 : 0 ≤ 6 + ((-1) * v 1 + (0)) := p3
  have p4 : 0 ≤ 0 + (1 * v 2 + (0)) := p4
  have p5 : 0 ≤ 650 + ((-1) * v 2 + (0)) := p5
  have p6 : 0 ≤ 0 + ((-1) * v 2 + (1 * v 3 + (0))) := p6
  have p7 : 0 ≤ 0 + (1 * v 2 + ((-1) * v 3 + (0))) := p7
  obtain ⟨ni, hi⟩ : ∃ n : Nat, v 0 = (n : Int) := ⟨(v 0).toNat, by omega⟩
  obtain ⟨nd, hd⟩ : ∃ n : Nat, v 1 = (n : Int) := ⟨(v 1).toNat, by omega⟩
  obtain ⟨nj, hj⟩ : ∃ n : Nat, v 2 = (n : Int) := ⟨(v 2).toNat, by omega⟩
  have rA : ∃ j : Nat, 15716035654990179271180288 + (1 * v 0 + (1024 * v 1 + (0))) = (j : Int) ∧ c_gv j (g j) = v 3 := rA
  have eA := t_g13 h ni nd 0 (by omega) (by omega) (by omega) rA (by omega)
  have rM : ∃ j : Nat, 15716035654990179273277440 + (1 * v 0 + (1024 * v 1 + (0))) = (j : Int) ∧ c_gv j (g j) = v 4 := rM
  have eM := t_g13 h ni nd 2 (by omega) (by omega) (by omega) rM (by omega)
  have rB : ∃ j : Nat, 15716035654990179272228864 + (1024 * v 1 + (1 * v 2 + (0))) = (j : Int) ∧ c_gv j (g j) = v 5 := rB
  have eB := t_g13 h nj nd 1 (by omega) (by omega) (by omega) rB (by omega)
  have c := t_px_in (X := t_tx g) (t_G_ok h) (i := ni) 0 nd
  rw [if_neg (by omega)] at c
  rw [t_px2 (by omega), if_pos (by omega), show (t_px (t_tx g) 0 ni nd).toNat = nj by omega] at eM
  exact ⟨(by show 0 ≤ 0 + (1 * v 4 + ((-1) * v 5 + (0))); omega), (by show 0 ≤ 0 + ((-1) * v 4 + (1 * v 5 + (0))); omega), (by show 0 ≤ (-1) + ((-1) * v 0 + (1 * v 2 + (0))); omega), trivial⟩
-- im2
theorem t_q89 {g : Nat → Int} (h : t_G g) : t_ok g 2 ([(15716035654990179271180288, [(0, 1), (1, 1024)]), (15716035654990179273277440, [(0, 1), (1, 1024)])], [(0, [(0, 1)]), (650, [(0, (-1))]), (0, [(1, 1)]), (6, [(1, (-1))]), (1, [(2, 1)]), ((-1), [(2, (-1))])], [(1, [(3, 1)]), ((-1), [(3, (-1))])]) := by
  refine t_okI fun v hr hp => ?_
  obtain ⟨rA, rM, -⟩ := hr
  obtain ⟨p0, p1, p2, p3, p4, p5, -⟩ := hp
  have p0 : 0 ≤ 0 + (1 * v 0 + (0)) := p0
  have p1 : 0 ≤ 650 + ((-1) * v 0 + (0)) := p1
  have p2 : 0 ≤ 0 + (1 * v 1 + (0)) := p2
  have p3 : 0 ≤ 6 + ((-1) * v 1 + (0)) := p3
  have p4 : 0 ≤ 1 + (1 * v 2 + (0)) := p4
  have p5 : 0 ≤ (-1) + ((-1) * v 2 + (0)) := p5
  obtain ⟨ni, hi⟩ : ∃ n : Nat, v 0 = (n : Int) := ⟨(v 0).toNat, by omega⟩
  obtain ⟨nd, hd⟩ : ∃ n : Nat, v 1 = (n : Int) := ⟨(v 1).toNat, by omega⟩
  have rA : ∃ j : Nat, 15716035654990179271180288 + (1 * v 0 + (1024 * v 1 + (0))) = (j : Int) ∧ c_gv j (g j) = v 2 := rA
  have eA := t_g13 h ni nd 0 (by omega) (by omega) (by omega) rA (by omega)
  have rM : ∃ j : Nat, 15716035654990179273277440 + (1 * v 0 + (1024 * v 1 + (0))) = (j : Int) ∧ c_gv j (g j) = v 3 := rM
  have eM := t_g13 h ni nd 2 (by omega) (by omega) (by omega) rM (by omega)
  rw [t_px2 (by omega), if_neg (by omega)] at eM
  exact ⟨(by show 0 ≤ 1 + (1 * v 3 + (0)); omega), (by show 0 ≤ (-1) + ((-1) * v 3 + (0)); omega), trivial⟩
-- su1
theorem t_q90 {g : Nat → Int} (h : t_G g) : t_ok g 3 ([(15716035654990179273277440, [(0, 1), (1, 1024)]), (15716035654990179275374592, [(0, 1), (1, 1024)]), (15716035654990179274326016, [(1, 1024), (2, 1)])], [(0, [(0, 1)]), (650, [(0, (-1))]), (0, [(1, 1)]), (6, [(1, (-1))]), (0, [(2, 1)]), (650, [(2, (-1))]), (0, [(2, (-1)), (3, 1)]), (0, [(2, 1), (3, (-1))])], [(0, [(4, 1), (5, (-1))]), (0, [(4, (-1)), (5, 1)]), ((-1), [(0, (-1)), (2, 1)])]) := by
  refine t_okI fun v hr hp => ?_
  obtain ⟨rM, rS, rT, -⟩ := hr
  obtain ⟨p0, p1, p2, p3, p4, p5, p6, p7, -⟩ := hp
  have p0 : 0 ≤ 0 + (1 * v 0 + (0)) := p0
  have p1 : 0 ≤ 650 + ((-1) * v 0 + (0)) := p1
  have p2 : 0 ≤ 0 + (1 * v 1 + (0)) := p2
  have p3 : 0 ≤ 6 + ((-1) * v 1 + (0)) := p3
  have p4 : 0 ≤ 0 + (1 * v 2 + (0)) := p4
  have p5 : 0 ≤ 650 + ((-1) * v 2 + (0)) := p5
  have p6 : 0 ≤ 0 + ((-1) * v 2 + (1 * v 3 + (0))) := p6
  have p7 : 0 ≤ 0 + (1 * v 2 + ((-1) * v 3 + (0))) := p7
  obtain ⟨ni, hi⟩ : ∃ n : Nat, v 0 = (n : Int) := ⟨(v 0).toNat, by omega⟩
  obtain ⟨nd, hd⟩ : ∃ n : Nat, v 1 = (n : Int) := ⟨(v 1).toNat, by omega⟩
  obtain ⟨nj, hj⟩ : ∃ n : Nat, v 2 = (n : Int) := ⟨(v 2).toNat, by omega⟩
  have rM : ∃ j : Nat, 15716035654990179273277440 + (1 * v 0 + (1024 * v 1 + (0))) = (j : Int) ∧ c_gv j (g j) = v 3 := rM
  have eM := t_g13 h ni nd 2 (by omega) (by omega) (by omega) rM (by omega)
  have rS : ∃ j : Nat, 15716035654990179275374592 + (1 * v 0 + (1024 * v 1 + (0))) = (j : Int) ∧ c_gv j (g j) = v 4 := rS
  have eS := t_g13 h ni nd 4 (by omega) (by omega) (by omega) rS (by omega)
  have rT : ∃ j : Nat, 15716035654990179274326016 + (1024 * v 1 + (1 * v 2 + (0))) = (j : Int) ∧ c_gv j (g j) = v 5 := rT
  have eT := t_g13 h nj nd 3 (by omega) (by omega) (by omega) rT (by omega)
  have c := t_px_in (X := t_tx g) (t_G_ok h) (i := ni) 2 nd
  rw [if_neg (by omega)] at c
  rw [t_px4 (by omega), if_pos (by omega), show (t_px (t_tx g) 2 ni nd).toNat = nj by omega] at eS
  exact ⟨(by show 0 ≤ 0 + (1 * v 4 + ((-1) * v 5 + (0))); omega), (by show 0 ≤ 0 + ((-1) * v 4 + (1 * v 5 + (0))); omega), (by show 0 ≤ (-1) + ((-1) * v 0 + (1 * v 2 + (0))); omega), trivial⟩
-- su2
theorem t_q91 {g : Nat → Int} (h : t_G g) : t_ok g 2 ([(15716035654990179273277440, [(0, 1), (1, 1024)]), (15716035654990179275374592, [(0, 1), (1, 1024)])], [(0, [(0, 1)]), (650, [(0, (-1))]), (0, [(1, 1)]), (6, [(1, (-1))]), (1, [(2, 1)]), ((-1), [(2, (-1))])], [(1, [(3, 1)]), ((-1), [(3, (-1))])]) := by
  refine t_okI fun v hr hp => ?_
  obtain ⟨rM, rS, -⟩ := hr
  obtain ⟨p0, p1, p2, p3, p4, p5, -⟩ := hp
  have p0 : 0 ≤ 0 + (1 * v 0 + (0)) := p0
  have p1 : 0 ≤ 650 + ((-1) * v 0 + (0)) := p1
  have p2 : 0 ≤ 0 + (1 * v 1 + (0)) := p2
  have p3 : 0 ≤ 6 + ((-1) * v 1 + (0)) := p3
  have p4 : 0 ≤ 1 + (1 * v 2 + (0)) := p4
  have p5 : 0 ≤ (-1) + ((-1) * v 2 + (0)) := p5
  obtain ⟨ni, hi⟩ : ∃ n : Nat, v 0 = (n : Int) := ⟨(v 0).toNat, by omega⟩
  obtain ⟨nd, hd⟩ : ∃ n : Nat, v 1 = (n : Int) := ⟨(v 1).toNat, by omega⟩
  have rM : ∃ j : Nat, 15716035654990179273277440 + (1 * v 0 + (1024 * v 1 + (0))) = (j : Int) ∧ c_gv j (g j) = v 2 := rM
  have eM := t_g13 h ni nd 2 (by omega) (by omega) (by omega) rM (by omega)
  have rS : ∃ j : Nat, 15716035654990179275374592 + (1 * v 0 + (1024 * v 1 + (0))) = (j : Int) ∧ c_gv j (g j) = v 3 := rS
  have eS := t_g13 h ni nd 4 (by omega) (by omega) (by omega) rS (by omega)
  rw [t_px4 (by omega), if_neg (by omega)] at eS
  exact ⟨(by show 0 ≤ 1 + (1 * v 3 + (0)); omega), (by show 0 ≤ (-1) + ((-1) * v 3 + (0)); omega), trivial⟩
-- ns1
theorem t_q92 {g : Nat → Int} (h : t_G g) : t_ok g 3 ([(15716035654990179275374592, [(0, 1), (1, 1024)]), (45939181145355908638834688, [(0, 1), (1, 1024)]), (20551738933448695970046976, [(2, 1)])], [(0, [(0, 1)]), (650, [(0, (-1))]), (0, [(1, 1)]), (7, [(1, (-1))]), (0, [(2, 1)]), (650, [(2, (-1))]), (0, [(2, (-1)), (3, 1)]), (0, [(2, 1), (3, (-1))])], [(0, [(4, 1), (5, (-1))]), (0, [(4, (-1)), (5, 1)]), ((-1), [(0, (-1)), (2, 1)])]) := by
  refine t_okI fun v hr hp => ?_
  obtain ⟨rS, rA, rD, -⟩ := hr
  obtain ⟨p0, p1, p2, p3, p4, p5, p6, p7, -⟩ := hp
  have p0 : 0 ≤ 0 + (1 * v 0 + (0)) := p0
  have p1 : 0 ≤ 650 + ((-1) * v 0 + (0)) := p1
  have p2 : 0 ≤ 0 + (1 * v 1 + (0)) := p2
  have p3 : 0 ≤ 7 + ((-1) * v 1 + (0)) := p3
  have p4 : 0 ≤ 0 + (1 * v 2 + (0)) := p4
  have p5 : 0 ≤ 650 + ((-1) * v 2 + (0)) := p5
  have p6 : 0 ≤ 0 + ((-1) * v 2 + (1 * v 3 + (0))) := p6
  have p7 : 0 ≤ 0 + (1 * v 2 + ((-1) * v 3 + (0))) := p7
  obtain ⟨ni, hi⟩ : ∃ n : Nat, v 0 = (n : Int) := ⟨(v 0).toNat, by omega⟩
  obtain ⟨nd, hd⟩ : ∃ n : Nat, v 1 = (n : Int) := ⟨(v 1).toNat, by omega⟩
  obtain ⟨nj, hj⟩ : ∃ n : Nat, v 2 = (n : Int) := ⟨(v 2).toNat, by omega⟩
  have rS : ∃ j : Nat, 15716035654990179275374592 + (1 * v 0 + (1024 * v 1 + (0))) = (j : Int) ∧ c_gv j (g j) = v 3 := rS
  have eS := t_g13 h ni nd 4 (by omega) (by omega) (by omega) rS (by omega)
  have rA : ∃ j : Nat, 45939181145355908638834688 + (1 * v 0 + (1024 * v 1 + (0))) = (j : Int) ∧ c_gv j (g j) = v 4 := rA
  have eA := t_g38 h ni nd (by omega) (by omega) rA (by omega)
  have rD : ∃ j : Nat, 20551738933448695970046976 + (1 * v 2 + (0)) = (j : Int) ∧ c_gv j (g j) = v 5 := rD
  have eD := t_g17 h nj 41 (by omega) (by omega) rD (by omega)
  have c := t_px_in (X := t_tx g) (t_G_ok h) (i := ni) 4 nd
  rw [if_neg (by omega)] at c
  unfold t_af at eA
  rw [if_neg (by omega), show (t_px (t_tx g) 4 ni nd).toNat = nj by omega] at eA
  have eD : v 5 = t_need (t_tx g) nj 41 := eD
  exact ⟨(by show 0 ≤ 0 + (1 * v 4 + ((-1) * v 5 + (0))); omega), (by show 0 ≤ 0 + ((-1) * v 4 + (1 * v 5 + (0))); omega), (by show 0 ≤ (-1) + ((-1) * v 0 + (1 * v 2 + (0))); omega), trivial⟩
-- nl1
theorem t_q93 {g : Nat → Int} (h : t_G g) : t_ok g 3 ([(15716035654990179275374592, [(0, 1), (1, 1024)]), (47148106964970537813540864, [(0, 1), (1, 1024)]), (20551738933448695970065408, [(2, 1)])], [(0, [(0, 1)]), (650, [(0, (-1))]), (0, [(1, 1)]), (7, [(1, (-1))]), (0, [(2, 1)]), (650, [(2, (-1))]), (0, [(2, (-1)), (3, 1)]), (0, [(2, 1), (3, (-1))])], [(0, [(4, 1), (5, (-1))]), (0, [(4, (-1)), (5, 1)]), ((-1), [(0, (-1)), (2, 1)])]) := by
  refine t_okI fun v hr hp => ?_
  obtain ⟨rS, rA, rD, -⟩ := hr
  obtain ⟨p0, p1, p2, p3, p4, p5, p6, p7, -⟩ := hp
  have p0 : 0 ≤ 0 + (1 * v 0 + (0)) := p0
  have p1 : 0 ≤ 650 + ((-1) * v 0 + (0)) := p1
  have p2 : 0 ≤ 0 + (1 * v 1 + (0)) := p2
  have p3 : 0 ≤ 7 + ((-1) * v 1 + (0)) := p3
  have p4 : 0 ≤ 0 + (1 * v 2 + (0)) := p4
  have p5 : 0 ≤ 650 + ((-1) * v 2 + (0)) := p5
  have p6 : 0 ≤ 0 + ((-1) * v 2 + (1 * v 3 + (0))) := p6
  have p7 : 0 ≤ 0 + (1 * v 2 + ((-1) * v 3 + (0))) := p7
  obtain ⟨ni, hi⟩ : ∃ n : Nat, v 0 = (n : Int) := ⟨(v 0).toNat, by omega⟩
  obtain ⟨nd, hd⟩ : ∃ n : Nat, v 1 = (n : Int) := ⟨(v 1).toNat, by omega⟩
  obtain ⟨nj, hj⟩ : ∃ n : Nat, v 2 = (n : Int) := ⟨(v 2).toNat, by omega⟩
  have rS : ∃ j : Nat, 15716035654990179275374592 + (1 * v 0 + (1024 * v 1 + (0))) = (j : Int) ∧ c_gv j (g j) = v 3 := rS
  have eS := t_g13 h ni nd 4 (by omega) (by omega) (by omega) rS (by omega)
  have rA : ∃ j : Nat, 47148106964970537813540864 + (1 * v 0 + (1024 * v 1 + (0))) = (j : Int) ∧ c_gv j (g j) = v 4 := rA
  have eA := t_g39 h ni nd (by omega) (by omega) rA (by omega)
  have rD : ∃ j : Nat, 20551738933448695970065408 + (1 * v 2 + (0)) = (j : Int) ∧ c_gv j (g j) = v 5 := rD
  have eD := t_g17 h nj 59 (by omega) (by omega) rD (by omega)
  have c := t_px_in (X := t_tx g) (t_G_ok h) (i := ni) 4 nd
  rw [if_neg (by omega)] at c
  unfold t_af at eA
  rw [if_neg (by omega), show (t_px (t_tx g) 4 ni nd).toNat = nj by omega] at eA
  have eD : v 5 = t_need (t_tx g) nj 59 := eD
  exact ⟨(by show 0 ≤ 0 + (1 * v 4 + ((-1) * v 5 + (0))); omega), (by show 0 ≤ 0 + ((-1) * v 4 + (1 * v 5 + (0))); omega), (by show 0 ≤ (-1) + ((-1) * v 0 + (1 * v 2 + (0))); omega), trivial⟩
-- nl2
theorem t_q94 {g : Nat → Int} (h : t_G g) : t_ok g 2 ([(15716035654990179275374592, [(0, 1), (1, 1024)]), (47148106964970537813540864, [(0, 1), (1, 1024)])], [(0, [(0, 1)]), (650, [(0, (-1))]), (0, [(1, 1)]), (7, [(1, (-1))]), (1, [(2, 1)]), ((-1), [(2, (-1))])], [(1, [(3, 1)]), ((-1), [(3, (-1))])]) := by
  refine t_okI fun v hr hp => ?_
  obtain ⟨rS, rA, -⟩ := hr
  obtain ⟨p0, p1, p2, p3, p4, p5, -⟩ := hp
  have p0 : 0 ≤ 0 + (1 * v 0 + (0)) := p0
  have p1 : 0 ≤ 650 + ((-1) * v 0 + (0)) := p1
  have p2 : 0 ≤ 0 + (1 * v 1 + (0)) := p2
  have p3 : 0 ≤ 7 + ((-1) * v 1 + (0)) := p3
  have p4 : 0 ≤ 1 + (1 * v 2 + (0)) := p4
  have p5 : 0 ≤ (-1) + ((-1) * v 2 + (0)) := p5
  obtain ⟨ni, hi⟩ : ∃ n : Nat, v 0 = (n : Int) := ⟨(v 0).toNat, by omega⟩
  obtain ⟨nd, hd⟩ : ∃ n : Nat, v 1 = (n : Int) := ⟨(v 1).toNat, by omega⟩
  have rS : ∃ j : Nat, 15716035654990179275374592 + (1 * v 0 + (1024 * v 1 + (0))) = (j : Int) ∧ c_gv j (g j) = v 2 := rS
  have eS := t_g13 h ni nd 4 (by omega) (by omega) (by omega) rS (by omega)
  have rA : ∃ j : Nat, 47148106964970537813540864 + (1 * v 0 + (1024 * v 1 + (0))) = (j : Int) ∧ c_gv j (g j) = v 3 := rA
  have eA := t_g39 h ni nd (by omega) (by omega) rA (by omega)
  unfold t_af at eA
  rw [if_pos (by omega)] at eA
  exact ⟨(by show 0 ≤ 1 + (1 * v 3 + (0)); omega), (by show 0 ≤ (-1) + ((-1) * v 3 + (0)); omega), trivial⟩
-- ns2
theorem t_q95 {g : Nat → Int} (h : t_G g) : t_ok g 2 ([(15716035654990179275374592, [(0, 1), (1, 1024)]), (45939181145355908638834688, [(0, 1), (1, 1024)])], [(0, [(0, 1)]), (650, [(0, (-1))]), (0, [(1, 1)]), (7, [(1, (-1))]), (1, [(2, 1)]), ((-1), [(2, (-1))])], [(1, [(3, 1)]), ((-1), [(3, (-1))])]) := by
  refine t_okI fun v hr hp => ?_
  obtain ⟨rS, rA, -⟩ := hr
  obtain ⟨p0, p1, p2, p3, p4, p5, -⟩ := hp
  have p0 : 0 ≤ 0 + (1 * v 0 + (0)) := p0
  have p1 : 0 ≤ 650 + ((-1) * v 0 + (0)) := p1
  have p2 : 0 ≤ 0 + (1 * v 1 + (0)) := p2
  have p3 : 0 ≤ 7 + ((-1) * v 1 + (0)) := p3
  have p4 : 0 ≤ 1 + (1 * v 2 + (0)) := p4
  have p5 : 0 ≤ (-1) + ((-1) * v 2 + (0)) := p5
  obtain ⟨ni, hi⟩ : ∃ n : Nat, v 0 = (n : Int) := ⟨(v 0).toNat, by omega⟩
  obtain ⟨nd, hd⟩ : ∃ n : Nat, v 1 = (n : Int) := ⟨(v 1).toNat, by omega⟩
  have rS : ∃ j : Nat, 15716035654990179275374592 + (1 * v 0 + (1024 * v 1 + (0))) = (j : Int) ∧ c_gv j (g j) = v 2 := rS
  have eS := t_g13 h ni nd 4 (by omega) (by omega) (by omega) rS (by omega)
  have rA : ∃ j : Nat, 45939181145355908638834688 + (1 * v 0 + (1024 * v 1 + (0))) = (j : Int) ∧ c_gv j (g j) = v 3 := rA
  have eA := t_g38 h ni nd (by omega) (by omega) rA (by omega)
  unfold t_af at eA
  rw [if_pos (by omega)] at eA
  exact ⟨(by show 0 ≤ 1 + (1 * v 3 + (0)); omega), (by show 0 ≤ (-1) + ((-1) * v 3 + (0)); omega), trivial⟩
-- itN1
theorem t_q96 {g : Nat → Int} (h : t_G g) : t_ok g 2 ([(9671406556917033397649408, [(0, 1)]), (12089258196146291747061760, [(0, 1)]), (15716035654990179272228864, [(0, 1), (1, 1024)])], [(0, [(0, 1)]), (650, [(0, (-1))]), (0, [(1, 1)]), (7, [(1, (-1))]), (2, [(2, (-1))])], [(0, [(0, (-1)), (4, 1)]), (0, [(0, 1), (4, (-1))])]) := by
  refine t_okI fun v hr hp => ?_
  obtain ⟨rK, rV, rB, -⟩ := hr
  obtain ⟨p0, p1, p2, p3, p4, -⟩ := hp
  have p0 : 0 ≤ 0 + (1 * v 0 + (0)) := p0
  have p1 : 0 ≤ 650 + ((-1) * v 0 + (0)) := p1
  have p2 : 0 ≤ 0 + (1 * v 1 + (0)) := p2
  have p3 : 0 ≤ 7 + ((-1) * v 1 + (0)) := p3
  have p4 : 0 ≤ 2 + ((-1) * v 2 + (0)) := p4
  obtain ⟨ni, hi⟩ : ∃ n : Nat, v 0 = (n : Int) := ⟨(v 0).toNat, by omega⟩
  obtain ⟨nd, hd⟩ : ∃ n : Nat, v 1 = (n : Int) := ⟨(v 1).toNat, by omega⟩
  have rK : ∃ j : Nat, 9671406556917033397649408 + (1 * v 0 + (0)) = (j : Int) ∧ c_gv j (g j) = v 2 := rK
  have eK := t_g8 h ni (by omega) rK (by omega)
  have rV : ∃ j : Nat, 12089258196146291747061760 + (1 * v 0 + (0)) = (j : Int) ∧ c_gv j (g j) = v 3 := rV
  have eV := t_g10 h ni (by omega) rV (by omega)
  have rB : ∃ j : Nat, 15716035654990179272228864 + (1 * v 0 + (1024 * v 1 + (0))) = (j : Int) ∧ c_gv j (g j) = v 4 := rB
  have eB := t_g13 h ni nd 1 (by omega) (by omega) (by omega) rB (by omega)
  rw [t_px1 (by omega), if_neg (by rw [Bool.or_eq_true]; exact fun h9 => h9.elim (t_nsg (by omega)) (t_nsg (by omega)))] at eB
  exact ⟨(by show 0 ≤ 0 + ((-1) * v 0 + (1 * v 4 + (0))); omega), (by show 0 ≤ 0 + (1 * v 0 + ((-1) * v 4 + (0))); omega), trivial⟩
-- itN2
theorem t_q97 {g : Nat → Int} (h : t_G g) : t_ok g 2 ([(9671406556917033397649408, [(0, 1)]), (12089258196146291747061760, [(0, 1)]), (15716035654990179272228864, [(0, 1), (1, 1024)])], [(0, [(0, 1)]), (650, [(0, (-1))]), (0, [(1, 1)]), (7, [(1, (-1))]), ((-4), [(2, 1)])], [(0, [(0, (-1)), (4, 1)]), (0, [(0, 1), (4, (-1))])]) := by
  refine t_okI fun v hr hp => ?_
  obtain ⟨rK, rV, rB, -⟩ := hr
  obtain ⟨p0, p1, p2, p3, p4, -⟩ := hp
  have p0 : 0 ≤ 0 + (1 * v 0 + (0)) := p0
  have p1 : 0 ≤ 650 + ((-1) * v 0 + (0)) := p1
  have p2 : 0 ≤ 0 + (1 * v 1 + (0)) := p2
  have p3 : 0 ≤ 7 + ((-1) * v 1 + (0)) := p3
  have p4 : 0 ≤ (-4) + (1 * v 2 + (0)) := p4
  obtain ⟨ni, hi⟩ : ∃ n : Nat, v 0 = (n : Int) := ⟨(v 0).toNat, by omega⟩
  obtain ⟨nd, hd⟩ : ∃ n : Nat, v 1 = (n : Int) := ⟨(v 1).toNat, by omega⟩
  have rK : ∃ j : Nat, 9671406556917033397649408 + (1 * v 0 + (0)) = (j : Int) ∧ c_gv j (g j) = v 2 := rK
  have eK := t_g8 h ni (by omega) rK (by omega)
  have rV : ∃ j : Nat, 12089258196146291747061760 + (1 * v 0 + (0)) = (j : Int) ∧ c_gv j (g j) = v 3 := rV
  have eV := t_g10 h ni (by omega) rV (by omega)
  have rB : ∃ j : Nat, 15716035654990179272228864 + (1 * v 0 + (1024 * v 1 + (0))) = (j : Int) ∧ c_gv j (g j) = v 4 := rB
  have eB := t_g13 h ni nd 1 (by omega) (by omega) (by omega) rB (by omega)
  rw [t_px1 (by omega), if_neg (by rw [Bool.or_eq_true]; exact fun h9 => h9.elim (t_nsg (by omega)) (t_nsg (by omega)))] at eB
  exact ⟨(by show 0 ≤ 0 + ((-1) * v 0 + (1 * v 4 + (0))); omega), (by show 0 ≤ 0 + (1 * v 0 + ((-1) * v 4 + (0))); omega), trivial⟩
-- itN3
theorem t_q98 {g : Nat → Int} (h : t_G g) : t_ok g 2 ([(9671406556917033397649408, [(0, 1)]), (12089258196146291747061760, [(0, 1)]), (15716035654990179272228864, [(0, 1), (1, 1024)])], [(0, [(0, 1)]), (650, [(0, (-1))]), (0, [(1, 1)]), (7, [(1, (-1))]), (41, [(3, (-1))])], [(0, [(0, (-1)), (4, 1)]), (0, [(0, 1), (4, (-1))])]) := by
  refine t_okI fun v hr hp => ?_
  obtain ⟨rK, rV, rB, -⟩ := hr
  obtain ⟨p0, p1, p2, p3, p4, -⟩ := hp
  have p0 : 0 ≤ 0 + (1 * v 0 + (0)) := p0
  have p1 : 0 ≤ 650 + ((-1) * v 0 + (0)) := p1
  have p2 : 0 ≤ 0 + (1 * v 1 + (0)) := p2
  have p3 : 0 ≤ 7 + ((-1) * v 1 + (0)) := p3
  have p4 : 0 ≤ 41 + ((-1) * v 3 + (0)) := p4
  obtain ⟨ni, hi⟩ : ∃ n : Nat, v 0 = (n : Int) := ⟨(v 0).toNat, by omega⟩
  obtain ⟨nd, hd⟩ : ∃ n : Nat, v 1 = (n : Int) := ⟨(v 1).toNat, by omega⟩
  have rK : ∃ j : Nat, 9671406556917033397649408 + (1 * v 0 + (0)) = (j : Int) ∧ c_gv j (g j) = v 2 := rK
  have eK := t_g8 h ni (by omega) rK (by omega)
  have rV : ∃ j : Nat, 12089258196146291747061760 + (1 * v 0 + (0)) = (j : Int) ∧ c_gv j (g j) = v 3 := rV
  have eV := t_g10 h ni (by omega) rV (by omega)
  have rB : ∃ j : Nat, 15716035654990179272228864 + (1 * v 0 + (1024 * v 1 + (0))) = (j : Int) ∧ c_gv j (g j) = v 4 := rB
  have eB := t_g13 h ni nd 1 (by omega) (by omega) (by omega) rB (by omega)
  rw [t_px1 (by omega), if_neg (by rw [Bool.or_eq_true]; exact fun h9 => h9.elim (t_nsg (by omega)) (t_nsg (by omega)))] at eB
  exact ⟨(by show 0 ≤ 0 + ((-1) * v 0 + (1 * v 4 + (0))); omega), (by show 0 ≤ 0 + (1 * v 0 + ((-1) * v 4 + (0))); omega), trivial⟩
-- itN4
theorem t_q99 {g : Nat → Int} (h : t_G g) : t_ok g 2 ([(9671406556917033397649408, [(0, 1)]), (12089258196146291747061760, [(0, 1)]), (15716035654990179272228864, [(0, 1), (1, 1024)])], [(0, [(0, 1)]), (650, [(0, (-1))]), (0, [(1, 1)]), (7, [(1, (-1))]), ((-43), [(3, 1)]), (46, [(3, (-1))])], [(0, [(0, (-1)), (4, 1)]), (0, [(0, 1), (4, (-1))])]) := by
  refine t_okI fun v hr hp => ?_
  obtain ⟨rK, rV, rB, -⟩ := hr
  obtain ⟨p0, p1, p2, p3, p4, p5, -⟩ := hp
  have p0 : 0 ≤ 0 + (1 * v 0 + (0)) := p0
  have p1 : 0 ≤ 650 + ((-1) * v 0 + (0)) := p1
  have p2 : 0 ≤ 0 + (1 * v 1 + (0)) := p2
  have p3 : 0 ≤ 7 + ((-1) * v 1 + (0)) := p3
  have p4 : 0 ≤ (-43) + (1 * v 3 + (0)) := p4
  have p5 : 0 ≤ 46 + ((-1) * v 3 + (0)) := p5
  obtain ⟨ni, hi⟩ : ∃ n : Nat, v 0 = (n : Int) := ⟨(v 0).toNat, by omega⟩
  obtain ⟨nd, hd⟩ : ∃ n : Nat, v 1 = (n : Int) := ⟨(v 1).toNat, by omega⟩
  have rK : ∃ j : Nat, 9671406556917033397649408 + (1 * v 0 + (0)) = (j : Int) ∧ c_gv j (g j) = v 2 := rK
  have eK := t_g8 h ni (by omega) rK (by omega)
  have rV : ∃ j : Nat, 12089258196146291747061760 + (1 * v 0 + (0)) = (j : Int) ∧ c_gv j (g j) = v 3 := rV
  have eV := t_g10 h ni (by omega) rV (by omega)
  have rB : ∃ j : Nat, 15716035654990179272228864 + (1 * v 0 + (1024 * v 1 + (0))) = (j : Int) ∧ c_gv j (g j) = v 4 := rB
  have eB := t_g13 h ni nd 1 (by omega) (by omega) (by omega) rB (by omega)
  rw [t_px1 (by omega), if_neg (by rw [Bool.or_eq_true]; exact fun h9 => h9.elim (t_nsg (by omega)) (t_nsg (by omega)))] at eB
  exact ⟨(by show 0 ≤ 0 + ((-1) * v 0 + (1 * v 4 + (0))); omega), (by show 0 ≤ 0 + (1 * v 0 + ((-1) * v 4 + (0))); omega), trivial⟩
-- itN5
theorem t_q100 {g : Nat → Int} (h : t_G g) : t_ok g 2 ([(9671406556917033397649408, [(0, 1)]), (12089258196146291747061760, [(0, 1)]), (15716035654990179272228864, [(0, 1), (1, 1024)])], [(0, [(0, 1)]), (650, [(0, (-1))]), (0, [(1, 1)]), (7, [(1, (-1))]), ((-48), [(3, 1)])], [(0, [(0, (-1)), (4, 1)]), (0, [(0, 1), (4, (-1))])]) := by
  refine t_okI fun v hr hp => ?_
  obtain ⟨rK, rV, rB, -⟩ := hr
  obtain ⟨p0, p1, p2, p3, p4, -⟩ := hp
  have p0 : 0 ≤ 0 + (1 * v 0 + (0)) := p0
  have p1 : 0 ≤ 650 + ((-1) * v 0 + (0)) := p1
  have p2 : 0 ≤ 0 + (1 * v 1 + (0)) := p2
  have p3 : 0 ≤ 7 + ((-1) * v 1 + (0)) := p3
  have p4 : 0 ≤ (-48) + (1 * v 3 + (0)) := p4
  obtain ⟨ni, hi⟩ : ∃ n : Nat, v 0 = (n : Int) := ⟨(v 0).toNat, by omega⟩
  obtain ⟨nd, hd⟩ : ∃ n : Nat, v 1 = (n : Int) := ⟨(v 1).toNat, by omega⟩
  have rK : ∃ j : Nat, 9671406556917033397649408 + (1 * v 0 + (0)) = (j : Int) ∧ c_gv j (g j) = v 2 := rK
  have eK := t_g8 h ni (by omega) rK (by omega)
  have rV : ∃ j : Nat, 12089258196146291747061760 + (1 * v 0 + (0)) = (j : Int) ∧ c_gv j (g j) = v 3 := rV
  have eV := t_g10 h ni (by omega) rV (by omega)
  have rB : ∃ j : Nat, 15716035654990179272228864 + (1 * v 0 + (1024 * v 1 + (0))) = (j : Int) ∧ c_gv j (g j) = v 4 := rB
  have eB := t_g13 h ni nd 1 (by omega) (by omega) (by omega) rB (by omega)
  rw [t_px1 (by omega), if_neg (by rw [Bool.or_eq_true]; exact fun h9 => h9.elim (t_nsg (by omega)) (t_nsg (by omega)))] at eB
  exact ⟨(by show 0 ≤ 0 + ((-1) * v 0 + (1 * v 4 + (0))); omega), (by show 0 ≤ 0 + (1 * v 0 + ((-1) * v 4 + (0))); omega), trivial⟩
-- itB1
theorem t_q101 {g : Nat → Int} (h : t_G g) : t_ok g 3 ([(9671406556917033397649408, [(0, 1)]), (12089258196146291747061760, [(0, 1)]), (15716035654990179272228864, [(0, 1), (2, 1024)]), (15716035654990179273277440, [(1, 1), (2, 1024)])], [(0, [(0, 1)]), (650, [(0, (-1))]), (0, [(2, 1)]), (7, [(2, (-1))]), ((-1), [(0, (-1)), (1, 1)]), (1, [(0, 1), (1, (-1))]), ((-3), [(3, 1)]), (3, [(3, (-1))]), ((-42), [(4, 1)]), (42, [(4, (-1))])], [(0, [(5, 1), (6, (-1))]), (0, [(5, (-1)), (6, 1)])]) := by
  refine t_okI fun v hr hp => ?_
  obtain ⟨rK, rV, rB, rM, -⟩ := hr
  obtain ⟨p0, p1, p2, p3, p4, p5, p6, p7, p8, p9, -⟩ := hp
  have p0 : 0 ≤ 0 + (1 * v 0 + (0)) := p0
  have p1 : 0 ≤ 650 + ((-1) * v 0 + (0)) := p1
  have p2 : 0 ≤ 0 + (1 * v 2 + (0)) := p2
  have p3 : 0 ≤ 7 + ((-1) * v 2 + (0)) := p3
  have p4 : 0 ≤ (-1) + ((-1) * v 0 + (1 * v 1 + (0))) := p4
  have p5 : 0 ≤ 1 + (1 * v 0 + ((-1) * v 1 + (0))) := p5
  have p6 : 0 ≤ (-3) + (1 * v 3 + (0)) := p6
  have p7 : 0 ≤ 3 + ((-1) * v 3 + (0)) := p7
  have p8 : 0 ≤ (-42) + (1 * v 4 + (0)) := p8
  have p9 : 0 ≤ 42 + ((-1) * v 4 + (0)) := p9
  obtain ⟨ni, hi⟩ : ∃ n : Nat, v 0 = (n : Int) := ⟨(v 0).toNat, by omega⟩
  obtain ⟨nj, hj⟩ : ∃ n : Nat, v 1 = (n : Int) := ⟨(v 1).toNat, by omega⟩
  obtain ⟨nd, hd⟩ : ∃ n : Nat, v 2 = (n : Int) := ⟨(v 2).toNat, by omega⟩
  have rK : ∃ j : Nat, 9671406556917033397649408 + (1 * v 0 + (0)) = (j : Int) ∧ c_gv j (g j) = v 3 := rK
  have eK := t_g8 h ni (by omega) rK (by omega)
  have rV : ∃ j : Nat, 12089258196146291747061760 + (1 * v 0 + (0)) = (j : Int) ∧ c_gv j (g j) = v 4 := rV
  have eV := t_g10 h ni (by omega) rV (by omega)
  have rB : ∃ j : Nat, 15716035654990179272228864 + (1 * v 0 + (1024 * v 2 + (0))) = (j : Int) ∧ c_gv j (g j) = v 5 := rB
  have eB := t_g13 h ni nd 1 (by omega) (by omega) (by omega) rB (by omega)
  have rM : ∃ j : Nat, 15716035654990179273277440 + (1 * v 1 + (1024 * v 2 + (0))) = (j : Int) ∧ c_gv j (g j) = v 6 := rM
  have eM := t_g13 h nj nd 2 (by omega) (by omega) (by omega) rM (by omega)
  have c : nj = ni + 1 := by omega
  subst c
  rw [t_px1 (by omega), if_pos (by rw [Bool.or_eq_true]; exact Or.inl (t_sg_iff.mpr ⟨by omega, by omega⟩))] at eB
  rw [t_px2 (by omega)] at eM
  have c3 := t_px_in (X := t_tx g) (t_G_ok h) (i := ni + 1) 0 nd
  rw [if_neg (by omega)] at c3
  have key : v 5 = v 6 := by
    rcases c3 with c3 | c3
    · rw [if_neg (by omega)] at eB eM
      omega
    · rw [if_pos (by omega)] at eB eM
      rw [eB, eM]
  exact ⟨(by show 0 ≤ 0 + (1 * v 5 + ((-1) * v 6 + (0))); omega), (by show 0 ≤ 0 + ((-1) * v 5 + (1 * v 6 + (0))); omega), trivial⟩
-- itB2
theorem t_q102 {g : Nat → Int} (h : t_G g) : t_ok g 3 ([(9671406556917033397649408, [(0, 1)]), (12089258196146291747061760, [(0, 1)]), (15716035654990179272228864, [(0, 1), (2, 1024)]), (15716035654990179273277440, [(1, 1), (2, 1024)])], [(0, [(0, 1)]), (650, [(0, (-1))]), (0, [(2, 1)]), (7, [(2, (-1))]), ((-1), [(0, (-1)), (1, 1)]), (1, [(0, 1), (1, (-1))]), ((-3), [(3, 1)]), (3, [(3, (-1))]), ((-47), [(4, 1)]), (47, [(4, (-1))])], [(0, [(5, 1), (6, (-1))]), (0, [(5, (-1)), (6, 1)])]) := by
  refine t_okI fun v hr hp => ?_
  obtain ⟨rK, rV, rB, rM, -⟩ := hr
  obtain ⟨p0, p1, p2, p3, p4, p5, p6, p7, p8, p9, -⟩ := hp
  have p0 : 0 ≤ 0 + (1 * v 0 + (0)) := p0
  have p1 : 0 ≤ 650 + ((-1) * v 0 + (0)) := p1
  have p2 : 0 ≤ 0 + (1 * v 2 + (0)) := p2
  have p3 : 0 ≤ 7 + ((-1) * v 2 + (0)) := p3
  have p4 : 0 ≤ (-1) + ((-1) * v 0 + (1 * v 1 + (0))) := p4
  have p5 : 0 ≤ 1 + (1 * v 0 + ((-1) * v 1 + (0))) := p5
  have p6 : 0 ≤ (-3) + (1 * v 3 + (0)) := p6
  have p7 : 0 ≤ 3 + ((-1) * v 3 + (0)) := p7
  have p8 : 0 ≤ (-47) + (1 * v 4 + (0)) := p8
  have p9 : 0 ≤ 47 + ((-1) * v 4 + (0)) := p9
  obtain ⟨ni, hi⟩ : ∃ n : Nat, v 0 = (n : Int) := ⟨(v 0).toNat, by omega⟩
  obtain ⟨nj, hj⟩ : ∃ n : Nat, v 1 = (n : Int) := ⟨(v 1).toNat, by omega⟩
  obtain ⟨nd, hd⟩ : ∃ n : Nat, v 2 = (n : Int) := ⟨(v 2).toNat, by omega⟩
  have rK : ∃ j : Nat, 9671406556917033397649408 + (1 * v 0 + (0)) = (j : Int) ∧ c_gv j (g j) = v 3 := rK
  have eK := t_g8 h ni (by omega) rK (by omega)
  have rV : ∃ j : Nat, 12089258196146291747061760 + (1 * v 0 + (0)) = (j : Int) ∧ c_gv j (g j) = v 4 := rV
  have eV := t_g10 h ni (by omega) rV (by omega)
  have rB : ∃ j : Nat, 15716035654990179272228864 + (1 * v 0 + (1024 * v 2 + (0))) = (j : Int) ∧ c_gv j (g j) = v 5 := rB
  have eB := t_g13 h ni nd 1 (by omega) (by omega) (by omega) rB (by omega)
  have rM : ∃ j : Nat, 15716035654990179273277440 + (1 * v 1 + (1024 * v 2 + (0))) = (j : Int) ∧ c_gv j (g j) = v 6 := rM
  have eM := t_g13 h nj nd 2 (by omega) (by omega) (by omega) rM (by omega)
  have c : nj = ni + 1 := by omega
  subst c
  rw [t_px1 (by omega), if_pos (by rw [Bool.or_eq_true]; exact Or.inr (t_sg_iff.mpr ⟨by omega, by omega⟩))] at eB
  rw [t_px2 (by omega)] at eM
  have c3 := t_px_in (X := t_tx g) (t_G_ok h) (i := ni + 1) 0 nd
  rw [if_neg (by omega)] at c3
  have key : v 5 = v 6 := by
    rcases c3 with c3 | c3
    · rw [if_neg (by omega)] at eB eM
      omega
    · rw [if_pos (by omega)] at eB eM
      rw [eB, eM]
  exact ⟨(by show 0 ≤ 0 + (1 * v 5 + ((-1) * v 6 + (0))); omega), (by show 0 ≤ 0 + ((-1) * v 5 + (1 * v 6 + (0))); omega), trivial⟩
-- stN1
theorem t_q103 {g : Nat → Int} (h : t_G g) : t_ok g 2 ([(9671406556917033397649408, [(0, 1)]), (12089258196146291747061760, [(0, 1)]), (15716035654990179274326016, [(0, 1), (1, 1024)])], [(0, [(0, 1)]), (650, [(0, (-1))]), (0, [(1, 1)]), (7, [(1, (-1))]), (2, [(2, (-1))])], [(0, [(0, (-1)), (4, 1)]), (0, [(0, 1), (4, (-1))])]) := by
  refine t_okI fun v hr hp => ?_
  obtain ⟨rK, rV, rB, -⟩ := hr
  obtain ⟨p0, p1, p2, p3, p4, -⟩ := hp
  have p0 : 0 ≤ 0 + (1 * v 0 + (0)) := p0
  have p1 : 0 ≤ 650 + ((-1) * v 0 + (0)) := p1
  have p2 : 0 ≤ 0 + (1 * v 1 + (0)) := p2
  have p3 : 0 ≤ 7 + ((-1) * v 1 + (0)) := p3
  have p4 : 0 ≤ 2 + ((-1) * v 2 + (0)) := p4
  obtain ⟨ni, hi⟩ : ∃ n : Nat, v 0 = (n : Int) := ⟨(v 0).toNat, by omega⟩
  obtain ⟨nd, hd⟩ : ∃ n : Nat, v 1 = (n : Int) := ⟨(v 1).toNat, by omega⟩
  have rK : ∃ j : Nat, 9671406556917033397649408 + (1 * v 0 + (0)) = (j : Int) ∧ c_gv j (g j) = v 2 := rK
  have eK := t_g8 h ni (by omega) rK (by omega)
  have rV : ∃ j : Nat, 12089258196146291747061760 + (1 * v 0 + (0)) = (j : Int) ∧ c_gv j (g j) = v 3 := rV
  have eV := t_g10 h ni (by omega) rV (by omega)
  have rB : ∃ j : Nat, 15716035654990179274326016 + (1 * v 0 + (1024 * v 1 + (0))) = (j : Int) ∧ c_gv j (g j) = v 4 := rB
  have eB := t_g13 h ni nd 3 (by omega) (by omega) (by omega) rB (by omega)
  rw [t_px3 (by omega), if_neg (by rw [Bool.or_eq_true]; exact fun h9 => h9.elim (t_nsg (by omega)) (t_nsg (by omega)))] at eB
  exact ⟨(by show 0 ≤ 0 + ((-1) * v 0 + (1 * v 4 + (0))); omega), (by show 0 ≤ 0 + (1 * v 0 + ((-1) * v 4 + (0))); omega), trivial⟩
-- stN2
theorem t_q104 {g : Nat → Int} (h : t_G g) : t_ok g 2 ([(9671406556917033397649408, [(0, 1)]), (12089258196146291747061760, [(0, 1)]), (15716035654990179274326016, [(0, 1), (1, 1024)])], [(0, [(0, 1)]), (650, [(0, (-1))]), (0, [(1, 1)]), (7, [(1, (-1))]), ((-4), [(2, 1)])], [(0, [(0, (-1)), (4, 1)]), (0, [(0, 1), (4, (-1))])]) := by
  refine t_okI fun v hr hp => ?_
  obtain ⟨rK, rV, rB, -⟩ := hr
  obtain ⟨p0, p1, p2, p3, p4, -⟩ := hp
  have p0 : 0 ≤ 0 + (1 * v 0 + (0)) := p0
  have p1 : 0 ≤ 650 + ((-1) * v 0 + (0)) := p1
  have p2 : 0 ≤ 0 + (1 * v 1 + (0)) := p2
  have p3 : 0 ≤ 7 + ((-1) * v 1 + (0)) := p3
  have p4 : 0 ≤ (-4) + (1 * v 2 + (0)) := p4
  obtain ⟨ni, hi⟩ : ∃ n : Nat, v 0 = (n : Int) := ⟨(v 0).toNat, by omega⟩
  obtain ⟨nd, hd⟩ : ∃ n : Nat, v 1 = (n : Int) := ⟨(v 1).toNat, by omega⟩
  have rK : ∃ j : Nat, 9671406556917033397649408 + (1 * v 0 + (0)) = (j : Int) ∧ c_gv j (g j) = v 2 := rK
  have eK := t_g8 h ni (by omega) rK (by omega)
  have rV : ∃ j : Nat, 12089258196146291747061760 + (1 * v 0 + (0)) = (j : Int) ∧ c_gv j (g j) = v 3 := rV
  have eV := t_g10 h ni (by omega) rV (by omega)
  have rB : ∃ j : Nat, 15716035654990179274326016 + (1 * v 0 + (1024 * v 1 + (0))) = (j : Int) ∧ c_gv j (g j) = v 4 := rB
  have eB := t_g13 h ni nd 3 (by omega) (by omega) (by omega) rB (by omega)
  rw [t_px3 (by omega), if_neg (by rw [Bool.or_eq_true]; exact fun h9 => h9.elim (t_nsg (by omega)) (t_nsg (by omega)))] at eB
  exact ⟨(by show 0 ≤ 0 + ((-1) * v 0 + (1 * v 4 + (0))); omega), (by show 0 ≤ 0 + (1 * v 0 + ((-1) * v 4 + (0))); omega), trivial⟩
-- stN3
theorem t_q105 {g : Nat → Int} (h : t_G g) : t_ok g 2 ([(9671406556917033397649408, [(0, 1)]), (12089258196146291747061760, [(0, 1)]), (15716035654990179274326016, [(0, 1), (1, 1024)])], [(0, [(0, 1)]), (650, [(0, (-1))]), (0, [(1, 1)]), (7, [(1, (-1))]), (42, [(3, (-1))])], [(0, [(0, (-1)), (4, 1)]), (0, [(0, 1), (4, (-1))])]) := by
  refine t_okI fun v hr hp => ?_
  obtain ⟨rK, rV, rB, -⟩ := hr
  obtain ⟨p0, p1, p2, p3, p4, -⟩ := hp
  have p0 : 0 ≤ 0 + (1 * v 0 + (0)) := p0
  have p1 : 0 ≤ 650 + ((-1) * v 0 + (0)) := p1
  have p2 : 0 ≤ 0 + (1 * v 1 + (0)) := p2
  have p3 : 0 ≤ 7 + ((-1) * v 1 + (0)) := p3
  have p4 : 0 ≤ 42 + ((-1) * v 3 + (0)) := p4
  obtain ⟨ni, hi⟩ : ∃ n : Nat, v 0 = (n : Int) := ⟨(v 0).toNat, by omega⟩
  obtain ⟨nd, hd⟩ : ∃ n : Nat, v 1 = (n : Int) := ⟨(v 1).toNat, by omega⟩
  have rK : ∃ j : Nat, 9671406556917033397649408 + (1 * v 0 + (0)) = (j : Int) ∧ c_gv j (g j) = v 2 := rK
  have eK := t_g8 h ni (by omega) rK (by omega)
  have rV : ∃ j : Nat, 12089258196146291747061760 + (1 * v 0 + (0)) = (j : Int) ∧ c_gv j (g j) = v 3 := rV
  have eV := t_g10 h ni (by omega) rV (by omega)
  have rB : ∃ j : Nat, 15716035654990179274326016 + (1 * v 0 + (1024 * v 1 + (0))) = (j : Int) ∧ c_gv j (g j) = v 4 := rB
  have eB := t_g13 h ni nd 3 (by omega) (by omega) (by omega) rB (by omega)
  rw [t_px3 (by omega), if_neg (by rw [Bool.or_eq_true]; exact fun h9 => h9.elim (t_nsg (by omega)) (t_nsg (by omega)))] at eB
  exact ⟨(by show 0 ≤ 0 + ((-1) * v 0 + (1 * v 4 + (0))); omega), (by show 0 ≤ 0 + (1 * v 0 + ((-1) * v 4 + (0))); omega), trivial⟩
-- stN4
theorem t_q106 {g : Nat → Int} (h : t_G g) : t_ok g 2 ([(9671406556917033397649408, [(0, 1)]), (12089258196146291747061760, [(0, 1)]), (15716035654990179274326016, [(0, 1), (1, 1024)])], [(0, [(0, 1)]), (650, [(0, (-1))]), (0, [(1, 1)]), (7, [(1, (-1))]), ((-44), [(3, 1)]), (44, [(3, (-1))])], [(0, [(0, (-1)), (4, 1)]), (0, [(0, 1), (4, (-1))])]) := by
  refine t_okI fun v hr hp => ?_
  obtain ⟨rK, rV, rB, -⟩ := hr
  obtain ⟨p0, p1, p2, p3, p4, p5, -⟩ := hp
  have p0 : 0 ≤ 0 + (1 * v 0 + (0)) := p0
  have p1 : 0 ≤ 650 + ((-1) * v 0 + (0)) := p1
  have p2 : 0 ≤ 0 + (1 * v 1 + (0)) := p2
  have p3 : 0 ≤ 7 + ((-1) * v 1 + (0)) := p3
  have p4 : 0 ≤ (-44) + (1 * v 3 + (0)) := p4
  have p5 : 0 ≤ 44 + ((-1) * v 3 + (0)) := p5
  obtain ⟨ni, hi⟩ : ∃ n : Nat, v 0 = (n : Int) := ⟨(v 0).toNat, by omega⟩
  obtain ⟨nd, hd⟩ : ∃ n : Nat, v 1 = (n : Int) := ⟨(v 1).toNat, by omega⟩
  have rK : ∃ j : Nat, 9671406556917033397649408 + (1 * v 0 + (0)) = (j : Int) ∧ c_gv j (g j) = v 2 := rK
  have eK := t_g8 h ni (by omega) rK (by omega)
  have rV : ∃ j : Nat, 12089258196146291747061760 + (1 * v 0 + (0)) = (j : Int) ∧ c_gv j (g j) = v 3 := rV
  have eV := t_g10 h ni (by omega) rV (by omega)
  have rB : ∃ j : Nat, 15716035654990179274326016 + (1 * v 0 + (1024 * v 1 + (0))) = (j : Int) ∧ c_gv j (g j) = v 4 := rB
  have eB := t_g13 h ni nd 3 (by omega) (by omega) (by omega) rB (by omega)
  rw [t_px3 (by omega), if_neg (by rw [Bool.or_eq_true]; exact fun h9 => h9.elim (t_nsg (by omega)) (t_nsg (by omega)))] at eB
  exact ⟨(by show 0 ≤ 0 + ((-1) * v 0 + (1 * v 4 + (0))); omega), (by show 0 ≤ 0 + (1 * v 0 + ((-1) * v 4 + (0))); omega), trivial⟩
-- stN5
theorem t_q107 {g : Nat → Int} (h : t_G g) : t_ok g 2 ([(9671406556917033397649408, [(0, 1)]), (12089258196146291747061760, [(0, 1)]), (15716035654990179274326016, [(0, 1), (1, 1024)])], [(0, [(0, 1)]), (650, [(0, (-1))]), (0, [(1, 1)]), (7, [(1, (-1))]), ((-46), [(3, 1)])], [(0, [(0, (-1)), (4, 1)]), (0, [(0, 1), (4, (-1))])]) := by
  refine t_okI fun v hr hp => ?_
  obtain ⟨rK, rV, rB, -⟩ := hr
  obtain ⟨p0, p1, p2, p3, p4, -⟩ := hp
  have p0 : 0 ≤ 0 + (1 * v 0 + (0)) := p0
  have p1 : 0 ≤ 650 + ((-1) * v 0 + (0)) := p1
  have p2 : 0 ≤ 0 + (1 * v 1 + (0)) := p2
  have p3 : 0 ≤ 7 + ((-1) * v 1 + (0)) := p3
  have p4 : 0 ≤ (-46) + (1 * v 3 + (0)) := p4
  obtain ⟨ni, hi⟩ : ∃ n : Nat, v 0 = (n : Int) := ⟨(v 0).toNat, by omega⟩
  obtain ⟨nd, hd⟩ : ∃ n : Nat, v 1 = (n : Int) := ⟨(v 1).toNat, by omega⟩
  have rK : ∃ j : Nat, 9671406556917033397649408 + (1 * v 0 + (0)) = (j : Int) ∧ c_gv j (g j) = v 2 := rK
  have eK := t_g8 h ni (by omega) rK (by omega)
  have rV : ∃ j : Nat, 12089258196146291747061760 + (1 * v 0 + (0)) = (j : Int) ∧ c_gv j (g j) = v 3 := rV
  have eV := t_g10 h ni (by omega) rV (by omega)
  have rB : ∃ j : Nat, 15716035654990179274326016 + (1 * v 0 + (1024 * v 1 + (0))) = (j : Int) ∧ c_gv j (g j) = v 4 := rB
  have eB := t_g13 h ni nd 3 (by omega) (by omega) (by omega) rB (by omega)
  rw [t_px3 (by omega), if_neg (by rw [Bool.or_eq_true]; exact fun h9 => h9.elim (t_nsg (by omega)) (t_nsg (by omega)))] at eB
  exact ⟨(by show 0 ≤ 0 + ((-1) * v 0 + (1 * v 4 + (0))); omega), (by show 0 ≤ 0 + (1 * v 0 + ((-1) * v 4 + (0))); omega), trivial⟩
-- stB1
theorem t_q108 {g : Nat → Int} (h : t_G g) : t_ok g 3 ([(9671406556917033397649408, [(0, 1)]), (12089258196146291747061760, [(0, 1)]), (15716035654990179274326016, [(0, 1), (2, 1024)]), (15716035654990179275374592, [(1, 1), (2, 1024)])], [(0, [(0, 1)]), (650, [(0, (-1))]), (0, [(2, 1)]), (7, [(2, (-1))]), ((-1), [(0, (-1)), (1, 1)]), (1, [(0, 1), (1, (-1))]), ((-3), [(3, 1)]), (3, [(3, (-1))]), ((-43), [(4, 1)]), (43, [(4, (-1))])], [(0, [(5, 1), (6, (-1))]), (0, [(5, (-1)), (6, 1)])]) := by
  refine t_okI fun v hr hp => ?_
  obtain ⟨rK, rV, rB, rM, -⟩ := hr
  obtain ⟨p0, p1, p2, p3, p4, p5, p6, p7, p8, p9, -⟩ := hp
  have p0 : 0 ≤ 0 + (1 * v 0 + (0)) := p0
  have p1 : 0 ≤ 650 + ((-1) * v 0 + (0)) := p1
  have p2 : 0 ≤ 0 + (1 * v 2 + (0)) := p2
  have p3 : 0 ≤ 7 + ((-1) * v 2 + (0)) := p3
  have p4 : 0 ≤ (-1) + ((-1) * v 0 + (1 * v 1 + (0))) := p4
  have p5 : 0 ≤ 1 + (1 * v 0 + ((-1) * v 1 + (0))) := p5
  have p6 : 0 ≤ (-3) + (1 * v 3 + (0)) := p6
  have p7 : 0 ≤ 3 + ((-1) * v 3 + (0)) := p7
  have p8 : 0 ≤ (-43) + (1 * v 4 + (0)) := p8
  have p9 : 0 ≤ 43 + ((-1) * v 4 + (0)) := p9
  obtain ⟨ni, hi⟩ : ∃ n : Nat, v 0 = (n : Int) := ⟨(v 0).toNat, by omega⟩
  obtain ⟨nj, hj⟩ : ∃ n : Nat, v 1 = (n : Int) := ⟨(v 1).toNat, by omega⟩
  obtain ⟨nd, hd⟩ : ∃ n : Nat, v 2 = (n : Int) := ⟨(v 2).toNat, by omega⟩
  have rK : ∃ j : Nat, 9671406556917033397649408 + (1 * v 0 + (0)) = (j : Int) ∧ c_gv j (g j) = v 3 := rK
  have eK := t_g8 h ni (by omega) rK (by omega)
  have rV : ∃ j : Nat, 12089258196146291747061760 + (1 * v 0 + (0)) = (j : Int) ∧ c_gv j (g j) = v 4 := rV
  have eV := t_g10 h ni (by omega) rV (by omega)
  have rB : ∃ j : Nat, 15716035654990179274326016 + (1 * v 0 + (1024 * v 2 + (0))) = (j : Int) ∧ c_gv j (g j) = v 5 := rB
  have eB := t_g13 h ni nd 3 (by omega) (by omega) (by omega) rB (by omega)
  have rM : ∃ j : Nat, 15716035654990179275374592 + (1 * v 1 + (1024 * v 2 + (0))) = (j : Int) ∧ c_gv j (g j) = v 6 := rM
  have eM := t_g13 h nj nd 4 (by omega) (by omega) (by omega) rM (by omega)
  have c : nj = ni + 1 := by omega
  subst c
  rw [t_px3 (by omega), if_pos (by rw [Bool.or_eq_true]; exact Or.inl (t_sg_iff.mpr ⟨by omega, by omega⟩))] at eB
  rw [t_px4 (by omega)] at eM
  have c3 := t_px_in (X := t_tx g) (t_G_ok h) (i := ni + 1) 2 nd
  rw [if_neg (by omega)] at c3
  have key : v 5 = v 6 := by
    rcases c3 with c3 | c3
    · rw [if_neg (by omega)] at eB eM
      omega
    · rw [if_pos (by omega)] at eB eM
      rw [eB, eM]
  exact ⟨(by show 0 ≤ 0 + (1 * v 5 + ((-1) * v 6 + (0))); omega), (by show 0 ≤ 0 + ((-1) * v 5 + (1 * v 6 + (0))); omega), trivial⟩
-- stB2
theorem t_q109 {g : Nat → Int} (h : t_G g) : t_ok g 3 ([(9671406556917033397649408, [(0, 1)]), (12089258196146291747061760, [(0, 1)]), (15716035654990179274326016, [(0, 1), (2, 1024)]), (15716035654990179275374592, [(1, 1), (2, 1024)])], [(0, [(0, 1)]), (650, [(0, (-1))]), (0, [(2, 1)]), (7, [(2, (-1))]), ((-1), [(0, (-1)), (1, 1)]), (1, [(0, 1), (1, (-1))]), ((-3), [(3, 1)]), (3, [(3, (-1))]), ((-45), [(4, 1)]), (45, [(4, (-1))])], [(0, [(5, 1), (6, (-1))]), (0, [(5, (-1)), (6, 1)])]) := by
  refine t_okI fun v hr hp => ?_
  obtain ⟨rK, rV, rB, rM, -⟩ := hr
  obtain ⟨p0, p1, p2, p3, p4, p5, p6, p7, p8, p9, -⟩ := hp
  have p0 : 0 ≤ 0 + (1 * v 0 + (0)) := p0
  have p1 : 0 ≤ 650 + ((-1) * v 0 + (0)) := p1
  have p2 : 0 ≤ 0 + (1 * v 2 + (0)) := p2
  have p3 : 0 ≤ 7 + ((-1) * v 2 + (0)) := p3
  have p4 : 0 ≤ (-1) + ((-1) * v 0 + (1 * v 1 + (0))) := p4
  have p5 : 0 ≤ 1 + (1 * v 0 + ((-1) * v 1 + (0))) := p5
  have p6 : 0 ≤ (-3) + (1 * v 3 + (0)) := p6
  have p7 : 0 ≤ 3 + ((-1) * v 3 + (0)) := p7
  have p8 : 0 ≤ (-45) + (1 * v 4 + (0)) := p8
  have p9 : 0 ≤ 45 + ((-1) * v 4 + (0)) := p9
  obtain ⟨ni, hi⟩ : ∃ n : Nat, v 0 = (n : Int) := ⟨(v 0).toNat, by omega⟩
  obtain ⟨nj, hj⟩ : ∃ n : Nat, v 1 = (n : Int) := ⟨(v 1).toNat, by omega⟩
  obtain ⟨nd, hd⟩ : ∃ n : Nat, v 2 = (n : Int) := ⟨(v 2).toNat, by omega⟩
  have rK : ∃ j : Nat, 9671406556917033397649408 + (1 * v 0 + (0)) = (j : Int) ∧ c_gv j (g j) = v 3 := rK
  have eK := t_g8 h ni (by omega) rK (by omega)
  have rV : ∃ j : Nat, 12089258196146291747061760 + (1 * v 0 + (0)) = (j : Int) ∧ c_gv j (g j) = v 4 := rV
  have eV := t_g10 h ni (by omega) rV (by omega)
  have rB : ∃ j : Nat, 15716035654990179274326016 + (1 * v 0 + (1024 * v 2 + (0))) = (j : Int) ∧ c_gv j (g j) = v 5 := rB
  have eB := t_g13 h ni nd 3 (by omega) (by omega) (by omega) rB (by omega)
  have rM : ∃ j : Nat, 15716035654990179275374592 + (1 * v 1 + (1024 * v 2 + (0))) = (j : Int) ∧ c_gv j (g j) = v 6 := rM
  have eM := t_g13 h nj nd 4 (by omega) (by omega) (by omega) rM (by omega)
  have c : nj = ni + 1 := by omega
  subst c
  rw [t_px3 (by omega), if_pos (by rw [Bool.or_eq_true]; exact Or.inr (t_sg_iff.mpr ⟨by omega, by omega⟩))] at eB
  rw [t_px4 (by omega)] at eM
  have c3 := t_px_in (X := t_tx g) (t_G_ok h) (i := ni + 1) 2 nd
  rw [if_neg (by omega)] at c3
  have key : v 5 = v 6 := by
    rcases c3 with c3 | c3
    · rw [if_neg (by omega)] at eB eM
      omega
    · rw [if_pos (by omega)] at eB eM
      rw [eB, eM]
  exact ⟨(by show 0 ≤ 0 + (1 * v 5 + ((-1) * v 6 + (0))); omega), (by show 0 ≤ 0 + ((-1) * v 5 + (1 * v 6 + (0))); omega), trivial⟩
-- ftE
theorem t_q110 {g : Nat → Int} (h : t_G g) : t_ok g 3 ([(35058848768824246066479104, [(0, 1), (1, 1024), (2, 1073741824)])], [(0, [(0, 1)]), (6, [(0, (-1))]), (0, [(1, 1)]), (6, [(1, (-1))]), (0, [(2, 1)]), (1099511627775, [(2, (-1))]), (0, [(0, 1), (1, (-1))])], [(1, [(3, 1)]), ((-1), [(3, (-1))])]) := by
  refine t_okI fun v hr hp => ?_
  obtain ⟨rF, -⟩ := hr
  obtain ⟨p0, p1, p2, p3, p4, p5, p6, -⟩ := hp
  have p0 : 0 ≤ 0 + (1 * v 0 + (0)) := p0
  have p1 : 0 ≤ 6 + ((-1) * v 0 + (0)) := p1
  have p2 : 0 ≤ 0 + (1 * v 1 + (0)) := p2
  have p3 : 0 ≤ 6 + ((-1) * v 1 + (0)) := p3
  have p4 : 0 ≤ 0 + (1 * v 2 + (0)) := p4
  have p5 : 0 ≤ 1099511627775 + ((-1) * v 2 + (0)) := p5
  have p6 : 0 ≤ 0 + (1 * v 0 + ((-1) * v 1 + (0))) := p6
  obtain ⟨nk, hk⟩ : ∃ n : Nat, v 0 = (n : Int) := ⟨(v 0).toNat, by omega⟩
  obtain ⟨nc, hc⟩ : ∃ n : Nat, v 1 = (n : Int) := ⟨(v 1).toNat, by omega⟩
  obtain ⟨nv, hv⟩ : ∃ n : Nat, v 2 = (n : Int) := ⟨(v 2).toNat, by omega⟩
  have rF : ∃ j : Nat, 35058848768824246066479104 + (1 * v 0 + (1024 * v 1 + (1073741824 * v 2 + (0)))) = (j : Int) ∧ c_gv j (g j) = v 3 := rF
  have eF := t_g29 h nk nc nv (by omega) (by omega) (by omega) rF (by omega)
  have c := t_fd_e (l := (t_la (t_tx g) 700).2.1) (k := nk) (c := nc) (by omega) (nv : Int)
  exact ⟨(by show 0 ≤ 1 + (1 * v 3 + (0)); omega), (by show 0 ≤ (-1) + ((-1) * v 3 + (0)); omega), trivial⟩
-- ftS0
theorem t_q111 {g : Nat → Int} (h : t_G g) : t_ok g 4 ([(30223145490365729367654400, [(1, 1)]), (25387442211907212668829696, [(0, 1)]), (35058848768824246066479104, [(1, 1), (2, 1024), (3, 1073741824)]), (35058848768824246066479105, [(1, 1), (2, 1024), (3, 1073741824)])], [(0, [(0, 1)]), (650, [(0, (-1))]), (0, [(1, 1)]), (6, [(1, (-1))]), (0, [(2, 1)]), (6, [(2, (-1))]), (0, [(3, 1)]), (1099511627775, [(3, (-1))]), (0, [(2, (-1)), (5, 1)]), ((-1), [(1, (-1)), (2, 1)]), ((-1), [(3, 1), (4, (-1))])], [(0, [(6, 1), (7, (-1))]), (0, [(6, (-1)), (7, 1)])]) := by
  refine t_okI fun v hr hp => ?_
  obtain ⟨rX, rT, rF, rG, -⟩ := hr
  obtain ⟨p0, p1, p2, p3, p4, p5, p6, p7, p8, p9, p10, -⟩ := hp
  have p0 : 0 ≤ 0 + (1 * v 0 + (0)) := p0
  have p1 : 0 ≤ 650 + ((-1) * v 0 + (0)) := p1
  have p2 : 0 ≤ 0 + (1 * v 1 + (0)) := p2
  have p3 : 0 ≤ 6 + ((-1) * v 1 + (0)) := p3
  have p4 : 0 ≤ 0 + (1 * v 2 + (0)) := p4
  have p5 : 0 ≤ 6 + ((-1) * v 2 + (0)) := p5
  have p6 : 0 ≤ 0 + (1 * v 3 + (0)) := p6
  have p7 : 0 ≤ 1099511627775 + ((-1) * v 3 + (0)) := p7
  have p8 : 0 ≤ 0 + ((-1) * v 2 + (1 * v 5 + (0))) := p8
  have p9 : 0 ≤ (-1) + ((-1) * v 1 + (1 * v 2 + (0))) := p9
  have p10 : 0 ≤ (-1) + (1 * v 3 + ((-1) * v 4 + (0))) := p10
  obtain ⟨nm, hm⟩ : ∃ n : Nat, v 0 = (n : Int) := ⟨(v 0).toNat, by omega⟩
  obtain ⟨nk, hk⟩ : ∃ n : Nat, v 1 = (n : Int) := ⟨(v 1).toNat, by omega⟩
  obtain ⟨nc, hc⟩ : ∃ n : Nat, v 2 = (n : Int) := ⟨(v 2).toNat, by omega⟩
  obtain ⟨nv, hv⟩ : ∃ n : Nat, v 3 = (n : Int) := ⟨(v 3).toNat, by omega⟩
  have rX : ∃ j : Nat, 30223145490365729367654400 + (1 * v 1 + (0)) = (j : Int) ∧ c_gv j (g j) = v 4 := rX
  have eX := t_g25 h nk (by omega) rX (by omega)
  have rT : ∃ j : Nat, 25387442211907212668829696 + (1 * v 0 + (0)) = (j : Int) ∧ c_gv j (g j) = v 5 := rT
  have eT := t_g21 h nm (by omega) rT (by omega)
  have rF : ∃ j : Nat, 35058848768824246066479104 + (1 * v 1 + (1024 * v 2 + (1073741824 * v 3 + (0)))) = (j : Int) ∧ c_gv j (g j) = v 6 := rF
  have eF := t_g29 h nk nc nv (by omega) (by omega) (by omega) rF (by omega)
  have rG : ∃ j : Nat, 35058848768824246066479105 + (1 * v 1 + (1024 * v 2 + (1073741824 * v 3 + (0)))) = (j : Int) ∧ c_gv j (g j) = v 7 := rG
  have eG := t_g29 h (nk+1) nc nv (by omega) (by omega) (by omega) rG (by omega)
  have cl := t_cn_le1 (X := t_tx g) (t_G_ok h) (m := nm) (by omega)
  have c := t_fd_s (l := (t_la (t_tx g) 700).2.1) (k := nk) (c := nc) (by omega) (by omega) (nv : Int)
  rw [if_neg (fun h9 => by rw [h9, t_cl_id (by omega)] at eX; omega)] at c
  exact ⟨(by show 0 ≤ 0 + (1 * v 6 + ((-1) * v 7 + (0))); omega), (by show 0 ≤ 0 + ((-1) * v 6 + (1 * v 7 + (0))); omega), trivial⟩
-- ftS1
theorem t_q112 {g : Nat → Int} (h : t_G g) : t_ok g 4 ([(30223145490365729367654400, [(1, 1)]), (25387442211907212668829696, [(0, 1)]), (35058848768824246066479104, [(1, 1), (2, 1024), (3, 1073741824)]), (35058848768824246066479105, [(1, 1), (2, 1024), (3, 1073741824)])], [(0, [(0, 1)]), (650, [(0, (-1))]), (0, [(1, 1)]), (6, [(1, (-1))]), (0, [(2, 1)]), (6, [(2, (-1))]), (0, [(3, 1)]), (1099511627775, [(3, (-1))]), (0, [(2, (-1)), (5, 1)]), ((-1), [(1, (-1)), (2, 1)]), ((-1), [(3, (-1)), (4, 1)])], [(0, [(6, 1), (7, (-1))]), (0, [(6, (-1)), (7, 1)])]) := by
  refine t_okI fun v hr hp => ?_
  obtain ⟨rX, rT, rF, rG, -⟩ := hr
  obtain ⟨p0, p1, p2, p3, p4, p5, p6, p7, p8, p9, p10, -⟩ := hp
  have p0 : 0 ≤ 0 + (1 * v 0 + (0)) := p0
  have p1 : 0 ≤ 650 + ((-1) * v 0 + (0)) := p1
  have p2 : 0 ≤ 0 + (1 * v 1 + (0)) := p2
  have p3 : 0 ≤ 6 + ((-1) * v 1 + (0)) := p3
  have p4 : 0 ≤ 0 + (1 * v 2 + (0)) := p4
  have p5 : 0 ≤ 6 + ((-1) * v 2 + (0)) := p5
  have p6 : 0 ≤ 0 + (1 * v 3 + (0)) := p6
  have p7 : 0 ≤ 1099511627775 + ((-1) * v 3 + (0)) := p7
  have p8 : 0 ≤ 0 + ((-1) * v 2 + (1 * v 5 + (0))) := p8
  have p9 : 0 ≤ (-1) + ((-1) * v 1 + (1 * v 2 + (0))) := p9
  have p10 : 0 ≤ (-1) + ((-1) * v 3 + (1 * v 4 + (0))) := p10
  obtain ⟨nm, hm⟩ : ∃ n : Nat, v 0 = (n : Int) := ⟨(v 0).toNat, by omega⟩
  obtain ⟨nk, hk⟩ : ∃ n : Nat, v 1 = (n : Int) := ⟨(v 1).toNat, by omega⟩
  obtain ⟨nc, hc⟩ : ∃ n : Nat, v 2 = (n : Int) := ⟨(v 2).toNat, by omega⟩
  obtain ⟨nv, hv⟩ : ∃ n : Nat, v 3 = (n : Int) := ⟨(v 3).toNat, by omega⟩
  have rX : ∃ j : Nat, 30223145490365729367654400 + (1 * v 1 + (0)) = (j : Int) ∧ c_gv j (g j) = v 4 := rX
  have eX := t_g25 h nk (by omega) rX (by omega)
  have rT : ∃ j : Nat, 25387442211907212668829696 + (1 * v 0 + (0)) = (j : Int) ∧ c_gv j (g j) = v 5 := rT
  have eT := t_g21 h nm (by omega) rT (by omega)
  have rF : ∃ j : Nat, 35058848768824246066479104 + (1 * v 1 + (1024 * v 2 + (1073741824 * v 3 + (0)))) = (j : Int) ∧ c_gv j (g j) = v 6 := rF
  have eF := t_g29 h nk nc nv (by omega) (by omega) (by omega) rF (by omega)
  have rG : ∃ j : Nat, 35058848768824246066479105 + (1 * v 1 + (1024 * v 2 + (1073741824 * v 3 + (0)))) = (j : Int) ∧ c_gv j (g j) = v 7 := rG
  have eG := t_g29 h (nk+1) nc nv (by omega) (by omega) (by omega) rG (by omega)
  have cl := t_cn_le1 (X := t_tx g) (t_G_ok h) (m := nm) (by omega)
  have c := t_fd_s (l := (t_la (t_tx g) 700).2.1) (k := nk) (c := nc) (by omega) (by omega) (nv : Int)
  rw [if_neg (fun h9 => by rw [h9, t_cl_id (by omega)] at eX; omega)] at c
  exact ⟨(by show 0 ≤ 0 + (1 * v 6 + ((-1) * v 7 + (0))); omega), (by show 0 ≤ 0 + ((-1) * v 6 + (1 * v 7 + (0))); omega), trivial⟩
-- ftH
theorem t_q113 {g : Nat → Int} (h : t_G g) : t_ok g 4 ([(30223145490365729367654400, [(1, 1)]), (25387442211907212668829696, [(0, 1)]), (35058848768824246066479104, [(1, 1), (2, 1024), (3, 1073741824)])], [(0, [(0, 1)]), (650, [(0, (-1))]), (0, [(1, 1)]), (6, [(1, (-1))]), (0, [(2, 1)]), (6, [(2, (-1))]), (0, [(3, 1)]), (1099511627775, [(3, (-1))]), (0, [(2, (-1)), (5, 1)]), ((-1), [(1, (-1)), (2, 1)]), (0, [(3, (-1)), (4, 1)]), (0, [(3, 1), (4, (-1))])], [(0, [(1, (-1)), (6, 1)]), (0, [(1, 1), (6, (-1))])]) := by
  refine t_okI fun v hr hp => ?_
  obtain ⟨rX, rT, rF, -⟩ := hr
  obtain ⟨p0, p1, p2, p3, p4, p5, p6, p7, p8, p9, p10, p11, -⟩ := hp
  have p0 : 0 ≤ 0 + (1 * v 0 + (0)) := p0
  have p1 : 0 ≤ 650 + ((-1) * v 0 + (0)) := p1
  have p2 : 0 ≤ 0 + (1 * v 1 + (0)) := p2
  have p3 : 0 ≤ 6 + ((-1) * v 1 + (0)) := p3
  have p4 : 0 ≤ 0 + (1 * v 2 + (0)) := p4
  have p5 : 0 ≤ 6 + ((-1) * v 2 + (0)) := p5
  have p6 : 0 ≤ 0 + (1 * v 3 + (0)) := p6
  have p7 : 0 ≤ 1099511627775 + ((-1) * v 3 + (0)) := p7
  have p8 : 0 ≤ 0 + ((-1) * v 2 + (1 * v 5 + (0))) := p8
  have p9 : 0 ≤ (-1) + ((-1) * v 1 + (1 * v 2 + (0))) := p9
  have p10 : 0 ≤ 0 + ((-1) * v 3 + (1 * v 4 + (0))) := p10
  have p11 : 0 ≤ 0 + (1 * v 3 + ((-1) * v 4 + (0))) := p11
  obtain ⟨nm, hm⟩ : ∃ n : Nat, v 0 = (n : Int) := ⟨(v 0).toNat, by omega⟩
  obtain ⟨nk, hk⟩ : ∃ n : Nat, v 1 = (n : Int) := ⟨(v 1).toNat, by omega⟩
  obtain ⟨nc, hc⟩ : ∃ n : Nat, v 2 = (n : Int) := ⟨(v 2).toNat, by omega⟩
  obtain ⟨nv, hv⟩ : ∃ n : Nat, v 3 = (n : Int) := ⟨(v 3).toNat, by omega⟩
  have rX : ∃ j : Nat, 30223145490365729367654400 + (1 * v 1 + (0)) = (j : Int) ∧ c_gv j (g j) = v 4 := rX
  have eX := t_g25 h nk (by omega) rX (by omega)
  have rT : ∃ j : Nat, 25387442211907212668829696 + (1 * v 0 + (0)) = (j : Int) ∧ c_gv j (g j) = v 5 := rT
  have eT := t_g21 h nm (by omega) rT (by omega)
  have rF : ∃ j : Nat, 35058848768824246066479104 + (1 * v 1 + (1024 * v 2 + (1073741824 * v 3 + (0)))) = (j : Int) ∧ c_gv j (g j) = v 6 := rF
  have eF := t_g29 h nk nc nv (by omega) (by omega) (by omega) rF (by omega)
  have cl := t_cn_le1 (X := t_tx g) (t_G_ok h) (m := nm) (by omega)
  have c := t_fd_s (l := (t_la (t_tx g) 700).2.1) (k := nk) (c := nc) (by omega) (by omega) (nv : Int)
  have c1 : t_nth (t_la (t_tx g) 700).2.1 nk = (nv : Int) := (t_cl_eq (by omega)).mp (by omega)
  rw [if_pos c1] at c
  exact ⟨(by show 0 ≤ 0 + ((-1) * v 1 + (1 * v 6 + (0))); omega), (by show 0 ≤ 0 + (1 * v 1 + ((-1) * v 6 + (0))); omega), trivial⟩
-- ftB
theorem t_q114 {g : Nat → Int} (h : t_G g) : t_ok g 2 ([(35058848768824246066479104, [(0, 1024), (1, 1073741824)])], [(0, [(0, 1)]), (6, [(0, (-1))]), (0, [(1, 1)]), (1099511627775, [(1, (-1))])], [(1, [(2, 1)]), ((-1), [(0, 1), (2, (-1))])]) := by
  refine t_okI fun v hr hp => ?_
  obtain ⟨rF, -⟩ := hr
  obtain ⟨p0, p1, p2, p3, -⟩ := hp
  have p0 : 0 ≤ 0 + (1 * v 0 + (0)) := p0
  have p1 : 0 ≤ 6 + ((-1) * v 0 + (0)) := p1
  have p2 : 0 ≤ 0 + (1 * v 1 + (0)) := p2
  have p3 : 0 ≤ 1099511627775 + ((-1) * v 1 + (0)) := p3
  obtain ⟨nc, hc⟩ : ∃ n : Nat, v 0 = (n : Int) := ⟨(v 0).toNat, by omega⟩
  obtain ⟨nv, hv⟩ : ∃ n : Nat, v 1 = (n : Int) := ⟨(v 1).toNat, by omega⟩
  have rF : ∃ j : Nat, 35058848768824246066479104 + (1024 * v 0 + (1073741824 * v 1 + (0))) = (j : Int) ∧ c_gv j (g j) = v 2 := rF
  have eF := t_g29 h 0 nc nv (by omega) (by omega) (by omega) rF (by omega)
  have c := t_fd_bd (l := (t_la (t_tx g) 700).2.1) nc (nv : Int)
  exact ⟨(by show 0 ≤ 1 + (1 * v 2 + (0)); omega), (by show 0 ≤ (-1) + (1 * v 0 + ((-1) * v 2 + (0))); omega), trivial⟩
-- fkE
theorem t_q115 {g : Nat → Int} (h : t_G g) : t_ok g 3 ([(36267774588438875241185280, [(0, 1), (1, 1024), (2, 1073741824)])], [(0, [(0, 1)]), (6, [(0, (-1))]), (0, [(1, 1)]), (6, [(1, (-1))]), (0, [(2, 1)]), (1099511627775, [(2, (-1))]), (0, [(0, 1), (1, (-1))])], [(1, [(3, 1)]), ((-1), [(3, (-1))])]) := by
  refine t_okI fun v hr hp => ?_
  obtain ⟨rF, -⟩ := hr
  obtain ⟨p0, p1, p2, p3, p4, p5, p6, -⟩ := hp
  have p0 : 0 ≤ 0 + (1 * v 0 + (0)) := p0
  have p1 : 0 ≤ 6 + ((-1) * v 0 + (0)) := p1
  have p2 : 0 ≤ 0 + (1 * v 1 + (0)) := p2
  have p3 : 0 ≤ 6 + ((-1) * v 1 + (0)) := p3
  have p4 : 0 ≤ 0 + (1 * v 2 + (0)) := p4
  have p5 : 0 ≤ 1099511627775 + ((-1) * v 2 + (0)) := p5
  have p6 : 0 ≤ 0 + (1 * v 0 + ((-1) * v 1 + (0))) := p6
  obtain ⟨nk, hk⟩ : ∃ n : Nat, v 0 = (n : Int) := ⟨(v 0).toNat, by omega⟩
  obtain ⟨nc, hc⟩ : ∃ n : Nat, v 1 = (n : Int) := ⟨(v 1).toNat, by omega⟩
  obtain ⟨nv, hv⟩ : ∃ n : Nat, v 2 = (n : Int) := ⟨(v 2).toNat, by omega⟩
  have rF : ∃ j : Nat, 36267774588438875241185280 + (1 * v 0 + (1024 * v 1 + (1073741824 * v 2 + (0)))) = (j : Int) ∧ c_gv j (g j) = v 3 := rF
  have eF := t_g30 h nk nc nv (by omega) (by omega) (by omega) rF (by omega)
  have c := t_fd_e (l := (t_la (t_tx g) 700).2.2.1) (k := nk) (c := nc) (by omega) (nv : Int)
  exact ⟨(by show 0 ≤ 1 + (1 * v 3 + (0)); omega), (by show 0 ≤ (-1) + ((-1) * v 3 + (0)); omega), trivial⟩
-- fkS0
theorem t_q116 {g : Nat → Int} (h : t_G g) : t_ok g 4 ([(31432071309980358542360576, [(1, 1)]), (26596368031521841843535872, [(0, 1)]), (36267774588438875241185280, [(1, 1), (2, 1024), (3, 1073741824)]), (36267774588438875241185281, [(1, 1), (2, 1024), (3, 1073741824)])], [(0, [(0, 1)]), (650, [(0, (-1))]), (0, [(1, 1)]), (6, [(1, (-1))]), (0, [(2, 1)]), (6, [(2, (-1))]), (0, [(3, 1)]), (1099511627775, [(3, (-1))]), (0, [(2, (-1)), (5, 1)]), ((-1), [(1, (-1)), (2, 1)]), ((-1), [(3, 1), (4, (-1))])], [(0, [(6, 1), (7, (-1))]), (0, [(6, (-1)), (7, 1)])]) := by
  refine t_okI fun v hr hp => ?_
  obtain ⟨rX, rT, rF, rG, -⟩ := hr
  obtain ⟨p0, p1, p2, p3, p4, p5, p6, p7, p8, p9, p10, -⟩ := hp
  have p0 : 0 ≤ 0 + (1 * v 0 + (0)) := p0
  have p1 : 0 ≤ 650 + ((-1) * v 0 + (0)) := p1
  have p2 : 0 ≤ 0 + (1 * v 1 + (0)) := p2
  have p3 : 0 ≤ 6 + ((-1) * v 1 + (0)) := p3
  have p4 : 0 ≤ 0 + (1 * v 2 + (0)) := p4
  have p5 : 0 ≤ 6 + ((-1) * v 2 + (0)) := p5
  have p6 : 0 ≤ 0 + (1 * v 3 + (0)) := p6
  have p7 : 0 ≤ 1099511627775 + ((-1) * v 3 + (0)) := p7
  have p8 : 0 ≤ 0 + ((-1) * v 2 + (1 * v 5 + (0))) := p8
  have p9 : 0 ≤ (-1) + ((-1) * v 1 + (1 * v 2 + (0))) := p9
  have p10 : 0 ≤ (-1) + (1 * v 3 + ((-1) * v 4 + (0))) := p10
  obtain ⟨nm, hm⟩ : ∃ n : Nat, v 0 = (n : Int) := ⟨(v 0).toNat, by omega⟩
  obtain ⟨nk, hk⟩ : ∃ n : Nat, v 1 = (n : Int) := ⟨(v 1).toNat, by omega⟩
  obtain ⟨nc, hc⟩ : ∃ n : Nat, v 2 = (n : Int) := ⟨(v 2).toNat, by omega⟩
  obtain ⟨nv, hv⟩ : ∃ n : Nat, v 3 = (n : Int) := ⟨(v 3).toNat, by omega⟩
  have rX : ∃ j : Nat, 31432071309980358542360576 + (1 * v 1 + (0)) = (j : Int) ∧ c_gv j (g j) = v 4 := rX
  have eX := t_g26 h nk (by omega) rX (by omega)
  have rT : ∃ j : Nat, 26596368031521841843535872 + (1 * v 0 + (0)) = (j : Int) ∧ c_gv j (g j) = v 5 := rT
  have eT := t_g22 h nm (by omega) rT (by omega)
  have rF : ∃ j : Nat, 36267774588438875241185280 + (1 * v 1 + (1024 * v 2 + (1073741824 * v 3 + (0)))) = (j : Int) ∧ c_gv j (g j) = v 6 := rF
  have eF := t_g30 h nk nc nv (by omega) (by omega) (by omega) rF (by omega)
  have rG : ∃ j : Nat, 36267774588438875241185281 + (1 * v 1 + (1024 * v 2 + (1073741824 * v 3 + (0)))) = (j : Int) ∧ c_gv j (g j) = v 7 := rG
  have eG := t_g30 h (nk+1) nc nv (by omega) (by omega) (by omega) rG (by omega)
  have cl := t_cn_le2 (X := t_tx g) (t_G_ok h) (m := nm) (by omega)
  have c := t_fd_s (l := (t_la (t_tx g) 700).2.2.1) (k := nk) (c := nc) (by omega) (by omega) (nv : Int)
  rw [if_neg (fun h9 => by rw [h9, t_cl_id (by omega)] at eX; omega)] at c
  exact ⟨(by show 0 ≤ 0 + (1 * v 6 + ((-1) * v 7 + (0))); omega), (by show 0 ≤ 0 + ((-1) * v 6 + (1 * v 7 + (0))); omega), trivial⟩
-- fkS1
theorem t_q117 {g : Nat → Int} (h : t_G g) : t_ok g 4 ([(31432071309980358542360576, [(1, 1)]), (26596368031521841843535872, [(0, 1)]), (36267774588438875241185280, [(1, 1), (2, 1024), (3, 1073741824)]), (36267774588438875241185281, [(1, 1), (2, 1024), (3, 1073741824)])], [(0, [(0, 1)]), (650, [(0, (-1))]), (0, [(1, 1)]), (6, [(1, (-1))]), (0, [(2, 1)]), (6, [(2, (-1))]), (0, [(3, 1)]), (1099511627775, [(3, (-1))]), (0, [(2, (-1)), (5, 1)]), ((-1), [(1, (-1)), (2, 1)]), ((-1), [(3, (-1)), (4, 1)])], [(0, [(6, 1), (7, (-1))]), (0, [(6, (-1)), (7, 1)])]) := by
  refine t_okI fun v hr hp => ?_
  obtain ⟨rX, rT, rF, rG, -⟩ := hr
  obtain ⟨p0, p1, p2, p3, p4, p5, p6, p7, p8, p9, p10, -⟩ := hp
  have p0 : 0 ≤ 0 + (1 * v 0 + (0)) := p0
  have p1 : 0 ≤ 650 + ((-1) * v 0 + (0)) := p1
  have p2 : 0 ≤ 0 + (1 * v 1 + (0)) := p2
  have p3 : 0 ≤ 6 + ((-1) * v 1 + (0)) := p3
  have p4 : 0 ≤ 0 + (1 * v 2 + (0)) := p4
  have p5 : 0 ≤ 6 + ((-1) * v 2 + (0)) := p5
  have p6 : 0 ≤ 0 + (1 * v 3 + (0)) := p6
  have p7 : 0 ≤ 1099511627775 + ((-1) * v 3 + (0)) := p7
  have p8 : 0 ≤ 0 + ((-1) * v 2 + (1 * v 5 + (0))) := p8
  have p9 : 0 ≤ (-1) + ((-1) * v 1 + (1 * v 2 + (0))) := p9
  have p10 : 0 ≤ (-1) + ((-1) * v 3 + (1 * v 4 + (0))) := p10
  obtain ⟨nm, hm⟩ : ∃ n : Nat, v 0 = (n : Int) := ⟨(v 0).toNat, by omega⟩
  obtain ⟨nk, hk⟩ : ∃ n : Nat, v 1 = (n : Int) := ⟨(v 1).toNat, by omega⟩
  obtain ⟨nc, hc⟩ : ∃ n : Nat, v 2 = (n : Int) := ⟨(v 2).toNat, by omega⟩
  obtain ⟨nv, hv⟩ : ∃ n : Nat, v 3 = (n : Int) := ⟨(v 3).toNat, by omega⟩
  have rX : ∃ j : Nat, 31432071309980358542360576 + (1 * v 1 + (0)) = (j : Int) ∧ c_gv j (g j) = v 4 := rX
  have eX := t_g26 h nk (by omega) rX (by omega)
  have rT : ∃ j : Nat, 26596368031521841843535872 + (1 * v 0 + (0)) = (j : Int) ∧ c_gv j (g j) = v 5 := rT
  have eT := t_g22 h nm (by omega) rT (by omega)
  have rF : ∃ j : Nat, 36267774588438875241185280 + (1 * v 1 + (1024 * v 2 + (1073741824 * v 3 + (0)))) = (j : Int) ∧ c_gv j (g j) = v 6 := rF
  have eF := t_g30 h nk nc nv (by omega) (by omega) (by omega) rF (by omega)
  have rG : ∃ j : Nat, 36267774588438875241185281 + (1 * v 1 + (1024 * v 2 + (1073741824 * v 3 + (0)))) = (j : Int) ∧ c_gv j (g j) = v 7 := rG
  have eG := t_g30 h (nk+1) nc nv (by omega) (by omega) (by omega) rG (by omega)
  have cl := t_cn_le2 (X := t_tx g) (t_G_ok h) (m := nm) (by omega)
  have c := t_fd_s (l := (t_la (t_tx g) 700).2.2.1) (k := nk) (c := nc) (by omega) (by omega) (nv : Int)
  rw [if_neg (fun h9 => by rw [h9, t_cl_id (by omega)] at eX; omega)] at c
  exact ⟨(by show 0 ≤ 0 + (1 * v 6 + ((-1) * v 7 + (0))); omega), (by show 0 ≤ 0 + ((-1) * v 6 + (1 * v 7 + (0))); omega), trivial⟩
-- fkH
theorem t_q118 {g : Nat → Int} (h : t_G g) : t_ok g 4 ([(31432071309980358542360576, [(1, 1)]), (26596368031521841843535872, [(0, 1)]), (36267774588438875241185280, [(1, 1), (2, 1024), (3, 1073741824)])], [(0, [(0, 1)]), (650, [(0, (-1))]), (0, [(1, 1)]), (6, [(1, (-1))]), (0, [(2, 1)]), (6, [(2, (-1))]), (0, [(3, 1)]), (1099511627775, [(3, (-1))]), (0, [(2, (-1)), (5, 1)]), ((-1), [(1, (-1)), (2, 1)]), (0, [(3, (-1)), (4, 1)]), (0, [(3, 1), (4, (-1))])], [(0, [(1, (-1)), (6, 1)]), (0, [(1, 1), (6, (-1))])]) := by
  refine t_okI fun v hr hp => ?_
  obtain ⟨rX, rT, rF, -⟩ := hr
  obtain ⟨p0, p1, p2, p3, p4, p5, p6, p7, p8, p9, p10, p11, -⟩ := hp
  have p0 : 0 ≤ 0 + (1 * v 0 + (0)) := p0
  have p1 : 0 ≤ 650 + ((-1) * v 0 + (0)) := p1
  have p2 : 0 ≤ 0 + (1 * v 1 + (0)) := p2
  have p3 : 0 ≤ 6 + ((-1) * v 1 + (0)) := p3
  have p4 : 0 ≤ 0 + (1 * v 2 + (0)) := p4
  have p5 : 0 ≤ 6 + ((-1) * v 2 + (0)) := p5
  have p6 : 0 ≤ 0 + (1 * v 3 + (0)) := p6
  have p7 : 0 ≤ 1099511627775 + ((-1) * v 3 + (0)) := p7
  have p8 : 0 ≤ 0 + ((-1) * v 2 + (1 * v 5 + (0))) := p8
  have p9 : 0 ≤ (-1) + ((-1) * v 1 + (1 * v 2 + (0))) := p9
  have p10 : 0 ≤ 0 + ((-1) * v 3 + (1 * v 4 + (0))) := p10
  have p11 : 0 ≤ 0 + (1 * v 3 + ((-1) * v 4 + (0))) := p11
  obtain ⟨nm, hm⟩ : ∃ n : Nat, v 0 = (n : Int) := ⟨(v 0).toNat, by omega⟩
  obtain ⟨nk, hk⟩ : ∃ n : Nat, v 1 = (n : Int) := ⟨(v 1).toNat, by omega⟩
  obtain ⟨nc, hc⟩ : ∃ n : Nat, v 2 = (n : Int) := ⟨(v 2).toNat, by omega⟩
  obtain ⟨nv, hv⟩ : ∃ n : Nat, v 3 = (n : Int) := ⟨(v 3).toNat, by omega⟩
  have rX : ∃ j : Nat, 31432071309980358542360576 + (1 * v 1 + (0)) = (j : Int) ∧ c_gv j (g j) = v 4 := rX
  have eX := t_g26 h nk (by omega) rX (by omega)
  have rT : ∃ j : Nat, 26596368031521841843535872 + (1 * v 0 + (0)) = (j : Int) ∧ c_gv j (g j) = v 5 := rT
  have eT := t_g22 h nm (by omega) rT (by omega)
  have rF : ∃ j : Nat, 36267774588438875241185280 + (1 * v 1 + (1024 * v 2 + (1073741824 * v 3 + (0)))) = (j : Int) ∧ c_gv j (g j) = v 6 := rF
  have eF := t_g30 h nk nc nv (by omega) (by omega) (by omega) rF (by omega)
  have cl := t_cn_le2 (X := t_tx g) (t_G_ok h) (m := nm) (by omega)
  have c := t_fd_s (l := (t_la (t_tx g) 700).2.2.1) (k := nk) (c := nc) (by omega) (by omega) (nv : Int)
  have c1 : t_nth (t_la (t_tx g) 700).2.2.1 nk = (nv : Int) := (t_cl_eq (by omega)).mp (by omega)
  rw [if_pos c1] at c
  exact ⟨(by show 0 ≤ 0 + ((-1) * v 1 + (1 * v 6 + (0))); omega), (by show 0 ≤ 0 + (1 * v 1 + ((-1) * v 6 + (0))); omega), trivial⟩
-- fkB
theorem t_q119 {g : Nat → Int} (h : t_G g) : t_ok g 2 ([(36267774588438875241185280, [(0, 1024), (1, 1073741824)])], [(0, [(0, 1)]), (6, [(0, (-1))]), (0, [(1, 1)]), (1099511627775, [(1, (-1))])], [(1, [(2, 1)]), ((-1), [(0, 1), (2, (-1))])]) := by
  refine t_okI fun v hr hp => ?_
  obtain ⟨rF, -⟩ := hr
  obtain ⟨p0, p1, p2, p3, -⟩ := hp
  have p0 : 0 ≤ 0 + (1 * v 0 + (0)) := p0
  have p1 : 0 ≤ 6 + ((-1) * v 0 + (0)) := p1
  have p2 : 0 ≤ 0 + (1 * v 1 + (0)) := p2
  have p3 : 0 ≤ 1099511627775 + ((-1) * v 1 + (0)) := p3
  obtain ⟨nc, hc⟩ : ∃ n : Nat, v 0 = (n : Int) := ⟨(v 0).toNat, by omega⟩
  obtain ⟨nv, hv⟩ : ∃ n : Nat, v 1 = (n : Int) := ⟨(v 1).toNat, by omega⟩
  have rF : ∃ j : Nat, 36267774588438875241185280 + (1024 * v 0 + (1073741824 * v 1 + (0))) = (j : Int) ∧ c_gv j (g j) = v 2 := rF
  have eF := t_g30 h 0 nc nv (by omega) (by omega) (by omega) rF (by omega)
  have c := t_fd_bd (l := (t_la (t_tx g) 700).2.2.1) nc (nv : Int)
  exact ⟨(by show 0 ≤ 1 + (1 * v 2 + (0)); omega), (by show 0 ≤ (-1) + (1 * v 0 + ((-1) * v 2 + (0))); omega), trivial⟩
-- flE
theorem t_q120 {g : Nat → Int} (h : t_G g) : t_ok g 3 ([(37476700408053504415891456, [(0, 1), (1, 1024), (2, 1073741824)])], [(0, [(0, 1)]), (6, [(0, (-1))]), (0, [(1, 1)]), (6, [(1, (-1))]), (0, [(2, 1)]), (1099511627775, [(2, (-1))]), (0, [(0, 1), (1, (-1))])], [(1, [(3, 1)]), ((-1), [(3, (-1))])]) := by
  refine t_okI fun v hr hp => ?_
  obtain ⟨rF, -⟩ := hr
  obtain ⟨p0, p1, p2, p3, p4, p5, p6, -⟩ := hp
  have p0 : 0 ≤ 0 + (1 * v 0 + (0)) := p0
  have p1 : 0 ≤ 6 + ((-1) * v 0 + (0)) := p1
  have p2 : 0 ≤ 0 + (1 * v 1 + (0)) := p2
  have p3 : 0 ≤ 6 + ((-1) * v 1 + (0)) := p3
  have p4 : 0 ≤ 0 + (1 * v 2 + (0)) := p4
  have p5 : 0 ≤ 1099511627775 + ((-1) * v 2 + (0)) := p5
  have p6 : 0 ≤ 0 + (1 * v 0 + ((-1) * v 1 + (0))) := p6
  obtain ⟨nk, hk⟩ : ∃ n : Nat, v 0 = (n : Int) := ⟨(v 0).toNat, by omega⟩
  obtain ⟨nc, hc⟩ : ∃ n : Nat, v 1 = (n : Int) := ⟨(v 1).toNat, by omega⟩
  obtain ⟨nv, hv⟩ : ∃ n : Nat, v 2 = (n : Int) := ⟨(v 2).toNat, by omega⟩
  have rF : ∃ j : Nat, 37476700408053504415891456 + (1 * v 0 + (1024 * v 1 + (1073741824 * v 2 + (0)))) = (j : Int) ∧ c_gv j (g j) = v 3 := rF
  have eF := t_g31 h nk nc nv (by omega) (by omega) (by omega) rF (by omega)
  have c := t_fd_e (l := (t_la (t_tx g) 700).2.2.2.1) (k := nk) (c := nc) (by omega) (nv : Int)
  exact ⟨(by show 0 ≤ 1 + (1 * v 3 + (0)); omega), (by show 0 ≤ (-1) + ((-1) * v 3 + (0)); omega), trivial⟩
-- flS0
theorem t_q121 {g : Nat → Int} (h : t_G g) : t_ok g 4 ([(32640997129594987717066752, [(1, 1)]), (27805293851136471018242048, [(0, 1)]), (37476700408053504415891456, [(1, 1), (2, 1024), (3, 1073741824)]), (37476700408053504415891457, [(1, 1), (2, 1024), (3, 1073741824)])], [(0, [(0, 1)]), (650, [(0, (-1))]), (0, [(1, 1)]), (6, [(1, (-1))]), (0, [(2, 1)]), (6, [(2, (-1))]), (0, [(3, 1)]), (1099511627775, [(3, (-1))]), (0, [(2, (-1)), (5, 1)]), ((-1), [(1, (-1)), (2, 1)]), ((-1), [(3, 1), (4, (-1))])], [(0, [(6, 1), (7, (-1))]), (0, [(6, (-1)), (7, 1)])]) := by
  refine t_okI fun v hr hp => ?_
  obtain ⟨rX, rT, rF, rG, -⟩ := hr
  obtain ⟨p0, p1, p2, p3, p4, p5, p6, p7, p8, p9, p10, -⟩ := hp
  have p0 : 0 ≤ 0 + (1 * v 0 + (0)) := p0
  have p1 : 0 ≤ 650 + ((-1) * v 0 + (0)) := p1
  have p2 : 0 ≤ 0 + (1 * v 1 + (0)) := p2
  have p3 : 0 ≤ 6 + ((-1) * v 1 + (0)) := p3
  have p4 : 0 ≤ 0 + (1 * v 2 + (0)) := p4
  have p5 : 0 ≤ 6 + ((-1) * v 2 + (0)) := p5
  have p6 : 0 ≤ 0 + (1 * v 3 + (0)) := p6
  have p7 : 0 ≤ 1099511627775 + ((-1) * v 3 + (0)) := p7
  have p8 : 0 ≤ 0 + ((-1) * v 2 + (1 * v 5 + (0))) := p8
  have p9 : 0 ≤ (-1) + ((-1) * v 1 + (1 * v 2 + (0))) := p9
  have p10 : 0 ≤ (-1) + (1 * v 3 + ((-1) * v 4 + (0))) := p10
  obtain ⟨nm, hm⟩ : ∃ n : Nat, v 0 = (n : Int) := ⟨(v 0).toNat, by omega⟩
  obtain ⟨nk, hk⟩ : ∃ n : Nat, v 1 = (n : Int) := ⟨(v 1).toNat, by omega⟩
  obtain ⟨nc, hc⟩ : ∃ n : Nat, v 2 = (n : Int) := ⟨(v 2).toNat, by omega⟩
  obtain ⟨nv, hv⟩ : ∃ n : Nat, v 3 = (n : Int) := ⟨(v 3).toNat, by omega⟩
  have rX : ∃ j : Nat, 32640997129594987717066752 + (1 * v 1 + (0)) = (j : Int) ∧ c_gv j (g j) = v 4 := rX
  have eX := t_g27 h nk (by omega) rX (by omega)
  have rT : ∃ j : Nat, 27805293851136471018242048 + (1 * v 0 + (0)) = (j : Int) ∧ c_gv j (g j) = v 5 := rT
  have eT := t_g23 h nm (by omega) rT (by omega)
  have rF : ∃ j : Nat, 37476700408053504415891456 + (1 * v 1 + (1024 * v 2 + (1073741824 * v 3 + (0)))) = (j : Int) ∧ c_gv j (g j) = v 6 := rF
  have eF := t_g31 h nk nc nv (by omega) (by omega) (by omega) rF (by omega)
  have rG : ∃ j : Nat, 37476700408053504415891457 + (1 * v 1 + (1024 * v 2 + (1073741824 * v 3 + (0)))) = (j : Int) ∧ c_gv j (g j) = v 7 := rG
  have eG := t_g31 h (nk+1) nc nv (by omega) (by omega) (by omega) rG (by omega)
  have cl := t_cn_le3 (X := t_tx g) (t_G_ok h) (m := nm) (by omega)
  have c := t_fd_s (l := (t_la (t_tx g) 700).2.2.2.1) (k := nk) (c := nc) (by omega) (by omega) (nv : Int)
  rw [if_neg (fun h9 => by rw [h9, t_cl_id (by omega)] at eX; omega)] at c
  exact ⟨(by show 0 ≤ 0 + (1 * v 6 + ((-1) * v 7 + (0))); omega), (by show 0 ≤ 0 + ((-1) * v 6 + (1 * v 7 + (0))); omega), trivial⟩
-- flS1
theorem t_q122 {g : Nat → Int} (h : t_G g) : t_ok g 4 ([(32640997129594987717066752, [(1, 1)]), (27805293851136471018242048, [(0, 1)]), (37476700408053504415891456, [(1, 1), (2, 1024), (3, 1073741824)]), (37476700408053504415891457, [(1, 1), (2, 1024), (3, 1073741824)])], [(0, [(0, 1)]), (650, [(0, (-1))]), (0, [(1, 1)]), (6, [(1, (-1))]), (0, [(2, 1)]), (6, [(2, (-1))]), (0, [(3, 1)]), (1099511627775, [(3, (-1))]), (0, [(2, (-1)), (5, 1)]), ((-1), [(1, (-1)), (2, 1)]), ((-1), [(3, (-1)), (4, 1)])], [(0, [(6, 1), (7, (-1))]), (0, [(6, (-1)), (7, 1)])]) := by
  refine t_okI fun v hr hp => ?_
  obtain ⟨rX, rT, rF, rG, -⟩ := hr
  obtain ⟨p0, p1, p2, p3, p4, p5, p6, p7, p8, p9, p10, -⟩ := hp
  have p0 : 0 ≤ 0 + (1 * v 0 + (0)) := p0
  have p1 : 0 ≤ 650 + ((-1) * v 0 + (0)) := p1
  have p2 : 0 ≤ 0 + (1 * v 1 + (0)) := p2
  have p3 : 0 ≤ 6 + ((-1) * v 1 + (0)) := p3
  have p4 : 0 ≤ 0 + (1 * v 2 + (0)) := p4
  have p5 : 0 ≤ 6 + ((-1) * v 2 + (0)) := p5
  have p6 : 0 ≤ 0 + (1 * v 3 + (0)) := p6
  have p7 : 0 ≤ 1099511627775 + ((-1) * v 3 + (0)) := p7
  have p8 : 0 ≤ 0 + ((-1) * v 2 + (1 * v 5 + (0))) := p8
  have p9 : 0 ≤ (-1) + ((-1) * v 1 + (1 * v 2 + (0))) := p9
  have p10 : 0 ≤ (-1) + ((-1) * v 3 + (1 * v 4 + (0))) := p10
  obtain ⟨nm, hm⟩ : ∃ n : Nat, v 0 = (n : Int) := ⟨(v 0).toNat, by omega⟩
  obtain ⟨nk, hk⟩ : ∃ n : Nat, v 1 = (n : Int) := ⟨(v 1).toNat, by omega⟩
  obtain ⟨nc, hc⟩ : ∃ n : Nat, v 2 = (n : Int) := ⟨(v 2).toNat, by omega⟩
  obtain ⟨nv, hv⟩ : ∃ n : Nat, v 3 = (n : Int) := ⟨(v 3).toNat, by omega⟩
  have rX : ∃ j : Nat, 32640997129594987717066752 + (1 * v 1 + (0)) = (j : Int) ∧ c_gv j (g j) = v 4 := rX
  have eX := t_g27 h nk (by omega) rX (by omega)
  have rT : ∃ j : Nat, 27805293851136471018242048 + (1 * v 0 + (0)) = (j : Int) ∧ c_gv j (g j) = v 5 := rT
  have eT := t_g23 h nm (by omega) rT (by omega)
  have rF : ∃ j : Nat, 37476700408053504415891456 + (1 * v 1 + (1024 * v 2 + (1073741824 * v 3 + (0)))) = (j : Int) ∧ c_gv j (g j) = v 6 := rF
  have eF := t_g31 h nk nc nv (by omega) (by omega) (by omega) rF (by omega)
  have rG : ∃ j : Nat, 37476700408053504415891457 + (1 * v 1 + (1024 * v 2 + (1073741824 * v 3 + (0)))) = (j : Int) ∧ c_gv j (g j) = v 7 := rG
  have eG := t_g31 h (nk+1) nc nv (by omega) (by omega) (by omega) rG (by omega)
  have cl := t_cn_le3 (X := t_tx g) (t_G_ok h) (m := nm) (by omega)
  have c := t_fd_s (l := (t_la (t_tx g) 700).2.2.2.1) (k := nk) (c := nc) (by omega) (by omega) (nv : Int)
  rw [if_neg (fun h9 => by rw [h9, t_cl_id (by omega)] at eX; omega)] at c
  exact ⟨(by show 0 ≤ 0 + (1 * v 6 + ((-1) * v 7 + (0))); omega), (by show 0 ≤ 0 + ((-1) * v 6 + (1 * v 7 + (0))); omega), trivial⟩
-- flH
theorem t_q123 {g : Nat → Int} (h : t_G g) : t_ok g 4 ([(32640997129594987717066752, [(1, 1)]), (27805293851136471018242048, [(0, 1)]), (37476700408053504415891456, [(1, 1), (2, 1024), (3, 1073741824)])], [(0, [(0, 1)]), (650, [(0, (-1))]), (0, [(1, 1)]), (6, [(1, (-1))]), (0, [(2, 1)]), (6, [(2, (-1))]), (0, [(3, 1)]), (1099511627775, [(3, (-1))]), (0, [(2, (-1)), (5, 1)]), ((-1), [(1, (-1)), (2, 1)]), (0, [(3, (-1)), (4, 1)]), (0, [(3, 1), (4, (-1))])], [(0, [(1, (-1)), (6, 1)]), (0, [(1, 1), (6, (-1))])]) := by
  refine t_okI fun v hr hp => ?_
  obtain ⟨rX, rT, rF, -⟩ := hr
  obtain ⟨p0, p1, p2, p3, p4, p5, p6, p7, p8, p9, p10, p11, -⟩ := hp
  have p0 : 0 ≤ 0 + (1 * v 0 + (0)) := p0
  have p1 : 0 ≤ 650 + ((-1) * v 0 + (0)) := p1
  have p2 : 0 ≤ 0 + (1 * v 1 + (0)) := p2
  have p3 : 0 ≤ 6 + ((-1) * v 1 + (0)) := p3
  have p4 : 0 ≤ 0 + (1 * v 2 + (0)) := p4
  have p5 : 0 ≤ 6 + ((-1) * v 2 + (0)) := p5
  have p6 : 0 ≤ 0 + (1 * v 3 + (0)) := p6
  have p7 : 0 ≤ 1099511627775 + ((-1) * v 3 + (0)) := p7
  have p8 : 0 ≤ 0 + ((-1) * v 2 + (1 * v 5 + (0))) := p8
  have p9 : 0 ≤ (-1) + ((-1) * v 1 + (1 * v 2 + (0))) := p9
  have p10 : 0 ≤ 0 + ((-1) * v 3 + (1 * v 4 + (0))) := p10
  have p11 : 0 ≤ 0 + (1 * v 3 + ((-1) * v 4 + (0))) := p11
  obtain ⟨nm, hm⟩ : ∃ n : Nat, v 0 = (n : Int) := ⟨(v 0).toNat, by omega⟩
  obtain ⟨nk, hk⟩ : ∃ n : Nat, v 1 = (n : Int) := ⟨(v 1).toNat, by omega⟩
  obtain ⟨nc, hc⟩ : ∃ n : Nat, v 2 = (n : Int) := ⟨(v 2).toNat, by omega⟩
  obtain ⟨nv, hv⟩ : ∃ n : Nat, v 3 = (n : Int) := ⟨(v 3).toNat, by omega⟩
  have rX : ∃ j : Nat, 32640997129594987717066752 + (1 * v 1 + (0)) = (j : Int) ∧ c_gv j (g j) = v 4 := rX
  have eX := t_g27 h nk (by omega) rX (by omega)
  have rT : ∃ j : Nat, 27805293851136471018242048 + (1 * v 0 + (0)) = (j : Int) ∧ c_gv j (g j) = v 5 := rT
  have eT := t_g23 h nm (by omega) rT (by omega)
  have rF : ∃ j : Nat, 37476700408053504415891456 + (1 * v 1 + (1024 * v 2 + (1073741824 * v 3 + (0)))) = (j : Int) ∧ c_gv j (g j) = v 6 := rF
  have eF := t_g31 h nk nc nv (by omega) (by omega) (by omega) rF (by omega)
  have cl := t_cn_le3 (X := t_tx g) (t_G_ok h) (m := nm) (by omega)
  have c := t_fd_s (l := (t_la (t_tx g) 700).2.2.2.1) (k := nk) (c := nc) (by omega) (by omega) (nv : Int)
  have c1 : t_nth (t_la (t_tx g) 700).2.2.2.1 nk = (nv : Int) := (t_cl_eq (by omega)).mp (by omega)
  rw [if_pos c1] at c
  exact ⟨(by show 0 ≤ 0 + ((-1) * v 1 + (1 * v 6 + (0))); omega), (by show 0 ≤ 0 + (1 * v 1 + ((-1) * v 6 + (0))); omega), trivial⟩
-- flB
theorem t_q124 {g : Nat → Int} (h : t_G g) : t_ok g 2 ([(37476700408053504415891456, [(0, 1024), (1, 1073741824)])], [(0, [(0, 1)]), (6, [(0, (-1))]), (0, [(1, 1)]), (1099511627775, [(1, (-1))])], [(1, [(2, 1)]), ((-1), [(0, 1), (2, (-1))])]) := by
  refine t_okI fun v hr hp => ?_
  obtain ⟨rF, -⟩ := hr
  obtain ⟨p0, p1, p2, p3, -⟩ := hp
  have p0 : 0 ≤ 0 + (1 * v 0 + (0)) := p0
  have p1 : 0 ≤ 6 + ((-1) * v 0 + (0)) := p1
  have p2 : 0 ≤ 0 + (1 * v 1 + (0)) := p2
  have p3 : 0 ≤ 1099511627775 + ((-1) * v 1 + (0)) := p3
  obtain ⟨nc, hc⟩ : ∃ n : Nat, v 0 = (n : Int) := ⟨(v 0).toNat, by omega⟩
  obtain ⟨nv, hv⟩ : ∃ n : Nat, v 1 = (n : Int) := ⟨(v 1).toNat, by omega⟩
  have rF : ∃ j : Nat, 37476700408053504415891456 + (1024 * v 0 + (1073741824 * v 1 + (0))) = (j : Int) ∧ c_gv j (g j) = v 2 := rF
  have eF := t_g31 h 0 nc nv (by omega) (by omega) (by omega) rF (by omega)
  have c := t_fd_bd (l := (t_la (t_tx g) 700).2.2.2.1) nc (nv : Int)
  exact ⟨(by show 0 ≤ 1 + (1 * v 2 + (0)); omega), (by show 0 ≤ (-1) + (1 * v 0 + ((-1) * v 2 + (0))); omega), trivial⟩
-- fbE
theorem t_q125 {g : Nat → Int} (h : t_G g) : t_ok g 3 ([(38685626227668133590597632, [(0, 1), (1, 1024), (2, 1073741824)])], [(0, [(0, 1)]), (6, [(0, (-1))]), (0, [(1, 1)]), (6, [(1, (-1))]), (0, [(2, 1)]), (1099511627775, [(2, (-1))]), (0, [(0, 1), (1, (-1))])], [(1, [(3, 1)]), ((-1), [(3, (-1))])]) := by
  refine t_okI fun v hr hp => ?_
  obtain ⟨rF, -⟩ := hr
  obtain ⟨p0, p1, p2, p3, p4, p5, p6, -⟩ := hp
  have p0 : 0 ≤ 0 + (1 * v 0 + (0)) := p0
  have p1 : 0 ≤ 6 + ((-1) * v 0 + (0)) := p1
  have p2 : 0 ≤ 0 + (1 * v 1 + (0)) := p2
  have p3 : 0 ≤ 6 + ((-1) * v 1 + (0)) := p3
  have p4 : 0 ≤ 0 + (1 * v 2 + (0)) := p4
  have p5 : 0 ≤ 1099511627775 + ((-1) * v 2 + (0)) := p5
  have p6 : 0 ≤ 0 + (1 * v 0 + ((-1) * v 1 + (0))) := p6
  obtain ⟨nk, hk⟩ : ∃ n : Nat, v 0 = (n : Int) := ⟨(v 0).toNat, by omega⟩
  obtain ⟨nc, hc⟩ : ∃ n : Nat, v 1 = (n : Int) := ⟨(v 1).toNat, by omega⟩
  obtain ⟨nv, hv⟩ : ∃ n : Nat, v 2 = (n : Int) := ⟨(v 2).toNat, by omega⟩
  have rF : ∃ j : Nat, 38685626227668133590597632 + (1 * v 0 + (1024 * v 1 + (1073741824 * v 2 + (0)))) = (j : Int) ∧ c_gv j (g j) = v 3 := rF
  have eF := t_g32 h nk nc nv (by omega) (by omega) (by omega) rF (by omega)
  have c := t_fd_e (l := (t_la (t_tx g) 700).2.2.2.2) (k := nk) (c := nc) (by omega) (nv : Int)
  exact ⟨(by show 0 ≤ 1 + (1 * v 3 + (0)); omega), (by show 0 ≤ (-1) + ((-1) * v 3 + (0)); omega), trivial⟩
-- fbS0
theorem t_q126 {g : Nat → Int} (h : t_G g) : t_ok g 4 ([(33849922949209616891772928, [(1, 1)]), (29014219670751100192948224, [(0, 1)]), (38685626227668133590597632, [(1, 1), (2, 1024), (3, 1073741824)]), (38685626227668133590597633, [(1, 1), (2, 1024), (3, 1073741824)])], [(0, [(0, 1)]), (650, [(0, (-1))]), (0, [(1, 1)]), (6, [(1, (-1))]), (0, [(2, 1)]), (6, [(2, (-1))]), (0, [(3, 1)]), (1099511627775, [(3, (-1))]), (0, [(2, (-1)), (5, 1)]), ((-1), [(1, (-1)), (2, 1)]), ((-1), [(3, 1), (4, (-1))])], [(0, [(6, 1), (7, (-1))]), (0, [(6, (-1)), (7, 1)])]) := by
  refine t_okI fun v hr hp => ?_
  obtain ⟨rX, rT, rF, rG, -⟩ := hr
  obtain ⟨p0, p1, p2, p3, p4, p5, p6, p7, p8, p9, p10, -⟩ := hp
  have p0 : 0 ≤ 0 + (1 * v 0 + (0)) := p0
  have p1 : 0 ≤ 650 + ((-1) * v 0 + (0)) := p1
  have p2 : 0 ≤ 0 + (1 * v 1 + (0)) := p2
  have p3 : 0 ≤ 6 + ((-1) * v 1 + (0)) := p3
  have p4 : 0 ≤ 0 + (1 * v 2 + (0)) := p4
  have p5 : 0 ≤ 6 + ((-1) * v 2 + (0)) := p5
  have p6 : 0 ≤ 0 + (1 * v 3 + (0)) := p6
  have p7 : 0 ≤ 1099511627775 + ((-1) * v 3 + (0)) := p7
  have p8 : 0 ≤ 0 + ((-1) * v 2 + (1 * v 5 + (0))) := p8
  have p9 : 0 ≤ (-1) + ((-1) * v 1 + (1 * v 2 + (0))) := p9
  have p10 : 0 ≤ (-1) + (1 * v 3 + ((-1) * v 4 + (0))) := p10
  obtain ⟨nm, hm⟩ : ∃ n : Nat, v 0 = (n : Int) := ⟨(v 0).toNat, by omega⟩
  obtain ⟨nk, hk⟩ : ∃ n : Nat, v 1 = (n : Int) := ⟨(v 1).toNat, by omega⟩
  obtain ⟨nc, hc⟩ : ∃ n : Nat, v 2 = (n : Int) := ⟨(v 2).toNat, by omega⟩
  obtain ⟨nv, hv⟩ : ∃ n : Nat, v 3 = (n : Int) := ⟨(v 3).toNat, by omega⟩
  have rX : ∃ j : Nat, 33849922949209616891772928 + (1 * v 1 + (0)) = (j : Int) ∧ c_gv j (g j) = v 4 := rX
  have eX := t_g28 h nk (by omega) rX (by omega)
  have rT : ∃ j : Nat, 29014219670751100192948224 + (1 * v 0 + (0)) = (j : Int) ∧ c_gv j (g j) = v 5 := rT
  have eT := t_g24 h nm (by omega) rT (by omega)
  have rF : ∃ j : Nat, 38685626227668133590597632 + (1 * v 1 + (1024 * v 2 + (1073741824 * v 3 + (0)))) = (j : Int) ∧ c_gv j (g j) = v 6 := rF
  have eF := t_g32 h nk nc nv (by omega) (by omega) (by omega) rF (by omega)
  have rG : ∃ j : Nat, 38685626227668133590597633 + (1 * v 1 + (1024 * v 2 + (1073741824 * v 3 + (0)))) = (j : Int) ∧ c_gv j (g j) = v 7 := rG
  have eG := t_g32 h (nk+1) nc nv (by omega) (by omega) (by omega) rG (by omega)
  have cl := t_cn_le4 (X := t_tx g) (t_G_ok h) (m := nm) (by omega)
  have c := t_fd_s (l := (t_la (t_tx g) 700).2.2.2.2) (k := nk) (c := nc) (by omega) (by omega) (nv : Int)
  rw [if_neg (fun h9 => by rw [h9, t_cl_id (by omega)] at eX; omega)] at c
  exact ⟨(by show 0 ≤ 0 + (1 * v 6 + ((-1) * v 7 + (0))); omega), (by show 0 ≤ 0 + ((-1) * v 6 + (1 * v 7 + (0))); omega), trivial⟩
-- fbS1
theorem t_q127 {g : Nat → Int} (h : t_G g) : t_ok g 4 ([(33849922949209616891772928, [(1, 1)]), (29014219670751100192948224, [(0, 1)]), (38685626227668133590597632, [(1, 1), (2, 1024), (3, 1073741824)]), (38685626227668133590597633, [(1, 1), (2, 1024), (3, 1073741824)])], [(0, [(0, 1)]), (650, [(0, (-1))]), (0, [(1, 1)]), (6, [(1, (-1))]), (0, [(2, 1)]), (6, [(2, (-1))]), (0, [(3, 1)]), (1099511627775, [(3, (-1))]), (0, [(2, (-1)), (5, 1)]), ((-1), [(1, (-1)), (2, 1)]), ((-1), [(3, (-1)), (4, 1)])], [(0, [(6, 1), (7, (-1))]), (0, [(6, (-1)), (7, 1)])]) := by
  refine t_okI fun v hr hp => ?_
  obtain ⟨rX, rT, rF, rG, -⟩ := hr
  obtain ⟨p0, p1, p2, p3, p4, p5, p6, p7, p8, p9, p10, -⟩ := hp
  have p0 : 0 ≤ 0 + (1 * v 0 + (0)) := p0
  have p1 : 0 ≤ 650 + ((-1) * v 0 + (0)) := p1
  have p2 : 0 ≤ 0 + (1 * v 1 + (0)) := p2
  have p3 : 0 ≤ 6 + ((-1) * v 1 + (0)) := p3
  have p4 : 0 ≤ 0 + (1 * v 2 + (0)) := p4
  have p5 : 0 ≤ 6 + ((-1) * v 2 + (0)) := p5
  have p6 : 0 ≤ 0 + (1 * v 3 + (0)) := p6
  have p7 : 0 ≤ 1099511627775 + ((-1) * v 3 + (0)) := p7
  have p8 : 0 ≤ 0 + ((-1) * v 2 + (1 * v 5 + (0))) := p8
  have p9 : 0 ≤ (-1) + ((-1) * v 1 + (1 * v 2 + (0))) := p9
  have p10 : 0 ≤ (-1) + ((-1) * v 3 + (1 * v 4 + (0))) := p10
  obtain ⟨nm, hm⟩ : ∃ n : Nat, v 0 = (n : Int) := ⟨(v 0).toNat, by omega⟩
  obtain ⟨nk, hk⟩ : ∃ n : Nat, v 1 = (n : Int) := ⟨(v 1).toNat, by omega⟩
  obtain ⟨nc, hc⟩ : ∃ n : Nat, v 2 = (n : Int) := ⟨(v 2).toNat, by omega⟩
  obtain ⟨nv, hv⟩ : ∃ n : Nat, v 3 = (n : Int) := ⟨(v 3).toNat, by omega⟩
  have rX : ∃ j : Nat, 33849922949209616891772928 + (1 * v 1 + (0)) = (j : Int) ∧ c_gv j (g j) = v 4 := rX
  have eX := t_g28 h nk (by omega) rX (by omega)
  have rT : ∃ j : Nat, 29014219670751100192948224 + (1 * v 0 + (0)) = (j : Int) ∧ c_gv j (g j) = v 5 := rT
  have eT := t_g24 h nm (by omega) rT (by omega)
  have rF : ∃ j : Nat, 38685626227668133590597632 + (1 * v 1 + (1024 * v 2 + (1073741824 * v 3 + (0)))) = (j : Int) ∧ c_gv j (g j) = v 6 := rF
  have eF := t_g32 h nk nc nv (by omega) (by omega) (by omega) rF (by omega)
  have rG : ∃ j : Nat, 38685626227668133590597633 + (1 * v 1 + (1024 * v 2 + (1073741824 * v 3 + (0)))) = (j : Int) ∧ c_gv j (g j) = v 7 := rG
  have eG := t_g32 h (nk+1) nc nv (by omega) (by omega) (by omega) rG (by omega)
  have cl := t_cn_le4 (X := t_tx g) (t_G_ok h) (m := nm) (by omega)
  have c := t_fd_s (l := (t_la (t_tx g) 700).2.2.2.2) (k := nk) (c := nc) (by omega) (by omega) (nv : Int)
  rw [if_neg (fun h9 => by rw [h9, t_cl_id (by omega)] at eX; omega)] at c
  exact ⟨(by show 0 ≤ 0 + (1 * v 6 + ((-1) * v 7 + (0))); omega), (by show 0 ≤ 0 + ((-1) * v 6 + (1 * v 7 + (0))); omega), trivial⟩
-- fbH
theorem t_q128 {g : Nat → Int} (h : t_G g) : t_ok g 4 ([(33849922949209616891772928, [(1, 1)]), (29014219670751100192948224, [(0, 1)]), (38685626227668133590597632, [(1, 1), (2, 1024), (3, 1073741824)])], [(0, [(0, 1)]), (650, [(0, (-1))]), (0, [(1, 1)]), (6, [(1, (-1))]), (0, [(2, 1)]), (6, [(2, (-1))]), (0, [(3, 1)]), (1099511627775, [(3, (-1))]), (0, [(2, (-1)), (5, 1)]), ((-1), [(1, (-1)), (2, 1)]), (0, [(3, (-1)), (4, 1)]), (0, [(3, 1), (4, (-1))])], [(0, [(1, (-1)), (6, 1)]), (0, [(1, 1), (6, (-1))])]) := by
  refine t_okI fun v hr hp => ?_
  obtain ⟨rX, rT, rF, -⟩ := hr
  obtain ⟨p0, p1, p2, p3, p4, p5, p6, p7, p8, p9, p10, p11, -⟩ := hp
  have p0 : 0 ≤ 0 + (1 * v 0 + (0)) := p0
  have p1 : 0 ≤ 650 + ((-1) * v 0 + (0)) := p1
  have p2 : 0 ≤ 0 + (1 * v 1 + (0)) := p2
  have p3 : 0 ≤ 6 + ((-1) * v 1 + (0)) := p3
  have p4 : 0 ≤ 0 + (1 * v 2 + (0)) := p4
  have p5 : 0 ≤ 6 + ((-1) * v 2 + (0)) := p5
  have p6 : 0 ≤ 0 + (1 * v 3 + (0)) := p6
  have p7 : 0 ≤ 1099511627775 + ((-1) * v 3 + (0)) := p7
  have p8 : 0 ≤ 0 + ((-1) * v 2 + (1 * v 5 + (0))) := p8
  have p9 : 0 ≤ (-1) + ((-1) * v 1 + (1 * v 2 + (0))) := p9
  have p10 : 0 ≤ 0 + ((-1) * v 3 + (1 * v 4 + (0))) := p10
  have p11 : 0 ≤ 0 + (1 * v 3 + ((-1) * v 4 + (0))) := p11
  obtain ⟨nm, hm⟩ : ∃ n : Nat, v 0 = (n : Int) := ⟨(v 0).toNat, by omega⟩
  obtain ⟨nk, hk⟩ : ∃ n : Nat, v 1 = (n : Int) := ⟨(v 1).toNat, by omega⟩
  obtain ⟨nc, hc⟩ : ∃ n : Nat, v 2 = (n : Int) := ⟨(v 2).toNat, by omega⟩
  obtain ⟨nv, hv⟩ : ∃ n : Nat, v 3 = (n : Int) := ⟨(v 3).toNat, by omega⟩
  have rX : ∃ j : Nat, 33849922949209616891772928 + (1 * v 1 + (0)) = (j : Int) ∧ c_gv j (g j) = v 4 := rX
  have eX := t_g28 h nk (by omega) rX (by omega)
  have rT : ∃ j : Nat, 29014219670751100192948224 + (1 * v 0 + (0)) = (j : Int) ∧ c_gv j (g j) = v 5 := rT
  have eT := t_g24 h nm (by omega) rT (by omega)
  have rF : ∃ j : Nat, 38685626227668133590597632 + (1 * v 1 + (1024 * v 2 + (1073741824 * v 3 + (0)))) = (j : Int) ∧ c_gv j (g j) = v 6 := rF
  have eF := t_g32 h nk nc nv (by omega) (by omega) (by omega) rF (by omega)
  have cl := t_cn_le4 (X := t_tx g) (t_G_ok h) (m := nm) (by omega)
  have c := t_fd_s (l := (t_la (t_tx g) 700).2.2.2.2) (k := nk) (c := nc) (by omega) (by omega) (nv : Int)
  have c1 : t_nth (t_la (t_tx g) 700).2.2.2.2 nk = (nv : Int) := (t_cl_eq (by omega)).mp (by omega)
  rw [if_pos c1] at c
  exact ⟨(by show 0 ≤ 0 + ((-1) * v 1 + (1 * v 6 + (0))); omega), (by show 0 ≤ 0 + (1 * v 1 + ((-1) * v 6 + (0))); omega), trivial⟩
-- fbB
theorem t_q129 {g : Nat → Int} (h : t_G g) : t_ok g 2 ([(38685626227668133590597632, [(0, 1024), (1, 1073741824)])], [(0, [(0, 1)]), (6, [(0, (-1))]), (0, [(1, 1)]), (1099511627775, [(1, (-1))])], [(1, [(2, 1)]), ((-1), [(0, 1), (2, (-1))])]) := by
  refine t_okI fun v hr hp => ?_
  obtain ⟨rF, -⟩ := hr
  obtain ⟨p0, p1, p2, p3, -⟩ := hp
  have p0 : 0 ≤ 0 + (1 * v 0 + (0)) := p0
  have p1 : 0 ≤ 6 + ((-1) * v 0 + (0)) := p1
  have p2 : 0 ≤ 0 + (1 * v 1 + (0)) := p2
  have p3 : 0 ≤ 1099511627775 + ((-1) * v 1 + (0)) := p3
  obtain ⟨nc, hc⟩ : ∃ n : Nat, v 0 = (n : Int) := ⟨(v 0).toNat, by omega⟩
  obtain ⟨nv, hv⟩ : ∃ n : Nat, v 1 = (n : Int) := ⟨(v 1).toNat, by omega⟩
  have rF : ∃ j : Nat, 38685626227668133590597632 + (1024 * v 0 + (1073741824 * v 1 + (0))) = (j : Int) ∧ c_gv j (g j) = v 2 := rF
  have eF := t_g32 h 0 nc nv (by omega) (by omega) (by omega) rF (by omega)
  have c := t_fd_bd (l := (t_la (t_tx g) 700).2.2.2.2) nc (nv : Int)
  exact ⟨(by show 0 ≤ 1 + (1 * v 2 + (0)); omega), (by show 0 ≤ (-1) + (1 * v 0 + ((-1) * v 2 + (0))); omega), trivial⟩
