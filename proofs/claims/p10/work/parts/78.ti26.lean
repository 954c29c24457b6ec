/-! rules on the tables, each with its proof (printed by gen_rul.py) -/
-- ts2
theorem t_q178 {g : Nat → Int} (h : t_G g) : t_ok g 1 ([(9671406556917033397649408, [(0, 1)]), (12089258196146291747061760, [(0, 1)]), (51983810243429054512365568, [(0, 1)]), (53192736063043683687071744, [(0, 1)]), (54401661882658312861777920, [(0, 1)]), (55610587702272942036484096, [(0, 1)]), (56819513521887571211190272, [(0, 1)]), (58028439341502200385896448, [(0, 1)])], [(0, [(0, 1)]), (700, [(0, (-1))]), ((-2), [(1, 1)]), (2, [(1, (-1))])], [(0, [(2, (-1)), (3, 1)]), (0, [(2, 1), (3, (-1))]), (0, [(4, 1)]), (0, [(4, (-1))]), (0, [(5, 1)]), (0, [(5, (-1))]), ((-1), [(6, 1)]), (1, [(6, (-1))]), (0, [(7, 1)]), (0, [(7, (-1))]), (0, [(8, 1)]), (0, [(8, (-1))])]) := by
  refine t_okI fun v hr hp => ?_
  obtain ⟨rK, rV, rA, rB, rC, rD, rL, rF, -⟩ := hr
  obtain ⟨p0, p1, p2, p3, -⟩ := hp
  have p0 : 0 ≤ 0 + (1 * v 0 + (0)) := p0
  have p1 : 0 ≤ 700 + ((-1) * v 0 + (0)) := p1
  have p2 : 0 ≤ (-2) + (1 * v 1 + (0)) := p2
  have p3 : 0 ≤ 2 + ((-1) * v 1 + (0)) := p3
  obtain ⟨ni, hi⟩ : ∃ n : Nat, v 0 = (n : Int) := ⟨(v 0).toNat, by omega⟩
  have rK : ∃ j : Nat, 9671406556917033397649408 + (1 * v 0 + (0)) = (j : Int) ∧ c_gv j (g j) = v 1 := rK
  have eK := t_g8 h ni (by omega) rK (by omega)
  have rV : ∃ j : Nat, 12089258196146291747061760 + (1 * v 0 + (0)) = (j : Int) ∧ c_gv j (g j) = v 2 := rV
  have eV := t_g10 h ni (by omega) rV (by omega)
  have rA : ∃ j : Nat, 51983810243429054512365568 + (1 * v 0 + (0)) = (j : Int) ∧ c_gv j (g j) = v 3 := rA
  have eA := t_g43 h ni (by omega) rA (by omega)
  have rB : ∃ j : Nat, 53192736063043683687071744 + (1 * v 0 + (0)) = (j : Int) ∧ c_gv j (g j) = v 4 := rB
  have eB := t_g44 h ni (by omega) rB (by omega)
  have rC : ∃ j : Nat, 54401661882658312861777920 + (1 * v 0 + (0)) = (j : Int) ∧ c_gv j (g j) = v 5 := rC
  have eC := t_g45 h ni (by omega) rC (by omega)
  have rD : ∃ j : Nat, 55610587702272942036484096 + (1 * v 0 + (0)) = (j : Int) ∧ c_gv j (g j) = v 6 := rD
  have eD := t_g46 h ni (by omega) rD (by omega)
  have rL : ∃ j : Nat, 56819513521887571211190272 + (1 * v 0 + (0)) = (j : Int) ∧ c_gv j (g j) = v 7 := rL
  have eL := t_g47 h ni (by omega) rL (by omega)
  have rF : ∃ j : Nat, 58028439341502200385896448 + (1 * v 0 + (0)) = (j : Int) ∧ c_gv j (g j) = v 8 := rF
  have eF := t_g48 h ni (by omega) rF (by omega)
  unfold t_vn at eA
  rw [if_pos (by omega)] at eA
  unfold t_dn at eB
  rw [if_pos (by omega)] at eB
  unfold t_vw at eC
  rw [if_neg (by omega)] at eC
  unfold t_dw at eD
  rw [if_neg (by omega)] at eD
  unfold t_ll at eL
  rw [if_neg (by omega)] at eL
  unfold t_d4 at eF
  rw [if_neg (by omega)] at eF
  exact ⟨(by show 0 ≤ 0 + ((-1) * v 2 + (1 * v 3 + (0))); omega), (by show 0 ≤ 0 + (1 * v 2 + ((-1) * v 3 + (0))); omega), (by show 0 ≤ 0 + (1 * v 4 + (0)); omega), (by show 0 ≤ 0 + ((-1) * v 4 + (0)); omega), (by show 0 ≤ 0 + (1 * v 5 + (0)); omega), (by show 0 ≤ 0 + ((-1) * v 5 + (0)); omega), (by show 0 ≤ (-1) + (1 * v 6 + (0)); omega), (by show 0 ≤ 1 + ((-1) * v 6 + (0)); omega), (by show 0 ≤ 0 + (1 * v 7 + (0)); omega), (by show 0 ≤ 0 + ((-1) * v 7 + (0)); omega), (by show 0 ≤ 0 + (1 * v 8 + (0)); omega), (by show 0 ≤ 0 + ((-1) * v 8 + (0)); omega), trivial⟩
-- ts3
theorem t_q179 {g : Nat → Int} (h : t_G g) : t_ok g 1 ([(9671406556917033397649408, [(0, 1)]), (12089258196146291747061760, [(0, 1)]), (51983810243429054512365568, [(0, 1)]), (53192736063043683687071744, [(0, 1)]), (54401661882658312861777920, [(0, 1)]), (55610587702272942036484096, [(0, 1)]), (56819513521887571211190272, [(0, 1)]), (58028439341502200385896448, [(0, 1)])], [(0, [(0, 1)]), (700, [(0, (-1))]), ((-3), [(1, 1)]), (3, [(1, (-1))])], [(0, [(2, (-1)), (3, 1)]), (0, [(2, 1), (3, (-1))]), (0, [(4, 1)]), (0, [(4, (-1))]), (0, [(5, 1)]), (0, [(5, (-1))]), ((-1), [(6, 1)]), (1, [(6, (-1))]), (0, [(7, 1)]), (0, [(7, (-1))]), (0, [(8, 1)]), (0, [(8, (-1))])]) := by
  refine t_okI fun v hr hp => ?_
  obtain ⟨rK, rV, rA, rB, rC, rD, rL, rF, -⟩ := hr
  obtain ⟨p0, p1, p2, p3, -⟩ := hp
  have p0 : 0 ≤ 0 + (1 * v 0 + (0)) := p0
  have p1 : 0 ≤ 700 + ((-1) * v 0 + (0)) := p1
  have p2 : 0 ≤ (-3) + (1 * v 1 + (0)) := p2
  have p3 : 0 ≤ 3 + ((-1) * v 1 + (0)) := p3
  obtain ⟨ni, hi⟩ : ∃ n : Nat, v 0 = (n : Int) := ⟨(v 0).toNat, by omega⟩
  have rK : ∃ j : Nat, 9671406556917033397649408 + (1 * v 0 + (0)) = (j : Int) ∧ c_gv j (g j) = v 1 := rK
  have eK := t_g8 h ni (by omega) rK (by omega)
  have rV : ∃ j : Nat, 12089258196146291747061760 + (1 * v 0 + (0)) = (j : Int) ∧ c_gv j (g j) = v 2 := rV
  have eV := t_g10 h ni (by omega) rV (by omega)
  have rA : ∃ j : Nat, 51983810243429054512365568 + (1 * v 0 + (0)) = (j : Int) ∧ c_gv j (g j) = v 3 := rA
  have eA := t_g43 h ni (by omega) rA (by omega)
  have rB : ∃ j : Nat, 53192736063043683687071744 + (1 * v 0 + (0)) = (j : Int) ∧ c_gv j (g j) = v 4 := rB
  have eB := t_g44 h ni (by omega) rB (by omega)
  have rC : ∃ j : Nat, 54401661882658312861777920 + (1 * v 0 + (0)) = (j : Int) ∧ c_gv j (g j) = v 5 := rC
  have eC := t_g45 h ni (by omega) rC (by omega)
  have rD : ∃ j : Nat, 55610587702272942036484096 + (1 * v 0 + (0)) = (j : Int) ∧ c_gv j (g j) = v 6 := rD
  have eD := t_g46 h ni (by omega) rD (by omega)
  have rL : ∃ j : Nat, 56819513521887571211190272 + (1 * v 0 + (0)) = (j : Int) ∧ c_gv j (g j) = v 7 := rL
  have eL := t_g47 h ni (by omega) rL (by omega)
  have rF : ∃ j : Nat, 58028439341502200385896448 + (1 * v 0 + (0)) = (j : Int) ∧ c_gv j (g j) = v 8 := rF
  have eF := t_g48 h ni (by omega) rF (by omega)
  unfold t_vn at eA
  rw [if_pos (by omega)] at eA
  unfold t_dn at eB
  rw [if_pos (by omega)] at eB
  unfold t_vw at eC
  rw [if_neg (by omega)] at eC
  unfold t_dw at eD
  rw [if_neg (by omega)] at eD
  unfold t_ll at eL
  rw [if_neg (by omega)] at eL
  unfold t_d4 at eF
  rw [if_neg (by omega)] at eF
  exact ⟨(by show 0 ≤ 0 + ((-1) * v 2 + (1 * v 3 + (0))); omega), (by show 0 ≤ 0 + (1 * v 2 + ((-1) * v 3 + (0))); omega), (by show 0 ≤ 0 + (1 * v 4 + (0)); omega), (by show 0 ≤ 0 + ((-1) * v 4 + (0)); omega), (by show 0 ≤ 0 + (1 * v 5 + (0)); omega), (by show 0 ≤ 0 + ((-1) * v 5 + (0)); omega), (by show 0 ≤ (-1) + (1 * v 6 + (0)); omega), (by show 0 ≤ 1 + ((-1) * v 6 + (0)); omega), (by show 0 ≤ 0 + (1 * v 7 + (0)); omega), (by show 0 ≤ 0 + ((-1) * v 7 + (0)); omega), (by show 0 ≤ 0 + (1 * v 8 + (0)); omega), (by show 0 ≤ 0 + ((-1) * v 8 + (0)); omega), trivial⟩
-- ts4
theorem t_q180 {g : Nat → Int} (h : t_G g) : t_ok g 1 ([(9671406556917033397649408, [(0, 1)]), (12089258196146291747061760, [(0, 1)]), (51983810243429054512365568, [(0, 1)]), (53192736063043683687071744, [(0, 1)]), (54401661882658312861777920, [(0, 1)]), (55610587702272942036484096, [(0, 1)]), (56819513521887571211190272, [(0, 1)]), (58028439341502200385896448, [(0, 1)])], [(0, [(0, 1)]), (700, [(0, (-1))]), ((-4), [(1, 1)]), (4, [(1, (-1))])], [(0, [(3, 1)]), (0, [(3, (-1))]), ((-8589934592), [(4, 1)]), (8589934592, [(4, (-1))]), (0, [(5, 1)]), (0, [(5, (-1))]), ((-1), [(6, 1)]), (1, [(6, (-1))]), (0, [(7, 1)]), (0, [(7, (-1))]), ((-1000), [(8, 1)]), (1000, [(8, (-1))])]) := by
  refine t_okI fun v hr hp => ?_
  obtain ⟨rK, rV, rA, rB, rC, rD, rL, rF, -⟩ := hr
  obtain ⟨p0, p1, p2, p3, -⟩ := hp
  have p0 : 0 ≤ 0 + (1 * v 0 + (0)) := p0
  have p1 : 0 ≤ 700 + ((-1) * v 0 + (0)) := p1
  have p2 : 0 ≤ (-4) + (1 * v 1 + (0)) := p2
  have p3 : 0 ≤ 4 + ((-1) * v 1 + (0)) := p3
  obtain ⟨ni, hi⟩ : ∃ n : Nat, v 0 = (n : Int) := ⟨(v 0).toNat, by omega⟩
  have rK : ∃ j : Nat, 9671406556917033397649408 + (1 * v 0 + (0)) = (j : Int) ∧ c_gv j (g j) = v 1 := rK
  have eK := t_g8 h ni (by omega) rK (by omega)
  have rV : ∃ j : Nat, 12089258196146291747061760 + (1 * v 0 + (0)) = (j : Int) ∧ c_gv j (g j) = v 2 := rV
  have eV := t_g10 h ni (by omega) rV (by omega)
  have rA : ∃ j : Nat, 51983810243429054512365568 + (1 * v 0 + (0)) = (j : Int) ∧ c_gv j (g j) = v 3 := rA
  have eA := t_g43 h ni (by omega) rA (by omega)
  have rB : ∃ j : Nat, 53192736063043683687071744 + (1 * v 0 + (0)) = (j : Int) ∧ c_gv j (g j) = v 4 := rB
  have eB := t_g44 h ni (by omega) rB (by omega)
  have rC : ∃ j : Nat, 54401661882658312861777920 + (1 * v 0 + (0)) = (j : Int) ∧ c_gv j (g j) = v 5 := rC
  have eC := t_g45 h ni (by omega) rC (by omega)
  have rD : ∃ j : Nat, 55610587702272942036484096 + (1 * v 0 + (0)) = (j : Int) ∧ c_gv j (g j) = v 6 := rD
  have eD := t_g46 h ni (by omega) rD (by omega)
  have rL : ∃ j : Nat, 56819513521887571211190272 + (1 * v 0 + (0)) = (j : Int) ∧ c_gv j (g j) = v 7 := rL
  have eL := t_g47 h ni (by omega) rL (by omega)
  have rF : ∃ j : Nat, 58028439341502200385896448 + (1 * v 0 + (0)) = (j : Int) ∧ c_gv j (g j) = v 8 := rF
  have eF := t_g48 h ni (by omega) rF (by omega)
  unfold t_vn at eA
  rw [if_neg (by omega)] at eA
  unfold t_dn at eB
  rw [if_neg (by omega)] at eB
  unfold t_vw at eC
  rw [if_neg (by omega)] at eC
  unfold t_dw at eD
  rw [if_neg (by omega)] at eD
  unfold t_ll at eL
  rw [if_neg (by omega)] at eL
  unfold t_d4 at eF
  rw [if_pos (by omega)] at eF
  exact ⟨(by show 0 ≤ 0 + (1 * v 3 + (0)); omega), (by show 0 ≤ 0 + ((-1) * v 3 + (0)); omega), (by show 0 ≤ (-8589934592) + (1 * v 4 + (0)); omega), (by show 0 ≤ 8589934592 + ((-1) * v 4 + (0)); omega), (by show 0 ≤ 0 + (1 * v 5 + (0)); omega), (by show 0 ≤ 0 + ((-1) * v 5 + (0)); omega), (by show 0 ≤ (-1) + (1 * v 6 + (0)); omega), (by show 0 ≤ 1 + ((-1) * v 6 + (0)); omega), (by show 0 ≤ 0 + (1 * v 7 + (0)); omega), (by show 0 ≤ 0 + ((-1) * v 7 + (0)); omega), (by show 0 ≤ (-1000) + (1 * v 8 + (0)); omega), (by show 0 ≤ 1000 + ((-1) * v 8 + (0)); omega), trivial⟩
-- epB
theorem t_q181 {g : Nat → Int} (h : t_G g) : t_ok g 2 ([(10880332376531662572355584, [(0, 1)]), (1208925819614629174707199, [])], [(0, [(0, 1)]), (700, [(0, (-1))]), (0, [(1, (-1)), (2, 1)]), (0, [(1, 1), (2, (-1))])], [(0, [(1, 1)]), (0, [(1, (-1)), (3, 1)])]) := by
  refine t_okI fun v hr hp => ?_
  obtain ⟨rE, rN, -⟩ := hr
  obtain ⟨p0, p1, p2, p3, -⟩ := hp
  have p0 : 0 ≤ 0 + (1 * v 0 + (0)) := p0
  have p1 : 0 ≤ 700 + ((-1) * v 0 + (0)) := p1
  have p2 : 0 ≤ 0 + ((-1) * v 1 + (1 * v 2 + (0))) := p2
  have p3 : 0 ≤ 0 + (1 * v 1 + ((-1) * v 2 + (0))) := p3
  obtain ⟨ni, hi⟩ : ∃ n : Nat, v 0 = (n : Int) := ⟨(v 0).toNat, by omega⟩
  have rE : ∃ j : Nat, 10880332376531662572355584 + (1 * v 0 + (0)) = (j : Int) ∧ c_gv j (g j) = v 2 := rE
  have eE := t_g9 h ni (by omega) rE (by omega)
  have rN : ∃ j : Nat, 1208925819614629174707199 + (0) = (j : Int) ∧ c_gv j (g j) = v 3 := rN
  have eN := t_rdN h rN (by omega)
  have c := t_ep_le (X := t_tx g) ni
  exact ⟨(by show 0 ≤ 0 + (1 * v 1 + (0)); omega), (by show 0 ≤ 0 + ((-1) * v 1 + (1 * v 3 + (0))); omega), trivial⟩
-- ik0a
theorem t_q182 {g : Nat → Int} (h : t_G g) : t_ok g 1 ([(9671406556917033397649408, [(0, 1)]), (12089258196146291747061760, [(0, 1)]), (22969590572677954319417344, [(0, 1)])], [(0, [(0, 1)]), (700, [(0, (-1))]), ((-1), [(1, 1)]), (1, [(1, (-1))]), ((-671470), [(2, 1)]), (671470, [(2, (-1))])], [((-1), [(3, 1)]), (1, [(3, (-1))])]) := by
  refine t_okI fun v hr hp => ?_
  obtain ⟨rK, rV, rS, -⟩ := hr
  obtain ⟨p0, p1, p2, p3, p4, p5, -⟩ := hp
  have p0 : 0 ≤ 0 + (1 * v 0 + (0)) := p0
  have p1 : 0 ≤ 700 + ((-1) * v 0 + (0)) := p1
  have p2 : 0 ≤ (-1) + (1 * v 1 + (0)) := p2
  have p3 : 0 ≤ 1 + ((-1) * v 1 + (0)) := p3
  have p4 : 0 ≤ (-671470) + (1 * v 2 + (0)) := p4
  have p5 : 0 ≤ 671470 + ((-1) * v 2 + (0)) := p5
  obtain ⟨ni, hi⟩ : ∃ n : Nat, v 0 = (n : Int) := ⟨(v 0).toNat, by omega⟩
  have rK : ∃ j : Nat, 9671406556917033397649408 + (1 * v 0 + (0)) = (j : Int) ∧ c_gv j (g j) = v 1 := rK
  have eK := t_g8 h ni (by omega) rK (by omega)
  have rV : ∃ j : Nat, 12089258196146291747061760 + (1 * v 0 + (0)) = (j : Int) ∧ c_gv j (g j) = v 2 := rV
  have eV := t_g10 h ni (by omega) rV (by omega)
  have rS : ∃ j : Nat, 22969590572677954319417344 + (1 * v 0 + (0)) = (j : Int) ∧ c_gv j (g j) = v 3 := rS
  have eS := t_g19 h ni 0 (by omega) (by omega) rS (by omega)
  have c : t_ky (t_tx g) ni = 0 := by
    unfold t_ky
    rw [if_pos (by omega), show t_v (t_tx g) ni = 671470 by omega]
    decide
  unfold t_isk at eS
  rw [if_pos (show t_ky (t_tx g) ni = ((0 : Nat) : Int) from c)] at eS
  exact ⟨(by show 0 ≤ (-1) + (1 * v 3 + (0)); omega), (by show 0 ≤ 1 + ((-1) * v 3 + (0)); omega), trivial⟩
-- ik0b
theorem t_q183 {g : Nat → Int} (h : t_G g) : t_ok g 1 ([(9671406556917033397649408, [(0, 1)]), (12089258196146291747061760, [(0, 1)]), (22969590572677954319417344, [(0, 1)])], [(0, [(0, 1)]), (700, [(0, (-1))]), (0, [(1, (-1))])], [(0, [(3, 1)]), (0, [(3, (-1))])]) := by
  refine t_okI fun v hr hp => ?_
  obtain ⟨rK, rV, rS, -⟩ := hr
  obtain ⟨p0, p1, p2, -⟩ := hp
  have p0 : 0 ≤ 0 + (1 * v 0 + (0)) := p0
  have p1 : 0 ≤ 700 + ((-1) * v 0 + (0)) := p1
  have p2 : 0 ≤ 0 + ((-1) * v 1 + (0)) := p2
  obtain ⟨ni, hi⟩ : ∃ n : Nat, v 0 = (n : Int) := ⟨(v 0).toNat, by omega⟩
  have rK : ∃ j : Nat, 9671406556917033397649408 + (1 * v 0 + (0)) = (j : Int) ∧ c_gv j (g j) = v 1 := rK
  have eK := t_g8 h ni (by omega) rK (by omega)
  have rV : ∃ j : Nat, 12089258196146291747061760 + (1 * v 0 + (0)) = (j : Int) ∧ c_gv j (g j) = v 2 := rV
  have eV := t_g10 h ni (by omega) rV (by omega)
  have rS : ∃ j : Nat, 22969590572677954319417344 + (1 * v 0 + (0)) = (j : Int) ∧ c_gv j (g j) = v 3 := rS
  have eS := t_g19 h ni 0 (by omega) (by omega) rS (by omega)
  have cy : t_ky (t_tx g) ni = -1 := by
    unfold t_ky
    rw [if_neg (by omega)]
  unfold t_isk at eS
  rw [if_neg (by omega)] at eS
  exact ⟨(by show 0 ≤ 0 + (1 * v 3 + (0)); omega), (by show 0 ≤ 0 + ((-1) * v 3 + (0)); omega), trivial⟩
-- ik0c
theorem t_q184 {g : Nat → Int} (h : t_G g) : t_ok g 1 ([(9671406556917033397649408, [(0, 1)]), (12089258196146291747061760, [(0, 1)]), (22969590572677954319417344, [(0, 1)])], [(0, [(0, 1)]), (700, [(0, (-1))]), ((-2), [(1, 1)])], [(0, [(3, 1)]), (0, [(3, (-1))])]) := by
  refine t_okI fun v hr hp => ?_
  obtain ⟨rK, rV, rS, -⟩ := hr
  obtain ⟨p0, p1, p2, -⟩ := hp
  have p0 : 0 ≤ 0 + (1 * v 0 + (0)) := p0
  have p1 : 0 ≤ 700 + ((-1) * v 0 + (0)) := p1
  have p2 : 0 ≤ (-2) + (1 * v 1 + (0)) := p2
  obtain ⟨ni, hi⟩ : ∃ n : Nat, v 0 = (n : Int) := ⟨(v 0).toNat, by omega⟩
  have rK : ∃ j : Nat, 9671406556917033397649408 + (1 * v 0 + (0)) = (j : Int) ∧ c_gv j (g j) = v 1 := rK
  have eK := t_g8 h ni (by omega) rK (by omega)
  have rV : ∃ j : Nat, 12089258196146291747061760 + (1 * v 0 + (0)) = (j : Int) ∧ c_gv j (g j) = v 2 := rV
  have eV := t_g10 h ni (by omega) rV (by omega)
  have rS : ∃ j : Nat, 22969590572677954319417344 + (1 * v 0 + (0)) = (j : Int) ∧ c_gv j (g j) = v 3 := rS
  have eS := t_g19 h ni 0 (by omega) (by omega) rS (by omega)
  have cy : t_ky (t_tx g) ni = -1 := by
    unfold t_ky
    rw [if_neg (by omega)]
  unfold t_isk at eS
  rw [if_neg (by omega)] at eS
  exact ⟨(by show 0 ≤ 0 + (1 * v 3 + (0)); omega), (by show 0 ≤ 0 + ((-1) * v 3 + (0)); omega), trivial⟩
-- ik0d
theorem t_q185 {g : Nat → Int} (h : t_G g) : t_ok g 1 ([(9671406556917033397649408, [(0, 1)]), (12089258196146291747061760, [(0, 1)]), (22969590572677954319417344, [(0, 1)])], [(0, [(0, 1)]), (700, [(0, (-1))]), (671469, [(2, (-1))])], [(0, [(3, 1)]), (0, [(3, (-1))])]) := by
  refine t_okI fun v hr hp => ?_
  obtain ⟨rK, rV, rS, -⟩ := hr
  obtain ⟨p0, p1, p2, -⟩ := hp
  have p0 : 0 ≤ 0 + (1 * v 0 + (0)) := p0
  have p1 : 0 ≤ 700 + ((-1) * v 0 + (0)) := p1
  have p2 : 0 ≤ 671469 + ((-1) * v 2 + (0)) := p2
  obtain ⟨ni, hi⟩ : ∃ n : Nat, v 0 = (n : Int) := ⟨(v 0).toNat, by omega⟩
  have rK : ∃ j : Nat, 9671406556917033397649408 + (1 * v 0 + (0)) = (j : Int) ∧ c_gv j (g j) = v 1 := rK
  have eK := t_g8 h ni (by omega) rK (by omega)
  have rV : ∃ j : Nat, 12089258196146291747061760 + (1 * v 0 + (0)) = (j : Int) ∧ c_gv j (g j) = v 2 := rV
  have eV := t_g10 h ni (by omega) rV (by omega)
  have rS : ∃ j : Nat, 22969590572677954319417344 + (1 * v 0 + (0)) = (j : Int) ∧ c_gv j (g j) = v 3 := rS
  have eS := t_g19 h ni 0 (by omega) (by omega) rS (by omega)
  unfold t_isk at eS
  rw [if_neg (fun h9 => by have h8 := t_ky_v h9; have h8 : some (671470 : Int) = some (t_v (t_tx g) ni) := h8; have h8 := Option.some.inj h8; omega)] at eS
  exact ⟨(by show 0 ≤ 0 + (1 * v 3 + (0)); omega), (by show 0 ≤ 0 + ((-1) * v 3 + (0)); omega), trivial⟩
-- ik0e
theorem t_q186 {g : Nat → Int} (h : t_G g) : t_ok g 1 ([(9671406556917033397649408, [(0, 1)]), (12089258196146291747061760, [(0, 1)]), (22969590572677954319417344, [(0, 1)])], [(0, [(0, 1)]), (700, [(0, (-1))]), ((-671471), [(2, 1)])], [(0, [(3, 1)]), (0, [(3, (-1))])]) := by
  refine t_okI fun v hr hp => ?_
  obtain ⟨rK, rV, rS, -⟩ := hr
  obtain ⟨p0, p1, p2, -⟩ := hp
  have p0 : 0 ≤ 0 + (1 * v 0 + (0)) := p0
  have p1 : 0 ≤ 700 + ((-1) * v 0 + (0)) := p1
  have p2 : 0 ≤ (-671471) + (1 * v 2 + (0)) := p2
  obtain ⟨ni, hi⟩ : ∃ n : Nat, v 0 = (n : Int) := ⟨(v 0).toNat, by omega⟩
  have rK : ∃ j : Nat, 9671406556917033397649408 + (1 * v 0 + (0)) = (j : Int) ∧ c_gv j (g j) = v 1 := rK
  have eK := t_g8 h ni (by omega) rK (by omega)
  have rV : ∃ j : Nat, 12089258196146291747061760 + (1 * v 0 + (0)) = (j : Int) ∧ c_gv j (g j) = v 2 := rV
  have eV := t_g10 h ni (by omega) rV (by omega)
  have rS : ∃ j : Nat, 22969590572677954319417344 + (1 * v 0 + (0)) = (j : Int) ∧ c_gv j (g j) = v 3 := rS
  have eS := t_g19 h ni 0 (by omega) (by omega) rS (by omega)
  unfold t_isk at eS
  rw [if_neg (fun h9 => by have h8 := t_ky_v h9; have h8 : some (671470 : Int) = some (t_v (t_tx g) ni) := h8; have h8 := Option.some.inj h8; omega)] at eS
  exact ⟨(by show 0 ≤ 0 + (1 * v 3 + (0)); omega), (by show 0 ≤ 0 + ((-1) * v 3 + (0)); omega), trivial⟩
-- ky0
theorem t_q187 {g : Nat → Int} (h : t_G g) : t_ok g 1 ([(22969590572677954319417344, [(0, 1)]), (13298184015760920921767936, [(0, 1)]), (9671406556917033397649408, [(0, 1)])], [(0, [(0, 1)]), (700, [(0, (-1))]), ((-1), [(1, 1)])], [(0, [(2, 1)]), (0, [(2, (-1))]), ((-1), [(3, 1)]), (1, [(3, (-1))]), ((-1), [(1, 1)]), (1, [(1, (-1))])]) := by
  refine t_okI fun v hr hp => ?_
  obtain ⟨rS, rY, rK, -⟩ := hr
  obtain ⟨p0, p1, p2, -⟩ := hp
  have p0 : 0 ≤ 0 + (1 * v 0 + (0)) := p0
  have p1 : 0 ≤ 700 + ((-1) * v 0 + (0)) := p1
  have p2 : 0 ≤ (-1) + (1 * v 1 + (0)) := p2
  obtain ⟨ni, hi⟩ : ∃ n : Nat, v 0 = (n : Int) := ⟨(v 0).toNat, by omega⟩
  have rS : ∃ j : Nat, 22969590572677954319417344 + (1 * v 0 + (0)) = (j : Int) ∧ c_gv j (g j) = v 1 := rS
  have eS := t_g19 h ni 0 (by omega) (by omega) rS (by omega)
  have rY : ∃ j : Nat, 13298184015760920921767936 + (1 * v 0 + (0)) = (j : Int) ∧ c_gv j (g j) = v 2 := rY
  have eY := t_g11 h ni (by omega) rY (by omega)
  have rK : ∃ j : Nat, 9671406556917033397649408 + (1 * v 0 + (0)) = (j : Int) ∧ c_gv j (g j) = v 3 := rK
  have eK := t_g8 h ni (by omega) rK (by omega)
  have ceS : t_ky (t_tx g) ni = 0 := by
    unfold t_isk at eS
    by_cases h9 : t_ky (t_tx g) ni = ((0 : Nat) : Int)
    · exact h9
    · rw [if_neg h9] at eS
      omega
  have ck := t_ky_k (X := t_tx g) (i := ni) (by omega)
  unfold t_isk at eS
  rw [if_pos (show t_ky (t_tx g) ni = ((0 : Nat) : Int) from ceS)] at eS
  exact ⟨(by show 0 ≤ 0 + (1 * v 2 + (0)); omega), (by show 0 ≤ 0 + ((-1) * v 2 + (0)); omega), (by show 0 ≤ (-1) + (1 * v 3 + (0)); omega), (by show 0 ≤ 1 + ((-1) * v 3 + (0)); omega), (by show 0 ≤ (-1) + (1 * v 1 + (0)); omega), (by show 0 ≤ 1 + ((-1) * v 1 + (0)); omega), trivial⟩
-- ik1a
theorem t_q188 {g : Nat → Int} (h : t_G g) : t_ok g 1 ([(9671406556917033397649408, [(0, 1)]), (12089258196146291747061760, [(0, 1)]), (22969590572677954319418368, [(0, 1)])], [(0, [(0, 1)]), (700, [(0, (-1))]), ((-1), [(1, 1)]), (1, [(1, (-1))]), ((-370116), [(2, 1)]), (370116, [(2, (-1))])], [((-1), [(3, 1)]), (1, [(3, (-1))])]) := by
  refine t_okI fun v hr hp => ?_
  obtain ⟨rK, rV, rS, -⟩ := hr
  obtain ⟨p0, p1, p2, p3, p4, p5, -⟩ := hp
  have p0 : 0 ≤ 0 + (1 * v 0 + (0)) := p0
  have p1 : 0 ≤ 700 + ((-1) * v 0 + (0)) := p1
  have p2 : 0 ≤ (-1) + (1 * v 1 + (0)) := p2
  have p3 : 0 ≤ 1 + ((-1) * v 1 + (0)) := p3
  have p4 : 0 ≤ (-370116) + (1 * v 2 + (0)) := p4
  have p5 : 0 ≤ 370116 + ((-1) * v 2 + (0)) := p5
  obtain ⟨ni, hi⟩ : ∃ n : Nat, v 0 = (n : Int) := ⟨(v 0).toNat, by omega⟩
  have rK : ∃ j : Nat, 9671406556917033397649408 + (1 * v 0 + (0)) = (j : Int) ∧ c_gv j (g j) = v 1 := rK
  have eK := t_g8 h ni (by omega) rK (by omega)
  have rV : ∃ j : Nat, 12089258196146291747061760 + (1 * v 0 + (0)) = (j : Int) ∧ c_gv j (g j) = v 2 := rV
  have eV := t_g10 h ni (by omega) rV (by omega)
  have rS : ∃ j : Nat, 22969590572677954319418368 + (1 * v 0 + (0)) = (j : Int) ∧ c_gv j (g j) = v 3 := rS
  have eS := t_g19 h ni 1 (by omega) (by omega) rS (by omega)
  have c : t_ky (t_tx g) ni = 1 := by
    unfold t_ky
    rw [if_pos (by omega), show t_v (t_tx g) ni = 370116 by omega]
    decide
  unfold t_isk at eS
  rw [if_pos (show t_ky (t_tx g) ni = ((1 : Nat) : Int) from c)] at eS
  exact ⟨(by show 0 ≤ (-1) + (1 * v 3 + (0)); omega), (by show 0 ≤ 1 + ((-1) * v 3 + (0)); omega), trivial⟩
-- ik1b
theorem t_q189 {g : Nat → Int} (h : t_G g) : t_ok g 1 ([(9671406556917033397649408, [(0, 1)]), (12089258196146291747061760, [(0, 1)]), (22969590572677954319418368, [(0, 1)])], [(0, [(0, 1)]), (700, [(0, (-1))]), (0, [(1, (-1))])], [(0, [(3, 1)]), (0, [(3, (-1))])]) := by
  refine t_okI fun v hr hp => ?_
  obtain ⟨rK, rV, rS, -⟩ := hr
  obtain ⟨p0, p1, p2, -⟩ := hp
  have p0 : 0 ≤ 0 + (1 * v 0 + (0)) := p0
  have p1 : 0 ≤ 700 + ((-1) * v 0 + (0)) := p1
  have p2 : 0 ≤ 0 + ((-1) * v 1 + (0)) := p2
  obtain ⟨ni, hi⟩ : ∃ n : Nat, v 0 = (n : Int) := ⟨(v 0).toNat, by omega⟩
  have rK : ∃ j : Nat, 9671406556917033397649408 + (1 * v 0 + (0)) = (j : Int) ∧ c_gv j (g j) = v 1 := rK
  have eK := t_g8 h ni (by omega) rK (by omega)
  have rV : ∃ j : Nat, 12089258196146291747061760 + (1 * v 0 + (0)) = (j : Int) ∧ c_gv j (g j) = v 2 := rV
  have eV := t_g10 h ni (by omega) rV (by omega)
  have rS : ∃ j : Nat, 22969590572677954319418368 + (1 * v 0 + (0)) = (j : Int) ∧ c_gv j (g j) = v 3 := rS
  have eS := t_g19 h ni 1 (by omega) (by omega) rS (by omega)
  have cy : t_ky (t_tx g) ni = -1 := by
    unfold t_ky
    rw [if_neg (by omega)]
  unfold t_isk at eS
  rw [if_neg (by omega)] at eS
  exact ⟨(by show 0 ≤ 0 + (1 * v 3 + (0)); omega), (by show 0 ≤ 0 + ((-1) * v 3 + (0)); omega), trivial⟩
-- ik1c
theorem t_q190 {g : Nat → Int} (h : t_G g) : t_ok g 1 ([(9671406556917033397649408, [(0, 1)]), (12089258196146291747061760, [(0, 1)]), (22969590572677954319418368, [(0, 1)])], [(0, [(0, 1)]), (700, [(0, (-1))]), ((-2), [(1, 1)])], [(0, [(3, 1)]), (0, [(3, (-1))])]) := by
  refine t_okI fun v hr hp => ?_
  obtain ⟨rK, rV, rS, -⟩ := hr
  obtain ⟨p0, p1, p2, -⟩ := hp
  have p0 : 0 ≤ 0 + (1 * v 0 + (0)) := p0
  have p1 : 0 ≤ 700 + ((-1) * v 0 + (0)) := p1
  have p2 : 0 ≤ (-2) + (1 * v 1 + (0)) := p2
  obtain ⟨ni, hi⟩ : ∃ n : Nat, v 0 = (n : Int) := ⟨(v 0).toNat, by omega⟩
  have rK : ∃ j : Nat, 9671406556917033397649408 + (1 * v 0 + (0)) = (j : Int) ∧ c_gv j (g j) = v 1 := rK
  have eK := t_g8 h ni (by omega) rK (by omega)
  have rV : ∃ j : Nat, 12089258196146291747061760 + (1 * v 0 + (0)) = (j : Int) ∧ c_gv j (g j) = v 2 := rV
  have eV := t_g10 h ni (by omega) rV (by omega)
  have rS : ∃ j : Nat, 22969590572677954319418368 + (1 * v 0 + (0)) = (j : Int) ∧ c_gv j (g j) = v 3 := rS
  have eS := t_g19 h ni 1 (by omega) (by omega) rS (by omega)
  have cy : t_ky (t_tx g) ni = -1 := by
    unfold t_ky
    rw [if_neg (by omega)]
  unfold t_isk at eS
  rw [if_neg (by omega)] at eS
  exact ⟨(by show 0 ≤ 0 + (1 * v 3 + (0)); omega), (by show 0 ≤ 0 + ((-1) * v 3 + (0)); omega), trivial⟩
-- ik1d
theorem t_q191 {g : Nat → Int} (h : t_G g) : t_ok g 1 ([(9671406556917033397649408, [(0, 1)]), (12089258196146291747061760, [(0, 1)]), (22969590572677954319418368, [(0, 1)])], [(0, [(0, 1)]), (700, [(0, (-1))]), (370115, [(2, (-1))])], [(0, [(3, 1)]), (0, [(3, (-1))])]) := by
  refine t_okI fun v hr hp => ?_
  obtain ⟨rK, rV, rS, -⟩ := hr
  obtain ⟨p0, p1, p2, -⟩ := hp
  have p0 : 0 ≤ 0 + (1 * v 0 + (0)) := p0
  have p1 : 0 ≤ 700 + ((-1) * v 0 + (0)) := p1
  have p2 : 0 ≤ 370115 + ((-1) * v 2 + (0)) := p2
  obtain ⟨ni, hi⟩ : ∃ n : Nat, v 0 = (n : Int) := ⟨(v 0).toNat, by omega⟩
  have rK : ∃ j : Nat, 9671406556917033397649408 + (1 * v 0 + (0)) = (j : Int) ∧ c_gv j (g j) = v 1 := rK
  have eK := t_g8 h ni (by omega) rK (by omega)
  have rV : ∃ j : Nat, 12089258196146291747061760 + (1 * v 0 + (0)) = (j : Int) ∧ c_gv j (g j) = v 2 := rV
  have eV := t_g10 h ni (by omega) rV (by omega)
  have rS : ∃ j : Nat, 22969590572677954319418368 + (1 * v 0 + (0)) = (j : Int) ∧ c_gv j (g j) = v 3 := rS
  have eS := t_g19 h ni 1 (by omega) (by omega) rS (by omega)
  unfold t_isk at eS
  rw [if_neg (fun h9 => by have h8 := t_ky_v h9; have h8 : some (370116 : Int) = some (t_v (t_tx g) ni) := h8; have h8 := Option.some.inj h8; omega)] at eS
  exact ⟨(by show 0 ≤ 0 + (1 * v 3 + (0)); omega), (by show 0 ≤ 0 + ((-1) * v 3 + (0)); omega), trivial⟩
-- ik1e
theorem t_q192 {g : Nat → Int} (h : t_G g) : t_ok g 1 ([(9671406556917033397649408, [(0, 1)]), (12089258196146291747061760, [(0, 1)]), (22969590572677954319418368, [(0, 1)])], [(0, [(0, 1)]), (700, [(0, (-1))]), ((-370117), [(2, 1)])], [(0, [(3, 1)]), (0, [(3, (-1))])]) := by
  refine t_okI fun v hr hp => ?_
  obtain ⟨rK, rV, rS, -⟩ := hr
  obtain ⟨p0, p1, p2, -⟩ := hp
  have p0 : 0 ≤ 0 + (1 * v 0 + (0)) := p0
  have p1 : 0 ≤ 700 + ((-1) * v 0 + (0)) := p1
  have p2 : 0 ≤ (-370117) + (1 * v 2 + (0)) := p2
  obtain ⟨ni, hi⟩ : ∃ n : Nat, v 0 = (n : Int) := ⟨(v 0).toNat, by omega⟩
  have rK : ∃ j : Nat, 9671406556917033397649408 + (1 * v 0 + (0)) = (j : Int) ∧ c_gv j (g j) = v 1 := rK
  have eK := t_g8 h ni (by omega) rK (by omega)
  have rV : ∃ j : Nat, 12089258196146291747061760 + (1 * v 0 + (0)) = (j : Int) ∧ c_gv j (g j) = v 2 := rV
  have eV := t_g10 h ni (by omega) rV (by omega)
  have rS : ∃ j : Nat, 22969590572677954319418368 + (1 * v 0 + (0)) = (j : Int) ∧ c_gv j (g j) = v 3 := rS
  have eS := t_g19 h ni 1 (by omega) (by omega) rS (by omega)
  unfold t_isk at eS
  rw [if_neg (fun h9 => by have h8 := t_ky_v h9; have h8 : some (370116 : Int) = some (t_v (t_tx g) ni) := h8; have h8 := Option.some.inj h8; omega)] at eS
  exact ⟨(by show 0 ≤ 0 + (1 * v 3 + (0)); omega), (by show 0 ≤ 0 + ((-1) * v 3 + (0)); omega), trivial⟩
-- ky1
theorem t_q193 {g : Nat → Int} (h : t_G g) : t_ok g 1 ([(22969590572677954319418368, [(0, 1)]), (13298184015760920921767936, [(0, 1)]), (9671406556917033397649408, [(0, 1)])], [(0, [(0, 1)]), (700, [(0, (-1))]), ((-1), [(1, 1)])], [((-1), [(2, 1)]), (1, [(2, (-1))]), ((-1), [(3, 1)]), (1, [(3, (-1))]), ((-1), [(1, 1)]), (1, [(1, (-1))])]) := by
  refine t_okI fun v hr hp => ?_
  obtain ⟨rS, rY, rK, -⟩ := hr
  obtain ⟨p0, p1, p2, -⟩ := hp
  have p0 : 0 ≤ 0 + (1 * v 0 + (0)) := p0
  have p1 : 0 ≤ 700 + ((-1) * v 0 + (0)) := p1
  have p2 : 0 ≤ (-1) + (1 * v 1 + (0)) := p2
  obtain ⟨ni, hi⟩ : ∃ n : Nat, v 0 = (n : Int) := ⟨(v 0).toNat, by omega⟩
  have rS : ∃ j : Nat, 22969590572677954319418368 + (1 * v 0 + (0)) = (j : Int) ∧ c_gv j (g j) = v 1 := rS
  have eS := t_g19 h ni 1 (by omega) (by omega) rS (by omega)
  have rY : ∃ j : Nat, 13298184015760920921767936 + (1 * v 0 + (0)) = (j : Int) ∧ c_gv j (g j) = v 2 := rY
  have eY := t_g11 h ni (by omega) rY (by omega)
  have rK : ∃ j : Nat, 9671406556917033397649408 + (1 * v 0 + (0)) = (j : Int) ∧ c_gv j (g j) = v 3 := rK
  have eK := t_g8 h ni (by omega) rK (by omega)
  have ceS : t_ky (t_tx g) ni = 1 := by
    unfold t_isk at eS
    by_cases h9 : t_ky (t_tx g) ni = ((1 : Nat) : Int)
    · exact h9
    · rw [if_neg h9] at eS
      omega
  have ck := t_ky_k (X := t_tx g) (i := ni) (by omega)
  unfold t_isk at eS
  rw [if_pos (show t_ky (t_tx g) ni = ((1 : Nat) : Int) from ceS)] at eS
  exact ⟨(by show 0 ≤ (-1) + (1 * v 2 + (0)); omega), (by show 0 ≤ 1 + ((-1) * v 2 + (0)); omega), (by show 0 ≤ (-1) + (1 * v 3 + (0)); omega), (by show 0 ≤ 1 + ((-1) * v 3 + (0)); omega), (by show 0 ≤ (-1) + (1 * v 1 + (0)); omega), (by show 0 ≤ 1 + ((-1) * v 1 + (0)); omega), trivial⟩
-- ik2a
theorem t_q194 {g : Nat → Int} (h : t_G g) : t_ok g 1 ([(9671406556917033397649408, [(0, 1)]), (12089258196146291747061760, [(0, 1)]), (22969590572677954319419392, [(0, 1)])], [(0, [(0, 1)]), (700, [(0, (-1))]), ((-1), [(1, 1)]), (1, [(1, (-1))]), ((-80948), [(2, 1)]), (80948, [(2, (-1))])], [((-1), [(3, 1)]), (1, [(3, (-1))])]) := by
  refine t_okI fun v hr hp => ?_
  obtain ⟨rK, rV, rS, -⟩ := hr
  obtain ⟨p0, p1, p2, p3, p4, p5, -⟩ := hp
  have p0 : 0 ≤ 0 + (1 * v 0 + (0)) := p0
  have p1 : 0 ≤ 700 + ((-1) * v 0 + (0)) := p1
  have p2 : 0 ≤ (-1) + (1 * v 1 + (0)) := p2
  have p3 : 0 ≤ 1 + ((-1) * v 1 + (0)) := p3
  have p4 : 0 ≤ (-80948) + (1 * v 2 + (0)) := p4
  have p5 : 0 ≤ 80948 + ((-1) * v 2 + (0)) := p5
  obtain ⟨ni, hi⟩ : ∃ n : Nat, v 0 = (n : Int) := ⟨(v 0).toNat, by omega⟩
  have rK : ∃ j : Nat, 9671406556917033397649408 + (1 * v 0 + (0)) = (j : Int) ∧ c_gv j (g j) = v 1 := rK
  have eK := t_g8 h ni (by omega) rK (by omega)
  have rV : ∃ j : Nat, 12089258196146291747061760 + (1 * v 0 + (0)) = (j : Int) ∧ c_gv j (g j) = v 2 := rV
  have eV := t_g10 h ni (by omega) rV (by omega)
  have rS : ∃ j : Nat, 22969590572677954319419392 + (1 * v 0 + (0)) = (j : Int) ∧ c_gv j (g j) = v 3 := rS
  have eS := t_g19 h ni 2 (by omega) (by omega) rS (by omega)
  have c : t_ky (t_tx g) ni = 2 := by
    unfold t_ky
    rw [if_pos (by omega), show t_v (t_tx g) ni = 80948 by omega]
    decide
  unfold t_isk at eS
  rw [if_pos (show t_ky (t_tx g) ni = ((2 : Nat) : Int) from c)] at eS
  exact ⟨(by show 0 ≤ (-1) + (1 * v 3 + (0)); omega), (by show 0 ≤ 1 + ((-1) * v 3 + (0)); omega), trivial⟩
