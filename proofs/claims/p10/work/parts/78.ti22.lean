/-! rules on the tables, each with its proof (printed by gen_rul.py) -/
-- pb6
set_option maxHeartbeats 4000000 in
theorem t_q161 {g : Nat → Int} (h : t_G g) : t_ok g 6 ([(24178516392292583494123520, [(0, 1)]), (13298184015760920921767936, [(1, 1)]), (43521329506126650289422336, [(0, 1)]), (12089258196146291747061761, [(1, 1)]), (25387442211907212668829696, [(0, 1)]), (35058848768824246066479104, [(2, 1073741824), (3, 1024)]), (29014219670751100192948224, [(0, 1)]), (38685626227668133590597632, [(4, 1073741824), (5, 1024)]), (19342813113834066795298817, [(1, 1)]), (21760664753063325144711170, [(1, 1)]), (20551738933448695970065411, [(1, 1)])], [(0, [(0, 1)]), (650, [(0, (-1))]), (0, [(1, 1)]), (650, [(1, (-1))]), (0, [(1, (-1)), (6, 1)]), (0, [(1, 1), (6, (-1))]), ((-2), [(7, 1)]), (2, [(7, (-1))]), (0, [(2, 1)]), (1099511627775, [(2, (-1))]), (0, [(3, 1)]), (6, [(3, (-1))]), (0, [(4, 1)]), (5, [(4, (-1))]), (0, [(5, 1)]), (3, [(5, (-1))]), (0, [(2, (-1)), (9, 1)]), (0, [(2, 1), (9, (-1))]), (0, [(3, (-1)), (10, 1)]), (0, [(3, 1), (10, (-1))]), (0, [(4, (-1)), (11, 1)]), (0, [(4, 1), (11, (-1))]), (0, [(5, (-1)), (12, 1)]), (0, [(5, 1), (12, (-1))]), ((-1), [(13, (-1))]), (2, [(5, (-1))]), ((-1), [(14, 1)]), (1, [(14, (-1))]), ((-3), [(1, (-1)), (15, 1)]), (3, [(1, 1), (15, (-1))])], [(0, [(8, 1), (16, (-1))]), (0, [(8, (-1)), (16, 1)])]) := by
  refine t_okI fun v hr hp => ?_
  obtain ⟨rI, rY, rP, rV, rT, rF, rB, rG, rS, rN, rD, -⟩ := hr
  obtain ⟨p0, p1, p2, p3, p4, p5, p6, p7, p8, p9, p10, p11, p12, p13, p14, p15, p16, p17, p18, p19, p20, p21, p22, p23, p24, p25, p26, p27, p28, p29, -⟩ := hp
  have p0 : 0 ≤ 0 + (1 * v 0 + (0)) := p0
  have p1 : 0 ≤ 650 + ((-1) * v 0 + (0)) := p1
  have p2 : 0 ≤ 0 + (1 * v 1 + (0)) := p2
  have p3 : 0 ≤ 650 + ((-1) * v 1 + (0)) := p3
  have p4 : 0 ≤ 0 + ((-1) * v 1 + (1 * v 6 + (0))) := p4
  have p5 : 0 ≤ 0 + (1 * v 1 + ((-1) * v 6 + (0))) := p5
  have p6 : 0 ≤ (-2) + (1 * v 7 + (0)) := p6
  have p7 : 0 ≤ 2 + ((-1) * v 7 + (0)) := p7
  have p8 : 0 ≤ 0 + (1 * v 2 + (0)) := p8
  have p9 : 0 ≤ 1099511627775 + ((-1) * v 2 + (0)) := p9
  have p10 : 0 ≤ 0 + (1 * v 3 + (0)) := p10
  have p11 : 0 ≤ 6 + ((-1) * v 3 + (0)) := p11
  have p12 : 0 ≤ 0 + (1 * v 4 + (0)) := p12
  have p13 : 0 ≤ 5 + ((-1) * v 4 + (0)) := p13
  have p14 : 0 ≤ 0 + (1 * v 5 + (0)) := p14
  have p15 : 0 ≤ 3 + ((-1) * v 5 + (0)) := p15
  have p16 : 0 ≤ 0 + ((-1) * v 2 + (1 * v 9 + (0))) := p16
  have p17 : 0 ≤ 0 + (1 * v 2 + ((-1) * v 9 + (0))) := p17
  have p18 : 0 ≤ 0 + ((-1) * v 3 + (1 * v 10 + (0))) := p18
  have p19 : 0 ≤ 0 + (1 * v 3 + ((-1) * v 10 + (0))) := p19
  have p20 : 0 ≤ 0 + ((-1) * v 4 + (1 * v 11 + (0))) := p20
  have p21 : 0 ≤ 0 + (1 * v 4 + ((-1) * v 11 + (0))) := p21
  have p22 : 0 ≤ 0 + ((-1) * v 5 + (1 * v 12 + (0))) := p22
  have p23 : 0 ≤ 0 + (1 * v 5 + ((-1) * v 12 + (0))) := p23
  have p24 : 0 ≤ (-1) + ((-1) * v 13 + (0)) := p24
  have p25 : 0 ≤ 2 + ((-1) * v 5 + (0)) := p25
  have p26 : 0 ≤ (-1) + (1 * v 14 + (0)) := p26
  have p27 : 0 ≤ 1 + ((-1) * v 14 + (0)) := p27
  have p28 : 0 ≤ (-3) + ((-1) * v 1 + (1 * v 15 + (0))) := p28
  have p29 : 0 ≤ 3 + (1 * v 1 + ((-1) * v 15 + (0))) := p29
  obtain ⟨nm, hm⟩ : ∃ n : Nat, v 0 = (n : Int) := ⟨(v 0).toNat, by omega⟩
  obtain ⟨ni, hi⟩ : ∃ n : Nat, v 1 = (n : Int) := ⟨(v 1).toNat, by omega⟩
  obtain ⟨nv, hv⟩ : ∃ n : Nat, v 2 = (n : Int) := ⟨(v 2).toNat, by omega⟩
  obtain ⟨nt, ht⟩ : ∃ n : Nat, v 3 = (n : Int) := ⟨(v 3).toNat, by omega⟩
  obtain ⟨nx, hx⟩ : ∃ n : Nat, v 4 = (n : Int) := ⟨(v 4).toNat, by omega⟩
  obtain ⟨nb, hb⟩ : ∃ n : Nat, v 5 = (n : Int) := ⟨(v 5).toNat, by omega⟩
  have rI : ∃ j : Nat, 24178516392292583494123520 + (1 * v 0 + (0)) = (j : Int) ∧ c_gv j (g j) = v 6 := rI
  have eI := t_g20 h nm (by omega) rI (by omega)
  have rY : ∃ j : Nat, 13298184015760920921767936 + (1 * v 1 + (0)) = (j : Int) ∧ c_gv j (g j) = v 7 := rY
  have eY := t_g11 h ni (by omega) rY (by omega)
  have rP : ∃ j : Nat, 43521329506126650289422336 + (1 * v 0 + (0)) = (j : Int) ∧ c_gv j (g j) = v 8 := rP
  have eP := t_g36 h nm (by omega) rP (by omega)
  have rV : ∃ j : Nat, 12089258196146291747061761 + (1 * v 1 + (0)) = (j : Int) ∧ c_gv j (g j) = v 9 := rV
  have eV := t_g10 h (ni+1) (by omega) rV (by omega)
  have rT : ∃ j : Nat, 25387442211907212668829696 + (1 * v 0 + (0)) = (j : Int) ∧ c_gv j (g j) = v 10 := rT
  have eT := t_g21 h nm (by omega) rT (by omega)
  have rF : ∃ j : Nat, 35058848768824246066479104 + (1073741824 * v 2 + (1024 * v 3 + (0))) = (j : Int) ∧ c_gv j (g j) = v 11 := rF
  have eF := t_g29 h 0 nt nv (by omega) (by omega) (by omega) rF (by omega)
  have rB : ∃ j : Nat, 29014219670751100192948224 + (1 * v 0 + (0)) = (j : Int) ∧ c_gv j (g j) = v 12 := rB
  have eB := t_g24 h nm (by omega) rB (by omega)
  have rG : ∃ j : Nat, 38685626227668133590597632 + (1073741824 * v 4 + (1024 * v 5 + (0))) = (j : Int) ∧ c_gv j (g j) = v 13 := rG
  have eG := t_g32 h 0 nb nx (by omega) (by omega) (by omega) rG (by omega)
  have rS : ∃ j : Nat, 19342813113834066795298817 + (1 * v 1 + (0)) = (j : Int) ∧ c_gv j (g j) = v 14 := rS
  have eS := t_g16 h (ni+1) (by omega) rS (by omega)
  have rN : ∃ j : Nat, 21760664753063325144711170 + (1 * v 1 + (0)) = (j : Int) ∧ c_gv j (g j) = v 15 := rN
  have eN := t_g18 h (ni+2) (by omega) rN (by omega)
  have rD : ∃ j : Nat, 20551738933448695970065411 + (1 * v 1 + (0)) = (j : Int) ∧ c_gv j (g j) = v 16 := rD
  have eD := t_g17 h (ni+3) 59 (by omega) (by omega) rD (by omega)
  obtain ⟨s, hs, rfl⟩ := t_ix_s (X := t_tx g) (m := nm) (i := ni) (by omega)
  have cp := t_pt_b (X := t_tx g) (s := s) hs (by omega)
  rw [t_cn_s hs] at eT
  have cx : nt = s.2.1.length := by omega
  subst cx
  rw [t_fd_pre (t_la_pre (t_G_ok h) hs (by omega)).1] at eF
  rw [t_cn_s hs] at eB
  have cb : nb = s.2.2.2.2.length := by omega
  subst cb
  rw [t_fd_pre (t_la_pre (t_G_ok h) hs (by omega)).2.2.2] at eG
  have ceS : t_nam (t_tx g) (s.1 + 1) = true := by
    cases h9 : t_nam (t_tx g) (s.1 + 1) with
    | true => rfl
    | false =>
      exfalso
      rw [h9] at eS
      have eS : v 14 = 0 := eS
      omega
  have deS := t_nam_iff.mp ceS
  unfold t_nb at eN
  have cn : t_k (t_tx g) (s.1 + 2) = 2 ∧ t_v (t_tx g) (s.1 + 2) ≤ 11 := by
    by_cases h9 : t_k (t_tx g) (s.1 + 2) = 2 ∧ t_v (t_tx g) (s.1 + 2) ≤ 11
    · exact h9
    · rw [if_neg h9] at eN
      omega
  have ca : t_at0 s.2.1 (t_v (t_tx g) (s.1 + 1)) 0 = (nx : Int) := by
    rw [show t_v (t_tx g) (s.1 + 1) = (nv : Int) by omega]
    omega
  rw [t_need_is] at eD
  have eD : v 16 = if t_k (t_tx g) (s.1 + 3) = 3 ∧ t_v (t_tx g) (s.1 + 3) = 59 then ((s.1 + 3 : Nat) : Int) + 1 else -1 := eD
  have key : v 8 = v 16 := by
    by_cases h9 : t_k (t_tx g) (s.1 + 3) = 3 ∧ t_v (t_tx g) (s.1 + 3) = 59
    · rw [if_pos ⟨by omega, ceS, by omega, by rw [ca]; omega, cn.1, cn.2, t_sg_iff.mpr h9⟩] at cp
      rw [if_pos h9] at eD
      omega
    · rw [if_neg (fun h8 => h9 (t_sg_iff.mp h8.2.2.2.2.2.2))] at cp
      rw [if_neg h9] at eD
      omega
  exact ⟨(by show 0 ≤ 0 + (1 * v 8 + ((-1) * v 16 + (0))); omega), (by show 0 ≤ 0 + ((-1) * v 8 + (1 * v 16 + (0))); omega), trivial⟩
-- ix0
theorem t_q162 {g : Nat → Int} (h : t_G g) : t_ok g 0 ([(24178516392292583494123520, []), (25387442211907212668829696, []), (26596368031521841843535872, []), (27805293851136471018242048, []), (29014219670751100192948224, [])], [], [(0, [(0, 1)]), (0, [(0, (-1))]), (0, [(1, 1)]), (0, [(1, (-1))]), (0, [(2, 1)]), (0, [(2, (-1))]), (0, [(3, 1)]), (0, [(3, (-1))]), (0, [(4, 1)]), (0, [(4, (-1))])]) := by
  refine t_okI fun v hr hp => ?_
  obtain ⟨rI, rA, rB, rC, rD, -⟩ := hr
  have rI : ∃ j : Nat, 24178516392292583494123520 + (0) = (j : Int) ∧ c_gv j (g j) = v 0 := rI
  have eI := t_g20 h 0 (by omega) rI (by omega)
  have rA : ∃ j : Nat, 25387442211907212668829696 + (0) = (j : Int) ∧ c_gv j (g j) = v 1 := rA
  have eA := t_g21 h 0 (by omega) rA (by omega)
  have rB : ∃ j : Nat, 26596368031521841843535872 + (0) = (j : Int) ∧ c_gv j (g j) = v 2 := rB
  have eB := t_g22 h 0 (by omega) rB (by omega)
  have rC : ∃ j : Nat, 27805293851136471018242048 + (0) = (j : Int) ∧ c_gv j (g j) = v 3 := rC
  have eC := t_g23 h 0 (by omega) rC (by omega)
  have rD : ∃ j : Nat, 29014219670751100192948224 + (0) = (j : Int) ∧ c_gv j (g j) = v 4 := rD
  have eD := t_g24 h 0 (by omega) rD (by omega)
  have c1 : t_ix (t_tx g) 0 = 0 := rfl
  have c2 : t_cn (fun s => s.2.1) (t_tx g) 0 = 0 := rfl
  have c3 : t_cn (fun s => s.2.2.1) (t_tx g) 0 = 0 := rfl
  have c4 : t_cn (fun s => s.2.2.2.1) (t_tx g) 0 = 0 := rfl
  have c5 : t_cn (fun s => s.2.2.2.2) (t_tx g) 0 = 0 := rfl
  exact ⟨(by show 0 ≤ 0 + (1 * v 0 + (0)); omega), (by show 0 ≤ 0 + ((-1) * v 0 + (0)); omega), (by show 0 ≤ 0 + (1 * v 1 + (0)); omega), (by show 0 ≤ 0 + ((-1) * v 1 + (0)); omega), (by show 0 ≤ 0 + (1 * v 2 + (0)); omega), (by show 0 ≤ 0 + ((-1) * v 2 + (0)); omega), (by show 0 ≤ 0 + (1 * v 3 + (0)); omega), (by show 0 ≤ 0 + ((-1) * v 3 + (0)); omega), (by show 0 ≤ 0 + (1 * v 4 + (0)); omega), (by show 0 ≤ 0 + ((-1) * v 4 + (0)); omega), trivial⟩
-- ix1
theorem t_q163 {g : Nat → Int} (h : t_G g) : t_ok g 2 ([(24178516392292583494123520, [(0, 1)]), (9671406556917033397649408, [(1, 1)]), (43521329506126650289422336, [(0, 1)]), (24178516392292583494123521, [(0, 1)])], [(0, [(0, 1)]), (650, [(0, (-1))]), (0, [(1, 1)]), (650, [(1, (-1))]), (0, [(1, (-1)), (2, 1)]), (0, [(1, 1), (2, (-1))]), ((-1), [(3, 1)])], [(0, [(4, (-1)), (5, 1)]), (0, [(4, 1), (5, (-1))])]) := by
  refine t_okI fun v hr hp => ?_
  obtain ⟨rI, rK, rP, rJ, -⟩ := hr
  obtain ⟨p0, p1, p2, p3, p4, p5, p6, -⟩ := hp
  have p0 : 0 ≤ 0 + (1 * v 0 + (0)) := p0
  have p1 : 0 ≤ 650 + ((-1) * v 0 + (0)) := p1
  have p2 : 0 ≤ 0 + (1 * v 1 + (0)) := p2
  have p3 : 0 ≤ 650 + ((-1) * v 1 + (0)) := p3
  have p4 : 0 ≤ 0 + ((-1) * v 1 + (1 * v 2 + (0))) := p4
  have p5 : 0 ≤ 0 + (1 * v 1 + ((-1) * v 2 + (0))) := p5
  have p6 : 0 ≤ (-1) + (1 * v 3 + (0)) := p6
  obtain ⟨nm, hm⟩ : ∃ n : Nat, v 0 = (n : Int) := ⟨(v 0).toNat, by omega⟩
  obtain ⟨ni, hi⟩ : ∃ n : Nat, v 1 = (n : Int) := ⟨(v 1).toNat, by omega⟩
  have rI : ∃ j : Nat, 24178516392292583494123520 + (1 * v 0 + (0)) = (j : Int) ∧ c_gv j (g j) = v 2 := rI
  have eI := t_g20 h nm (by omega) rI (by omega)
  have rK : ∃ j : Nat, 9671406556917033397649408 + (1 * v 1 + (0)) = (j : Int) ∧ c_gv j (g j) = v 3 := rK
  have eK := t_g8 h ni (by omega) rK (by omega)
  have rP : ∃ j : Nat, 43521329506126650289422336 + (1 * v 0 + (0)) = (j : Int) ∧ c_gv j (g j) = v 4 := rP
  have eP := t_g36 h nm (by omega) rP (by omega)
  have rJ : ∃ j : Nat, 24178516392292583494123521 + (1 * v 0 + (0)) = (j : Int) ∧ c_gv j (g j) = v 5 := rJ
  have eJ := t_g20 h (nm+1) (by omega) rJ (by omega)
  obtain ⟨s, hs, rfl⟩ := t_ix_s (X := t_tx g) (m := nm) (i := ni) (by omega)
  have c := t_ix_nx (X := t_tx g) hs (by omega)
  exact ⟨(by show 0 ≤ 0 + ((-1) * v 4 + (1 * v 5 + (0))); omega), (by show 0 ≤ 0 + (1 * v 4 + ((-1) * v 5 + (0))); omega), trivial⟩
