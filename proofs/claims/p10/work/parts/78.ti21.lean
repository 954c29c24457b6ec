/-! rules on the tables, each with its proof (printed by gen_rul.py) -/
-- ptE1
theorem t_q155 {g : Nat → Int} (h : t_G g) : t_ok g 2 ([(24178516392292583494123520, [(0, 1)]), (13298184015760920921767936, [(1, 1)]), (43521329506126650289422336, [(0, 1)])], [(0, [(0, 1)]), (650, [(0, (-1))]), (0, [(1, 1)]), (650, [(1, (-1))]), (0, [(1, (-1)), (2, 1)]), (0, [(1, 1), (2, (-1))]), ((-4), [(3, 1)])], [(1, [(4, 1)]), ((-1), [(4, (-1))])]) := by
  refine t_okI fun v hr hp => ?_
  obtain ⟨rI, rY, rP, -⟩ := hr
  obtain ⟨p0, p1, p2, p3, p4, p5, p6, -⟩ := hp
  have p0 : 0 ≤ 0 + (1 * v 0 + (0)) := p0
  have p1 : 0 ≤ 650 + ((-1) * v 0 + (0)) := p1
  have p2 : 0 ≤ 0 + (1 * v 1 + (0)) := p2
  have p3 : 0 ≤ 650 + ((-1) * v 1 + (0)) := p3
  have p4 : 0 ≤ 0 + ((-1) * v 1 + (1 * v 2 + (0))) := p4
  have p5 : 0 ≤ 0 + (1 * v 1 + ((-1) * v 2 + (0))) := p5
  have p6 : 0 ≤ (-4) + (1 * v 3 + (0)) := p6
  obtain ⟨nm, hm⟩ : ∃ n : Nat, v 0 = (n : Int) := ⟨(v 0).toNat, by omega⟩
  obtain ⟨ni, hi⟩ : ∃ n : Nat, v 1 = (n : Int) := ⟨(v 1).toNat, by omega⟩
  have rI : ∃ j : Nat, 24178516392292583494123520 + (1 * v 0 + (0)) = (j : Int) ∧ c_gv j (g j) = v 2 := rI
  have eI := t_g20 h nm (by omega) rI (by omega)
  have rY : ∃ j : Nat, 13298184015760920921767936 + (1 * v 1 + (0)) = (j : Int) ∧ c_gv j (g j) = v 3 := rY
  have eY := t_g11 h ni (by omega) rY (by omega)
  have rP : ∃ j : Nat, 43521329506126650289422336 + (1 * v 0 + (0)) = (j : Int) ∧ c_gv j (g j) = v 4 := rP
  have eP := t_g36 h nm (by omega) rP (by omega)
  obtain ⟨s, hs, rfl⟩ := t_ix_s (X := t_tx g) (m := nm) (i := ni) (by omega)
  have cp := t_pt_e (X := t_tx g) hs (by omega)
  exact ⟨(by show 0 ≤ 1 + (1 * v 4 + (0)); omega), (by show 0 ≤ (-1) + ((-1) * v 4 + (0)); omega), trivial⟩
-- pb1
theorem t_q156 {g : Nat → Int} (h : t_G g) : t_ok g 2 ([(24178516392292583494123520, [(0, 1)]), (13298184015760920921767936, [(1, 1)]), (43521329506126650289422336, [(0, 1)]), (29014219670751100192948224, [(0, 1)])], [(0, [(0, 1)]), (650, [(0, (-1))]), (0, [(1, 1)]), (650, [(1, (-1))]), (0, [(1, (-1)), (2, 1)]), (0, [(1, 1), (2, (-1))]), ((-2), [(3, 1)]), (2, [(3, (-1))]), ((-3), [(5, 1)])], [(1, [(4, 1)]), ((-1), [(4, (-1))])]) := by
  refine t_okI fun v hr hp => ?_
  obtain ⟨rI, rY, rP, rB, -⟩ := hr
  obtain ⟨p0, p1, p2, p3, p4, p5, p6, p7, p8, -⟩ := hp
  have p0 : 0 ≤ 0 + (1 * v 0 + (0)) := p0
  have p1 : 0 ≤ 650 + ((-1) * v 0 + (0)) := p1
  have p2 : 0 ≤ 0 + (1 * v 1 + (0)) := p2
  have p3 : 0 ≤ 650 + ((-1) * v 1 + (0)) := p3
  have p4 : 0 ≤ 0 + ((-1) * v 1 + (1 * v 2 + (0))) := p4
  have p5 : 0 ≤ 0 + (1 * v 1 + ((-1) * v 2 + (0))) := p5
  have p6 : 0 ≤ (-2) + (1 * v 3 + (0)) := p6
  have p7 : 0 ≤ 2 + ((-1) * v 3 + (0)) := p7
  have p8 : 0 ≤ (-3) + (1 * v 5 + (0)) := p8
  obtain ⟨nm, hm⟩ : ∃ n : Nat, v 0 = (n : Int) := ⟨(v 0).toNat, by omega⟩
  obtain ⟨ni, hi⟩ : ∃ n : Nat, v 1 = (n : Int) := ⟨(v 1).toNat, by omega⟩
  have rI : ∃ j : Nat, 24178516392292583494123520 + (1 * v 0 + (0)) = (j : Int) ∧ c_gv j (g j) = v 2 := rI
  have eI := t_g20 h nm (by omega) rI (by omega)
  have rY : ∃ j : Nat, 13298184015760920921767936 + (1 * v 1 + (0)) = (j : Int) ∧ c_gv j (g j) = v 3 := rY
  have eY := t_g11 h ni (by omega) rY (by omega)
  have rP : ∃ j : Nat, 43521329506126650289422336 + (1 * v 0 + (0)) = (j : Int) ∧ c_gv j (g j) = v 4 := rP
  have eP := t_g36 h nm (by omega) rP (by omega)
  have rB : ∃ j : Nat, 29014219670751100192948224 + (1 * v 0 + (0)) = (j : Int) ∧ c_gv j (g j) = v 5 := rB
  have eB := t_g24 h nm (by omega) rB (by omega)
  obtain ⟨s, hs, rfl⟩ := t_ix_s (X := t_tx g) (m := nm) (i := ni) (by omega)
  have cp := t_pt_b (X := t_tx g) (s := s) hs (by omega)
  rw [t_cn_s hs] at eB
  rw [if_neg (fun h9 => by have h8 := h9.1; omega)] at cp
  exact ⟨(by show 0 ≤ 1 + (1 * v 4 + (0)); omega), (by show 0 ≤ (-1) + ((-1) * v 4 + (0)); omega), trivial⟩
-- pb2
theorem t_q157 {g : Nat → Int} (h : t_G g) : t_ok g 2 ([(24178516392292583494123520, [(0, 1)]), (13298184015760920921767936, [(1, 1)]), (43521329506126650289422336, [(0, 1)]), (19342813113834066795298817, [(1, 1)])], [(0, [(0, 1)]), (650, [(0, (-1))]), (0, [(1, 1)]), (650, [(1, (-1))]), (0, [(1, (-1)), (2, 1)]), (0, [(1, 1), (2, (-1))]), ((-2), [(3, 1)]), (2, [(3, (-1))]), (0, [(5, 1)]), (0, [(5, (-1))])], [(1, [(4, 1)]), ((-1), [(4, (-1))])]) := by
  refine t_okI fun v hr hp => ?_
  obtain ⟨rI, rY, rP, rS, -⟩ := hr
  obtain ⟨p0, p1, p2, p3, p4, p5, p6, p7, p8, p9, -⟩ := hp
  have p0 : 0 ≤ 0 + (1 * v 0 + (0)) := p0
  have p1 : 0 ≤ 650 + ((-1) * v 0 + (0)) := p1
  have p2 : 0 ≤ 0 + (1 * v 1 + (0)) := p2
  have p3 : 0 ≤ 650 + ((-1) * v 1 + (0)) := p3
  have p4 : 0 ≤ 0 + ((-1) * v 1 + (1 * v 2 + (0))) := p4
  have p5 : 0 ≤ 0 + (1 * v 1 + ((-1) * v 2 + (0))) := p5
  have p6 : 0 ≤ (-2) + (1 * v 3 + (0)) := p6
  have p7 : 0 ≤ 2 + ((-1) * v 3 + (0)) := p7
  have p8 : 0 ≤ 0 + (1 * v 5 + (0)) := p8
  have p9 : 0 ≤ 0 + ((-1) * v 5 + (0)) := p9
  obtain ⟨nm, hm⟩ : ∃ n : Nat, v 0 = (n : Int) := ⟨(v 0).toNat, by omega⟩
  obtain ⟨ni, hi⟩ : ∃ n : Nat, v 1 = (n : Int) := ⟨(v 1).toNat, by omega⟩
  have rI : ∃ j : Nat, 24178516392292583494123520 + (1 * v 0 + (0)) = (j : Int) ∧ c_gv j (g j) = v 2 := rI
  have eI := t_g20 h nm (by omega) rI (by omega)
  have rY : ∃ j : Nat, 13298184015760920921767936 + (1 * v 1 + (0)) = (j : Int) ∧ c_gv j (g j) = v 3 := rY
  have eY := t_g11 h ni (by omega) rY (by omega)
  have rP : ∃ j : Nat, 43521329506126650289422336 + (1 * v 0 + (0)) = (j : Int) ∧ c_gv j (g j) = v 4 := rP
  have eP := t_g36 h nm (by omega) rP (by omega)
  have rS : ∃ j : Nat, 19342813113834066795298817 + (1 * v 1 + (0)) = (j : Int) ∧ c_gv j (g j) = v 5 := rS
  have eS := t_g16 h (ni+1) (by omega) rS (by omega)
  obtain ⟨s, hs, rfl⟩ := t_ix_s (X := t_tx g) (m := nm) (i := ni) (by omega)
  have cp := t_pt_b (X := t_tx g) (s := s) hs (by omega)
  have ceS : t_nam (t_tx g) (s.1 + 1) = false := by
    cases h9 : t_nam (t_tx g) (s.1 + 1) with
    | false => rfl
    | true =>
      exfalso
      rw [h9] at eS
      have eS : v 5 = 1 := eS
      omega
  have deS : ¬(t_nam (t_tx g) (s.1 + 1) = true) := by rw [ceS]; exact Bool.false_ne_true
  rw [t_nam_iff] at deS
  rw [if_neg (fun h9 => by have h8 := h9.2.1; rw [ceS] at h8; cases h8)] at cp
  exact ⟨(by show 0 ≤ 1 + (1 * v 4 + (0)); omega), (by show 0 ≤ (-1) + ((-1) * v 4 + (0)); omega), trivial⟩
-- pb3
theorem t_q158 {g : Nat → Int} (h : t_G g) : t_ok g 4 ([(24178516392292583494123520, [(0, 1)]), (13298184015760920921767936, [(1, 1)]), (43521329506126650289422336, [(0, 1)]), (12089258196146291747061761, [(1, 1)]), (25387442211907212668829696, [(0, 1)]), (35058848768824246066479104, [(2, 1073741824), (3, 1024)])], [(0, [(0, 1)]), (650, [(0, (-1))]), (0, [(1, 1)]), (650, [(1, (-1))]), (0, [(1, (-1)), (4, 1)]), (0, [(1, 1), (4, (-1))]), ((-2), [(5, 1)]), (2, [(5, (-1))]), (0, [(2, 1)]), (1099511627775, [(2, (-1))]), (0, [(3, 1)]), (6, [(3, (-1))]), (0, [(2, (-1)), (7, 1)]), (0, [(2, 1), (7, (-1))]), (0, [(3, (-1)), (8, 1)]), (0, [(3, 1), (8, (-1))]), ((-1), [(9, (-1))])], [(1, [(6, 1)]), ((-1), [(6, (-1))])]) := by
  refine t_okI fun v hr hp => ?_
  obtain ⟨rI, rY, rP, rV, rT, rF, -⟩ := hr
  obtain ⟨p0, p1, p2, p3, p4, p5, p6, p7, p8, p9, p10, p11, p12, p13, p14, p15, p16, -⟩ := hp
  have p0 : 0 ≤ 0 + (1 * v 0 + (0)) := p0
  have p1 : 0 ≤ 650 + ((-1) * v 0 + (0)) := p1
  have p2 : 0 ≤ 0 + (1 * v 1 + (0)) := p2
  have p3 : 0 ≤ 650 + ((-1) * v 1 + (0)) := p3
  have p4 : 0 ≤ 0 + ((-1) * v 1 + (1 * v 4 + (0))) := p4
  have p5 : 0 ≤ 0 + (1 * v 1 + ((-1) * v 4 + (0))) := p5
  have p6 : 0 ≤ (-2) + (1 * v 5 + (0)) := p6
  have p7 : 0 ≤ 2 + ((-1) * v 5 + (0)) := p7
  have p8 : 0 ≤ 0 + (1 * v 2 + (0)) := p8
  have p9 : 0 ≤ 1099511627775 + ((-1) * v 2 + (0)) := p9
  have p10 : 0 ≤ 0 + (1 * v 3 + (0)) := p10
  have p11 : 0 ≤ 6 + ((-1) * v 3 + (0)) := p11
  have p12 : 0 ≤ 0 + ((-1) * v 2 + (1 * v 7 + (0))) := p12
  have p13 : 0 ≤ 0 + (1 * v 2 + ((-1) * v 7 + (0))) := p13
  have p14 : 0 ≤ 0 + ((-1) * v 3 + (1 * v 8 + (0))) := p14
  have p15 : 0 ≤ 0 + (1 * v 3 + ((-1) * v 8 + (0))) := p15
  have p16 : 0 ≤ (-1) + ((-1) * v 9 + (0)) := p16
  obtain ⟨nm, hm⟩ : ∃ n : Nat, v 0 = (n : Int) := ⟨(v 0).toNat, by omega⟩
  obtain ⟨ni, hi⟩ : ∃ n : Nat, v 1 = (n : Int) := ⟨(v 1).toNat, by omega⟩
  obtain ⟨nv, hv⟩ : ∃ n : Nat, v 2 = (n : Int) := ⟨(v 2).toNat, by omega⟩
  obtain ⟨nt, ht⟩ : ∃ n : Nat, v 3 = (n : Int) := ⟨(v 3).toNat, by omega⟩
  have rI : ∃ j : Nat, 24178516392292583494123520 + (1 * v 0 + (0)) = (j : Int) ∧ c_gv j (g j) = v 4 := rI
  have eI := t_g20 h nm (by omega) rI (by omega)
  have rY : ∃ j : Nat, 13298184015760920921767936 + (1 * v 1 + (0)) = (j : Int) ∧ c_gv j (g j) = v 5 := rY
  have eY := t_g11 h ni (by omega) rY (by omega)
  have rP : ∃ j : Nat, 43521329506126650289422336 + (1 * v 0 + (0)) = (j : Int) ∧ c_gv j (g j) = v 6 := rP
  have eP := t_g36 h nm (by omega) rP (by omega)
  have rV : ∃ j : Nat, 12089258196146291747061761 + (1 * v 1 + (0)) = (j : Int) ∧ c_gv j (g j) = v 7 := rV
  have eV := t_g10 h (ni+1) (by omega) rV (by omega)
  have rT : ∃ j : Nat, 25387442211907212668829696 + (1 * v 0 + (0)) = (j : Int) ∧ c_gv j (g j) = v 8 := rT
  have eT := t_g21 h nm (by omega) rT (by omega)
  have rF : ∃ j : Nat, 35058848768824246066479104 + (1073741824 * v 2 + (1024 * v 3 + (0))) = (j : Int) ∧ c_gv j (g j) = v 9 := rF
  have eF := t_g29 h 0 nt nv (by omega) (by omega) (by omega) rF (by omega)
  obtain ⟨s, hs, rfl⟩ := t_ix_s (X := t_tx g) (m := nm) (i := ni) (by omega)
  have cp := t_pt_b (X := t_tx g) (s := s) hs (by omega)
  rw [t_cn_s hs] at eT
  have cx : nt = s.2.1.length := by omega
  subst cx
  rw [t_fd_pre (t_la_pre (t_G_ok h) hs (by omega)).1] at eF
  rw [if_neg (fun h9 => by have h8 := h9.2.2.1; rw [show t_v (t_tx g) (s.1 + 1) = (nv : Int) by omega] at h8; omega)] at cp
  exact ⟨(by show 0 ≤ 1 + (1 * v 6 + (0)); omega), (by show 0 ≤ (-1) + ((-1) * v 6 + (0)); omega), trivial⟩
-- pb4
set_option maxHeartbeats 4000000 in
theorem t_q159 {g : Nat → Int} (h : t_G g) : t_ok g 6 ([(24178516392292583494123520, [(0, 1)]), (13298184015760920921767936, [(1, 1)]), (43521329506126650289422336, [(0, 1)]), (12089258196146291747061761, [(1, 1)]), (25387442211907212668829696, [(0, 1)]), (35058848768824246066479104, [(2, 1073741824), (3, 1024)]), (29014219670751100192948224, [(0, 1)]), (38685626227668133590597632, [(4, 1073741824), (5, 1024)])], [(0, [(0, 1)]), (650, [(0, (-1))]), (0, [(1, 1)]), (650, [(1, (-1))]), (0, [(1, (-1)), (6, 1)]), (0, [(1, 1), (6, (-1))]), ((-2), [(7, 1)]), (2, [(7, (-1))]), (0, [(2, 1)]), (1099511627775, [(2, (-1))]), (0, [(3, 1)]), (6, [(3, (-1))]), (0, [(4, 1)]), (5, [(4, (-1))]), (0, [(5, 1)]), (3, [(5, (-1))]), (0, [(2, (-1)), (9, 1)]), (0, [(2, 1), (9, (-1))]), (0, [(3, (-1)), (10, 1)]), (0, [(3, 1), (10, (-1))]), (0, [(4, (-1)), (11, 1)]), (0, [(4, 1), (11, (-1))]), (0, [(5, (-1)), (12, 1)]), (0, [(5, 1), (12, (-1))]), (0, [(13, 1)])], [(1, [(8, 1)]), ((-1), [(8, (-1))])]) := by
  refine t_okI fun v hr hp => ?_
  obtain ⟨rI, rY, rP, rV, rT, rF, rB, rG, -⟩ := hr
  obtain ⟨p0, p1, p2, p3, p4, p5, p6, p7, p8, p9, p10, p11, p12, p13, p14, p15, p16, p17, p18, p19, p20, p21, p22, p23, p24, -⟩ := hp
  have p0 : 0 ≤ 0 + (1 * v 0 + (0)) := p0
  have p1 : 0 ≤ 650 + ((-1) * v 0 + (0)) := p1
  have p2 : 0 ≤ 0 + (1 * v 1 + (0)) := p2
  have p3 : 0 ≤ 650 + ((-1) * v 1 + (0)) := p3
  have p4 : 0 ≤ 0 + ((-1) * v 1 + (1 * v 6 + (0))) := p4
  have p5 : 0 ≤ 0 + (1 * v 1 + ((-1) * v 6 + (0))) := p5
  have p6 : 0 ≤ (-2) + (1 * v 7 + (0)) := p6
  have p7 : 0 ≤ 2 + ((-1) * v 7 + (0)) := p7
  have p8 : 0 ≤ 0 + (1 * v 2 + (0)) := p8
  have p9 : 0 ≤ 1099511627775 + ((-1) * v 2 + (0)) := p9
  have p10 : 0 ≤ 0 + (1 * v 3 + (0)) := p10
  have p11 : 0 ≤ 6 + ((-1) * v 3 + (0)) := p11
  have p12 : 0 ≤ 0 + (1 * v 4 + (0)) := p12
  have p13 : 0 ≤ 5 + ((-1) * v 4 + (0)) := p13
  have p14 : 0 ≤ 0 + (1 * v 5 + (0)) := p14
  have p15 : 0 ≤ 3 + ((-1) * v 5 + (0)) := p15
  have p16 : 0 ≤ 0 + ((-1) * v 2 + (1 * v 9 + (0))) := p16
  have p17 : 0 ≤ 0 + (1 * v 2 + ((-1) * v 9 + (0))) := p17
  have p18 : 0 ≤ 0 + ((-1) * v 3 + (1 * v 10 + (0))) := p18
  have p19 : 0 ≤ 0 + (1 * v 3 + ((-1) * v 10 + (0))) := p19
  have p20 : 0 ≤ 0 + ((-1) * v 4 + (1 * v 11 + (0))) := p20
  have p21 : 0 ≤ 0 + (1 * v 4 + ((-1) * v 11 + (0))) := p21
  have p22 : 0 ≤ 0 + ((-1) * v 5 + (1 * v 12 + (0))) := p22
  have p23 : 0 ≤ 0 + (1 * v 5 + ((-1) * v 12 + (0))) := p23
  have p24 : 0 ≤ 0 + (1 * v 13 + (0)) := p24
  obtain ⟨nm, hm⟩ : ∃ n : Nat, v 0 = (n : Int) := ⟨(v 0).toNat, by omega⟩
  obtain ⟨ni, hi⟩ : ∃ n : Nat, v 1 = (n : Int) := ⟨(v 1).toNat, by omega⟩
  obtain ⟨nv, hv⟩ : ∃ n : Nat, v 2 = (n : Int) := ⟨(v 2).toNat, by omega⟩
  obtain ⟨nt, ht⟩ : ∃ n : Nat, v 3 = (n : Int) := ⟨(v 3).toNat, by omega⟩
  obtain ⟨nx, hx⟩ : ∃ n : Nat, v 4 = (n : Int) := ⟨(v 4).toNat, by omega⟩
  obtain ⟨nb, hb⟩ : ∃ n : Nat, v 5 = (n : Int) := ⟨(v 5).toNat, by omega⟩
  have rI : ∃ j : Nat, 24178516392292583494123520 + (1 * v 0 + (0)) = (j : Int) ∧ c_gv j (g j) = v 6 := rI
  have eI := t_g20 h nm (by omega) rI (by omega)
  have rY : ∃ j : Nat, 13298184015760920921767936 + (1 * v 1 + (0)) = (j : Int) ∧ c_gv j (g j) = v 7 := rY
  have eY := t_g11 h ni (by omega) rY (by omega)
  have rP : ∃ j : Nat, 43521329506126650289422336 + (1 * v 0 + (0)) = (j : Int) ∧ c_gv j (g j) = v 8 := rP
  have eP := t_g36 h nm (by omega) rP (by omega)
  have rV : ∃ j : Nat, 12089258196146291747061761 + (1 * v 1 + (0)) = (j : Int) ∧ c_gv j (g j) = v 9 := rV
  have eV := t_g10 h (ni+1) (by omega) rV (by omega)
  have rT : ∃ j : Nat, 25387442211907212668829696 + (1 * v 0 + (0)) = (j : Int) ∧ c_gv j (g j) = v 10 := rT
  have eT := t_g21 h nm (by omega) rT (by omega)
  have rF : ∃ j : Nat, 35058848768824246066479104 + (1073741824 * v 2 + (1024 * v 3 + (0))) = (j : Int) ∧ c_gv j (g j) = v 11 := rF
  have eF := t_g29 h 0 nt nv (by omega) (by omega) (by omega) rF (by omega)
  have rB : ∃ j : Nat, 29014219670751100192948224 + (1 * v 0 + (0)) = (j : Int) ∧ c_gv j (g j) = v 12 := rB
  have eB := t_g24 h nm (by omega) rB (by omega)
  have rG : ∃ j : Nat, 38685626227668133590597632 + (1073741824 * v 4 + (1024 * v 5 + (0))) = (j : Int) ∧ c_gv j (g j) = v 13 := rG
  have eG := t_g32 h 0 nb nx (by omega) (by omega) (by omega) rG (by omega)
  obtain ⟨s, hs, rfl⟩ := t_ix_s (X := t_tx g) (m := nm) (i := ni) (by omega)
  have cp := t_pt_b (X := t_tx g) (s := s) hs (by omega)
  rw [t_cn_s hs] at eT
  have cx : nt = s.2.1.length := by omega
  subst cx
  rw [t_fd_pre (t_la_pre (t_G_ok h) hs (by omega)).1] at eF
  rw [t_cn_s hs] at eB
  have cb : nb = s.2.2.2.2.length := by omega
  subst cb
  rw [t_fd_pre (t_la_pre (t_G_ok h) hs (by omega)).2.2.2] at eG
  rw [if_neg (fun h9 => by have h8 := h9.2.2.2.1; rw [show t_v (t_tx g) (s.1 + 1) = (nv : Int) by omega, show t_at0 s.2.1 (nv : Int) 0 = (nx : Int) by omega] at h8; omega)] at cp
  exact ⟨(by show 0 ≤ 1 + (1 * v 8 + (0)); omega), (by show 0 ≤ (-1) + ((-1) * v 8 + (0)); omega), trivial⟩
-- pb5
theorem t_q160 {g : Nat → Int} (h : t_G g) : t_ok g 2 ([(24178516392292583494123520, [(0, 1)]), (13298184015760920921767936, [(1, 1)]), (43521329506126650289422336, [(0, 1)]), (21760664753063325144711170, [(1, 1)])], [(0, [(0, 1)]), (650, [(0, (-1))]), (0, [(1, 1)]), (650, [(1, (-1))]), (0, [(1, (-1)), (2, 1)]), (0, [(1, 1), (2, (-1))]), ((-2), [(3, 1)]), (2, [(3, (-1))]), (1, [(5, 1)]), ((-1), [(5, (-1))])], [(1, [(4, 1)]), ((-1), [(4, (-1))])]) := by
  refine t_okI fun v hr hp => ?_
  obtain ⟨rI, rY, rP, rN, -⟩ := hr
  obtain ⟨p0, p1, p2, p3, p4, p5, p6, p7, p8, p9, -⟩ := hp
  have p0 : 0 ≤ 0 + (1 * v 0 + (0)) := p0
  have p1 : 0 ≤ 650 + ((-1) * v 0 + (0)) := p1
  have p2 : 0 ≤ 0 + (1 * v 1 + (0)) := p2
  have p3 : 0 ≤ 650 + ((-1) * v 1 + (0)) := p3
  have p4 : 0 ≤ 0 + ((-1) * v 1 + (1 * v 2 + (0))) := p4
  have p5 : 0 ≤ 0 + (1 * v 1 + ((-1) * v 2 + (0))) := p5
  have p6 : 0 ≤ (-2) + (1 * v 3 + (0)) := p6
  have p7 : 0 ≤ 2 + ((-1) * v 3 + (0)) := p7
  have p8 : 0 ≤ 1 + (1 * v 5 + (0)) := p8
  have p9 : 0 ≤ (-1) + ((-1) * v 5 + (0)) := p9
  obtain ⟨nm, hm⟩ : ∃ n : Nat, v 0 = (n : Int) := ⟨(v 0).toNat, by omega⟩
  obtain ⟨ni, hi⟩ : ∃ n : Nat, v 1 = (n : Int) := ⟨(v 1).toNat, by omega⟩
  have rI : ∃ j : Nat, 24178516392292583494123520 + (1 * v 0 + (0)) = (j : Int) ∧ c_gv j (g j) = v 2 := rI
  have eI := t_g20 h nm (by omega) rI (by omega)
  have rY : ∃ j : Nat, 13298184015760920921767936 + (1 * v 1 + (0)) = (j : Int) ∧ c_gv j (g j) = v 3 := rY
  have eY := t_g11 h ni (by omega) rY (by omega)
  have rP : ∃ j : Nat, 43521329506126650289422336 + (1 * v 0 + (0)) = (j : Int) ∧ c_gv j (g j) = v 4 := rP
  have eP := t_g36 h nm (by omega) rP (by omega)
  have rN : ∃ j : Nat, 21760664753063325144711170 + (1 * v 1 + (0)) = (j : Int) ∧ c_gv j (g j) = v 5 := rN
  have eN := t_g18 h (ni+2) (by omega) rN (by omega)
  obtain ⟨s, hs, rfl⟩ := t_ix_s (X := t_tx g) (m := nm) (i := ni) (by omega)
  have cp := t_pt_b (X := t_tx g) (s := s) hs (by omega)
  unfold t_nb at eN
  rw [if_neg (fun h9 => by have h7 := h9.2.2.2.2.1; have h8 := h9.2.2.2.2.2.1; rw [if_pos ⟨h7, h8⟩] at eN; omega)] at cp
  exact ⟨(by show 0 ≤ 1 + (1 * v 4 + (0)); omega), (by show 0 ≤ (-1) + ((-1) * v 4 + (0)); omega), trivial⟩
