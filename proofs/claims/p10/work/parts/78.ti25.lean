/-! rules on the tables, each with its proof (printed by gen_rul.py) -/
-- ansE
theorem t_q168 {g : Nat → Int} (h : t_G g) : t_ok g 2 ([(24178516392292583494123520, [(0, 1)]), (9671406556917033397649408, [(1, 1)]), (25387442211907212668829696, [(0, 1)]), (39894552047282762765303808, [])], [(0, [(0, 1)]), (650, [(0, (-1))]), (0, [(1, 1)]), (650, [(1, (-1))]), (0, [(1, (-1)), (2, 1)]), (0, [(1, 1), (2, (-1))]), (0, [(3, 1)]), (0, [(3, (-1))])], [(0, [(4, (-1)), (5, 1)]), (0, [(4, 1), (5, (-1))])]) := by
  refine t_okI fun v hr hp => ?_
  obtain ⟨rI, rK, rA, rZ, -⟩ := hr
  obtain ⟨p0, p1, p2, p3, p4, p5, p6, p7, -⟩ := hp
  have p0 : 0 ≤ 0 + (1 * v 0 + (0)) := p0
  have p1 : 0 ≤ 650 + ((-1) * v 0 + (0)) := p1
  have p2 : 0 ≤ 0 + (1 * v 1 + (0)) := p2
  have p3 : 0 ≤ 650 + ((-1) * v 1 + (0)) := p3
  have p4 : 0 ≤ 0 + ((-1) * v 1 + (1 * v 2 + (0))) := p4
  have p5 : 0 ≤ 0 + (1 * v 1 + ((-1) * v 2 + (0))) := p5
  have p6 : 0 ≤ 0 + (1 * v 3 + (0)) := p6
  have p7 : 0 ≤ 0 + ((-1) * v 3 + (0)) := p7
  obtain ⟨nm, hm⟩ : ∃ n : Nat, v 0 = (n : Int) := ⟨(v 0).toNat, by omega⟩
  obtain ⟨ni, hi⟩ : ∃ n : Nat, v 1 = (n : Int) := ⟨(v 1).toNat, by omega⟩
  have rI : ∃ j : Nat, 24178516392292583494123520 + (1 * v 0 + (0)) = (j : Int) ∧ c_gv j (g j) = v 2 := rI
  have eI := t_g20 h nm (by omega) rI (by omega)
  have rK : ∃ j : Nat, 9671406556917033397649408 + (1 * v 1 + (0)) = (j : Int) ∧ c_gv j (g j) = v 3 := rK
  have eK := t_g8 h ni (by omega) rK (by omega)
  have rA : ∃ j : Nat, 25387442211907212668829696 + (1 * v 0 + (0)) = (j : Int) ∧ c_gv j (g j) = v 4 := rA
  have eA := t_g21 h nm (by omega) rA (by omega)
  have rZ : ∃ j : Nat, 39894552047282762765303808 + (0) = (j : Int) ∧ c_gv j (g j) = v 5 := rZ
  have eZ := t_g33 h   rZ (by omega)
  obtain ⟨s, hs, rfl⟩ := t_ix_s (X := t_tx g) (m := nm) (i := ni) (by omega)
  have c := t_ans_E (X := t_tx g) hs (by omega) (by omega)
  rw [t_cn_s hs] at eA
  exact ⟨(by show 0 ≤ 0 + ((-1) * v 4 + (1 * v 5 + (0))); omega), (by show 0 ≤ 0 + (1 * v 4 + ((-1) * v 5 + (0))); omega), trivial⟩
-- ansF
theorem t_q169 {g : Nat → Int} (h : t_G g) : t_ok g 2 ([(24178516392292583494123520, [(0, 1)]), (9671406556917033397649408, [(1, 1)]), (43521329506126650289422336, [(0, 1)]), (39894552047282762765303808, [])], [(0, [(0, 1)]), (650, [(0, (-1))]), (0, [(1, 1)]), (650, [(1, (-1))]), (0, [(1, (-1)), (2, 1)]), (0, [(1, 1), (2, (-1))]), ((-1), [(3, 1)]), (1, [(4, 1)]), ((-1), [(4, (-1))])], [(1, [(5, 1)]), ((-1), [(5, (-1))])]) := by
  refine t_okI fun v hr hp => ?_
  obtain ⟨rI, rK, rP, rZ, -⟩ := hr
  obtain ⟨p0, p1, p2, p3, p4, p5, p6, p7, p8, -⟩ := hp
  have p0 : 0 ≤ 0 + (1 * v 0 + (0)) := p0
  have p1 : 0 ≤ 650 + ((-1) * v 0 + (0)) := p1
  have p2 : 0 ≤ 0 + (1 * v 1 + (0)) := p2
  have p3 : 0 ≤ 650 + ((-1) * v 1 + (0)) := p3
  have p4 : 0 ≤ 0 + ((-1) * v 1 + (1 * v 2 + (0))) := p4
  have p5 : 0 ≤ 0 + (1 * v 1 + ((-1) * v 2 + (0))) := p5
  have p6 : 0 ≤ (-1) + (1 * v 3 + (0)) := p6
  have p7 : 0 ≤ 1 + (1 * v 4 + (0)) := p7
  have p8 : 0 ≤ (-1) + ((-1) * v 4 + (0)) := p8
  obtain ⟨nm, hm⟩ : ∃ n : Nat, v 0 = (n : Int) := ⟨(v 0).toNat, by omega⟩
  obtain ⟨ni, hi⟩ : ∃ n : Nat, v 1 = (n : Int) := ⟨(v 1).toNat, by omega⟩
  have rI : ∃ j : Nat, 24178516392292583494123520 + (1 * v 0 + (0)) = (j : Int) ∧ c_gv j (g j) = v 2 := rI
  have eI := t_g20 h nm (by omega) rI (by omega)
  have rK : ∃ j : Nat, 9671406556917033397649408 + (1 * v 1 + (0)) = (j : Int) ∧ c_gv j (g j) = v 3 := rK
  have eK := t_g8 h ni (by omega) rK (by omega)
  have rP : ∃ j : Nat, 43521329506126650289422336 + (1 * v 0 + (0)) = (j : Int) ∧ c_gv j (g j) = v 4 := rP
  have eP := t_g36 h nm (by omega) rP (by omega)
  have rZ : ∃ j : Nat, 39894552047282762765303808 + (0) = (j : Int) ∧ c_gv j (g j) = v 5 := rZ
  have eZ := t_g33 h   rZ (by omega)
  obtain ⟨s, hs, rfl⟩ := t_ix_s (X := t_tx g) (m := nm) (i := ni) (by omega)
  have c := t_ans_F (X := t_tx g) hs (by omega) (t_pt_n hs (by omega)) (by omega)
  exact ⟨(by show 0 ≤ 1 + (1 * v 5 + (0)); omega), (by show 0 ≤ (-1) + ((-1) * v 5 + (0)); omega), trivial⟩
-- cgF
theorem t_q170 {g : Nat → Int} (h : t_G g) : t_ok g 3 ([(35058848768824246066479104, [(0, 1024), (1, 1073741824)]), (35058848768824246066479104, [(0, 1024), (2, 1073741824)])], [(0, [(0, 1)]), (6, [(0, (-1))]), (0, [(1, 1)]), (1099511627775, [(1, (-1))]), (0, [(1, (-1)), (2, 1)]), (0, [(1, 1), (2, (-1))])], [(0, [(3, 1), (4, (-1))]), (0, [(3, (-1)), (4, 1)])]) := by
  refine t_okI fun v hr hp => ?_
  obtain ⟨rA, rB, -⟩ := hr
  obtain ⟨p0, p1, p2, p3, p4, p5, -⟩ := hp
  have p0 : 0 ≤ 0 + (1 * v 0 + (0)) := p0
  have p1 : 0 ≤ 6 + ((-1) * v 0 + (0)) := p1
  have p2 : 0 ≤ 0 + (1 * v 1 + (0)) := p2
  have p3 : 0 ≤ 1099511627775 + ((-1) * v 1 + (0)) := p3
  have p4 : 0 ≤ 0 + ((-1) * v 1 + (1 * v 2 + (0))) := p4
  have p5 : 0 ≤ 0 + (1 * v 1 + ((-1) * v 2 + (0))) := p5
  obtain ⟨nt, ht⟩ : ∃ n : Nat, v 0 = (n : Int) := ⟨(v 0).toNat, by omega⟩
  obtain ⟨nu, hu⟩ : ∃ n : Nat, v 1 = (n : Int) := ⟨(v 1).toNat, by omega⟩
  obtain ⟨nv, hv⟩ : ∃ n : Nat, v 2 = (n : Int) := ⟨(v 2).toNat, by omega⟩
  have rA : ∃ j : Nat, 35058848768824246066479104 + (1024 * v 0 + (1073741824 * v 1 + (0))) = (j : Int) ∧ c_gv j (g j) = v 3 := rA
  have eA := t_g29 h 0 nt nu (by omega) (by omega) (by omega) rA (by omega)
  have rB : ∃ j : Nat, 35058848768824246066479104 + (1024 * v 0 + (1073741824 * v 2 + (0))) = (j : Int) ∧ c_gv j (g j) = v 4 := rB
  have eB := t_g29 h 0 nt nv (by omega) (by omega) (by omega) rB (by omega)
  have c : nv = nu := by omega
  subst c
  exact ⟨(by show 0 ≤ 0 + (1 * v 3 + ((-1) * v 4 + (0))); omega), (by show 0 ≤ 0 + ((-1) * v 3 + (1 * v 4 + (0))); omega), trivial⟩
-- cgN
theorem t_q171 {g : Nat → Int} (h : t_G g) : t_ok g 2 ([(21760664753063325144711168, [(0, 1)]), (21760664753063325144711168, [(1, 1)])], [(0, [(0, 1)]), (700, [(0, (-1))]), (0, [(0, (-1)), (1, 1)]), (0, [(0, 1), (1, (-1))])], [(0, [(2, 1), (3, (-1))]), (0, [(2, (-1)), (3, 1)])]) := by
  refine t_okI fun v hr hp => ?_
  obtain ⟨rA, rB, -⟩ := hr
  obtain ⟨p0, p1, p2, p3, -⟩ := hp
  have p0 : 0 ≤ 0 + (1 * v 0 + (0)) := p0
  have p1 : 0 ≤ 700 + ((-1) * v 0 + (0)) := p1
  have p2 : 0 ≤ 0 + ((-1) * v 0 + (1 * v 1 + (0))) := p2
  have p3 : 0 ≤ 0 + (1 * v 0 + ((-1) * v 1 + (0))) := p3
  obtain ⟨ni, hi⟩ : ∃ n : Nat, v 0 = (n : Int) := ⟨(v 0).toNat, by omega⟩
  obtain ⟨nj, hj⟩ : ∃ n : Nat, v 1 = (n : Int) := ⟨(v 1).toNat, by omega⟩
  have rA : ∃ j : Nat, 21760664753063325144711168 + (1 * v 0 + (0)) = (j : Int) ∧ c_gv j (g j) = v 2 := rA
  have eA := t_g18 h ni (by omega) rA (by omega)
  have rB : ∃ j : Nat, 21760664753063325144711168 + (1 * v 1 + (0)) = (j : Int) ∧ c_gv j (g j) = v 3 := rB
  have eB := t_g18 h nj (by omega) rB (by omega)
  have c : nj = ni := by omega
  subst c
  exact ⟨(by show 0 ≤ 0 + (1 * v 2 + ((-1) * v 3 + (0))); omega), (by show 0 ≤ 0 + ((-1) * v 2 + (1 * v 3 + (0))); omega), trivial⟩
-- cgD
theorem t_q172 {g : Nat → Int} (h : t_G g) : t_ok g 2 ([(20551738933448695970065408, [(0, 1)]), (20551738933448695970065408, [(1, 1)])], [(0, [(0, 1)]), (700, [(0, (-1))]), (0, [(0, (-1)), (1, 1)]), (0, [(0, 1), (1, (-1))])], [(0, [(2, 1), (3, (-1))]), (0, [(2, (-1)), (3, 1)])]) := by
  refine t_okI fun v hr hp => ?_
  obtain ⟨rA, rB, -⟩ := hr
  obtain ⟨p0, p1, p2, p3, -⟩ := hp
  have p0 : 0 ≤ 0 + (1 * v 0 + (0)) := p0
  have p1 : 0 ≤ 700 + ((-1) * v 0 + (0)) := p1
  have p2 : 0 ≤ 0 + ((-1) * v 0 + (1 * v 1 + (0))) := p2
  have p3 : 0 ≤ 0 + (1 * v 0 + ((-1) * v 1 + (0))) := p3
  obtain ⟨ni, hi⟩ : ∃ n : Nat, v 0 = (n : Int) := ⟨(v 0).toNat, by omega⟩
  obtain ⟨nj, hj⟩ : ∃ n : Nat, v 1 = (n : Int) := ⟨(v 1).toNat, by omega⟩
  have rA : ∃ j : Nat, 20551738933448695970065408 + (1 * v 0 + (0)) = (j : Int) ∧ c_gv j (g j) = v 2 := rA
  have eA := t_g17 h ni 59 (by omega) (by omega) rA (by omega)
  have rB : ∃ j : Nat, 20551738933448695970065408 + (1 * v 1 + (0)) = (j : Int) ∧ c_gv j (g j) = v 3 := rB
  have eB := t_g17 h nj 59 (by omega) (by omega) rB (by omega)
  have c : nj = ni := by omega
  subst c
  exact ⟨(by show 0 ≤ 0 + (1 * v 2 + ((-1) * v 3 + (0))); omega), (by show 0 ≤ 0 + ((-1) * v 2 + (1 * v 3 + (0))); omega), trivial⟩
-- ptG
theorem t_q173 {g : Nat → Int} (h : t_G g) : t_ok g 3 ([(24178516392292583494123520, [(0, 1)]), (43521329506126650289422336, [(0, 1)])], [(0, [(0, 1)]), (650, [(0, (-1))]), (0, [(2, (-1)), (4, 1)]), (0, [(2, 1), (4, (-1))]), (0, [(2, 1)]), (0, [(1, (-1)), (3, 1)]), (0, [(1, 1), (3, (-1))])], [((-3), [(1, (-1)), (2, 1)])]) := by
  refine t_okI fun v hr hp => ?_
  obtain ⟨rI, rP, -⟩ := hr
  obtain ⟨p0, p1, p2, p3, p4, p5, p6, -⟩ := hp
  have p0 : 0 ≤ 0 + (1 * v 0 + (0)) := p0
  have p1 : 0 ≤ 650 + ((-1) * v 0 + (0)) := p1
  have p2 : 0 ≤ 0 + ((-1) * v 2 + (1 * v 4 + (0))) := p2
  have p3 : 0 ≤ 0 + (1 * v 2 + ((-1) * v 4 + (0))) := p3
  have p4 : 0 ≤ 0 + (1 * v 2 + (0)) := p4
  have p5 : 0 ≤ 0 + ((-1) * v 1 + (1 * v 3 + (0))) := p5
  have p6 : 0 ≤ 0 + (1 * v 1 + ((-1) * v 3 + (0))) := p6
  obtain ⟨nm, hm⟩ : ∃ n : Nat, v 0 = (n : Int) := ⟨(v 0).toNat, by omega⟩
  obtain ⟨nn, hn⟩ : ∃ n : Nat, v 2 = (n : Int) := ⟨(v 2).toNat, by omega⟩
  have rI : ∃ j : Nat, 24178516392292583494123520 + (1 * v 0 + (0)) = (j : Int) ∧ c_gv j (g j) = v 3 := rI
  have eI := t_g20 h nm (by omega) rI (by omega)
  have rP : ∃ j : Nat, 43521329506126650289422336 + (1 * v 0 + (0)) = (j : Int) ∧ c_gv j (g j) = v 4 := rP
  have eP := t_g36 h nm (by omega) rP (by omega)
  obtain ⟨s, hs, h2⟩ := t_pt_some (X := t_tx g) (m := nm) (by omega)
  obtain ⟨s1, hp, h3⟩ := h2
  have c := t_stp_pre (t_G_ok h) hp
  have c2 : t_ix (t_tx g) nm = (s.1 : Int) := by
    unfold t_ix
    rw [hs]
  exact ⟨(by show 0 ≤ (-3) + ((-1) * v 1 + (1 * v 2 + (0))); omega), trivial⟩
-- k600
theorem t_q174 {g : Nat → Int} (h : t_G g) : t_ok g 1 ([(9671406556917033397649408, [(0, 1)])], [((-600), [(0, 1)]), (700, [(0, (-1))])], [(0, [(1, 1)]), (0, [(1, (-1))])]) := by
  refine t_okI fun v hr hp => ?_
  obtain ⟨rK, -⟩ := hr
  obtain ⟨p0, p1, -⟩ := hp
  have p0 : 0 ≤ (-600) + (1 * v 0 + (0)) := p0
  have p1 : 0 ≤ 700 + ((-1) * v 0 + (0)) := p1
  obtain ⟨ni, hi⟩ : ∃ n : Nat, v 0 = (n : Int) := ⟨(v 0).toNat, by omega⟩
  have rK : ∃ j : Nat, 9671406556917033397649408 + (1 * v 0 + (0)) = (j : Int) ∧ c_gv j (g j) = v 1 := rK
  have eK := t_g8 h ni (by omega) rK (by omega)
  have c := t_k600 (t_G_ok h) (i := ni) (by omega)
  exact ⟨(by show 0 ≤ 0 + (1 * v 1 + (0)); omega), (by show 0 ≤ 0 + ((-1) * v 1 + (0)); omega), trivial⟩
-- ts0
theorem t_q175 {g : Nat → Int} (h : t_G g) : t_ok g 1 ([(9671406556917033397649408, [(0, 1)]), (12089258196146291747061760, [(0, 1)]), (51983810243429054512365568, [(0, 1)]), (53192736063043683687071744, [(0, 1)]), (54401661882658312861777920, [(0, 1)]), (55610587702272942036484096, [(0, 1)]), (56819513521887571211190272, [(0, 1)]), (58028439341502200385896448, [(0, 1)])], [(0, [(0, 1)]), (700, [(0, (-1))]), (0, [(1, 1)]), (0, [(1, (-1))])], [(0, [(3, 1)]), (0, [(3, (-1))]), ((-8589934592), [(4, 1)]), (8589934592, [(4, (-1))]), (0, [(5, 1)]), (0, [(5, (-1))]), ((-1), [(6, 1)]), (1, [(6, (-1))]), (0, [(7, 1)]), (0, [(7, (-1))]), (0, [(8, 1)]), (0, [(8, (-1))])]) := by
  refine t_okI fun v hr hp => ?_
  obtain ⟨rK, rV, rA, rB, rC, rD, rL, rF, -⟩ := hr
  obtain ⟨p0, p1, p2, p3, -⟩ := hp
  have p0 : 0 ≤ 0 + (1 * v 0 + (0)) := p0
  have p1 : 0 ≤ 700 + ((-1) * v 0 + (0)) := p1
  have p2 : 0 ≤ 0 + (1 * v 1 + (0)) := p2
  have p3 : 0 ≤ 0 + ((-1) * v 1 + (0)) := p3
  obtain ⟨ni, hi⟩ : ∃ n : Nat, v 0 = (n : Int) := ⟨(v 0).toNat, by omega⟩
  have rK : ∃ j : Nat, 9671406556917033397649408 + (1 * v 0 + (0)) = (j : Int) ∧ c_gv j (g j) = v 1 := rK
  have eK := t_g8 h ni (by omega) rK (by omega)
  have rV : ∃ j : Nat, 12089258196146291747061760 + (1 * v 0 + (0)) = (j : Int) ∧ c_gv j (g j) = v 2 := rV
  have eV := t_g10 h ni (by omega) rV (by omega)
  have rA : ∃ j : Nat, 51983810243429054512365568 + (1 * v 0 + (0)) = (j : Int) ∧ c_gv j (g j) = v 3 := rA
  have eA := t_g43 h ni (by omega) rA (by omega)
  have rB : ∃ j : Nat, 53192736063043683687071744 + (1 * v 0 + (0)) = (j : Int) ∧ c_gv j (g j) = v 4 := rB
  have eB := t_g44 h ni (by omega) rB (by omega)
  have rC : ∃ j : Nat, 54401661882658312861777920 + (1 * v 0 + (0)) = (j : Int) ∧ c_gv j (g j) = v 5 := rC
  have eC := t_g45 h ni (by omega) rC (by omega)
  have rD : ∃ j : Nat, 55610587702272942036484096 + (1 * v 0 + (0)) = (j : Int) ∧ c_gv j (g j) = v 6 := rD
  have eD := t_g46 h ni (by omega) rD (by omega)
  have rL : ∃ j : Nat, 56819513521887571211190272 + (1 * v 0 + (0)) = (j : Int) ∧ c_gv j (g j) = v 7 := rL
  have eL := t_g47 h ni (by omega) rL (by omega)
  have rF : ∃ j : Nat, 58028439341502200385896448 + (1 * v 0 + (0)) = (j : Int) ∧ c_gv j (g j) = v 8 := rF
  have eF := t_g48 h ni (by omega) rF (by omega)
  unfold t_vn at eA
  rw [if_neg (by omega)] at eA
  unfold t_dn at eB
  rw [if_neg (by omega)] at eB
  unfold t_vw at eC
  rw [if_neg (by omega)] at eC
  unfold t_dw at eD
  rw [if_neg (by omega)] at eD
  unfold t_ll at eL
  rw [if_neg (by omega)] at eL
  unfold t_d4 at eF
  rw [if_neg (by omega)] at eF
  exact ⟨(by show 0 ≤ 0 + (1 * v 3 + (0)); omega), (by show 0 ≤ 0 + ((-1) * v 3 + (0)); omega), (by show 0 ≤ (-8589934592) + (1 * v 4 + (0)); omega), (by show 0 ≤ 8589934592 + ((-1) * v 4 + (0)); omega), (by show 0 ≤ 0 + (1 * v 5 + (0)); omega), (by show 0 ≤ 0 + ((-1) * v 5 + (0)); omega), (by show 0 ≤ (-1) + (1 * v 6 + (0)); omega), (by show 0 ≤ 1 + ((-1) * v 6 + (0)); omega), (by show 0 ≤ 0 + (1 * v 7 + (0)); omega), (by show 0 ≤ 0 + ((-1) * v 7 + (0)); omega), (by show 0 ≤ 0 + (1 * v 8 + (0)); omega), (by show 0 ≤ 0 + ((-1) * v 8 + (0)); omega), trivial⟩
-- ts1a
set_option maxHeartbeats 4000000 in
theorem t_q176 {g : Nat → Int} (h : t_G g) : t_ok g 1 ([(9671406556917033397649408, [(0, 1)]), (12089258196146291747061760, [(0, 1)]), (51983810243429054512365568, [(0, 1)]), (53192736063043683687071744, [(0, 1)]), (54401661882658312861777920, [(0, 1)]), (55610587702272942036484096, [(0, 1)]), (56819513521887571211190272, [(0, 1)]), (58028439341502200385896448, [(0, 1)]), (8462480737302404222943232, [(0, 1)]), (10880332376531662572355585, [(0, 1)])], [(0, [(0, 1)]), (700, [(0, (-1))]), ((-1), [(1, 1)]), (1, [(1, (-1))]), ((-1), [(2, 1)])], [((-8589934592), [(4, 1)]), (8589934592, [(4, (-1))]), (0, [(3, 1)]), (0, [(3, (-1))]), (0, [(2, (-1)), (5, 1)]), (0, [(2, 1), (5, (-1))]), (0, [(6, 1)]), (0, [(6, (-1))]), (0, [(7, 1), (9, 1), (10, (-1))]), (0, [(7, (-1)), (9, (-1)), (10, 1)]), (8, [(7, (-1))]), (0, [(8, 1)]), (0, [(8, (-1))])]) := by
  refine t_okI fun v hr hp => ?_
  obtain ⟨rK, rV, rA, rB, rC, rD, rL, rF, rP, rE, -⟩ := hr
  obtain ⟨p0, p1, p2, p3, p4, -⟩ := hp
  have p0 : 0 ≤ 0 + (1 * v 0 + (0)) := p0
  have p1 : 0 ≤ 700 + ((-1) * v 0 + (0)) := p1
  have p2 : 0 ≤ (-1) + (1 * v 1 + (0)) := p2
  have p3 : 0 ≤ 1 + ((-1) * v 1 + (0)) := p3
  have p4 : 0 ≤ (-1) + (1 * v 2 + (0)) := p4
  obtain ⟨ni, hi⟩ : ∃ n : Nat, v 0 = (n : Int) := ⟨(v 0).toNat, by omega⟩
  have rK : ∃ j : Nat, 9671406556917033397649408 + (1 * v 0 + (0)) = (j : Int) ∧ c_gv j (g j) = v 1 := rK
  have eK := t_g8 h ni (by omega) rK (by omega)
  have rV : ∃ j : Nat, 12089258196146291747061760 + (1 * v 0 + (0)) = (j : Int) ∧ c_gv j (g j) = v 2 := rV
  have eV := t_g10 h ni (by omega) rV (by omega)
  have rA : ∃ j : Nat, 51983810243429054512365568 + (1 * v 0 + (0)) = (j : Int) ∧ c_gv j (g j) = v 3 := rA
  have eA := t_g43 h ni (by omega) rA (by omega)
  have rB : ∃ j : Nat, 53192736063043683687071744 + (1 * v 0 + (0)) = (j : Int) ∧ c_gv j (g j) = v 4 := rB
  have eB := t_g44 h ni (by omega) rB (by omega)
  have rC : ∃ j : Nat, 54401661882658312861777920 + (1 * v 0 + (0)) = (j : Int) ∧ c_gv j (g j) = v 5 := rC
  have eC := t_g45 h ni (by omega) rC (by omega)
  have rD : ∃ j : Nat, 55610587702272942036484096 + (1 * v 0 + (0)) = (j : Int) ∧ c_gv j (g j) = v 6 := rD
  have eD := t_g46 h ni (by omega) rD (by omega)
  have rL : ∃ j : Nat, 56819513521887571211190272 + (1 * v 0 + (0)) = (j : Int) ∧ c_gv j (g j) = v 7 := rL
  have eL := t_g47 h ni (by omega) rL (by omega)
  have rF : ∃ j : Nat, 58028439341502200385896448 + (1 * v 0 + (0)) = (j : Int) ∧ c_gv j (g j) = v 8 := rF
  have eF := t_g48 h ni (by omega) rF (by omega)
  have rP : ∃ j : Nat, 8462480737302404222943232 + (1 * v 0 + (0)) = (j : Int) ∧ c_gv j (g j) = v 9 := rP
  have eP := t_g7 h ni (by omega) rP (by omega)
  have rE : ∃ j : Nat, 10880332376531662572355585 + (1 * v 0 + (0)) = (j : Int) ∧ c_gv j (g j) = v 10 := rE
  have eE := t_g9 h (ni+1) (by omega) rE (by omega)
  unfold t_vn at eA
  rw [if_neg (by omega)] at eA
  unfold t_dn at eB
  rw [if_neg (by omega)] at eB
  unfold t_vw at eC
  rw [if_pos (by omega), if_neg (by omega)] at eC
  unfold t_dw at eD
  rw [if_pos (by omega)] at eD
  unfold t_ll at eL
  rw [if_pos (by omega)] at eL
  unfold t_d4 at eF
  rw [if_neg (by omega)] at eF
  have cv := t_v_bd (X := t_tx g) ni (t_G_by h)
  exact ⟨(by show 0 ≤ (-8589934592) + (1 * v 4 + (0)); omega), (by show 0 ≤ 8589934592 + ((-1) * v 4 + (0)); omega), (by show 0 ≤ 0 + (1 * v 3 + (0)); omega), (by show 0 ≤ 0 + ((-1) * v 3 + (0)); omega), (by show 0 ≤ 0 + ((-1) * v 2 + (1 * v 5 + (0))); omega), (by show 0 ≤ 0 + (1 * v 2 + ((-1) * v 5 + (0))); omega), (by show 0 ≤ 0 + (1 * v 6 + (0)); omega), (by show 0 ≤ 0 + ((-1) * v 6 + (0)); omega), (by show 0 ≤ 0 + (1 * v 7 + (1 * v 9 + ((-1) * v 10 + (0)))); omega), (by show 0 ≤ 0 + ((-1) * v 7 + ((-1) * v 9 + (1 * v 10 + (0)))); omega), (by show 0 ≤ 8 + ((-1) * v 7 + (0)); omega), (by show 0 ≤ 0 + (1 * v 8 + (0)); omega), (by show 0 ≤ 0 + ((-1) * v 8 + (0)); omega), trivial⟩
-- ts1b
set_option maxHeartbeats 4000000 in
theorem t_q177 {g : Nat → Int} (h : t_G g) : t_ok g 1 ([(9671406556917033397649408, [(0, 1)]), (12089258196146291747061760, [(0, 1)]), (51983810243429054512365568, [(0, 1)]), (53192736063043683687071744, [(0, 1)]), (54401661882658312861777920, [(0, 1)]), (55610587702272942036484096, [(0, 1)]), (56819513521887571211190272, [(0, 1)]), (58028439341502200385896448, [(0, 1)]), (8462480737302404222943232, [(0, 1)]), (10880332376531662572355585, [(0, 1)])], [(0, [(0, 1)]), (700, [(0, (-1))]), ((-1), [(1, 1)]), (1, [(1, (-1))]), (0, [(2, 1)]), (0, [(2, (-1))])], [((-8589934592), [(4, 1)]), (8589934592, [(4, (-1))]), (0, [(3, 1)]), (0, [(3, (-1))]), (1, [(5, 1)]), ((-1), [(5, (-1))]), (0, [(6, 1)]), (0, [(6, (-1))]), (0, [(7, 1), (9, 1), (10, (-1))]), (0, [(7, (-1)), (9, (-1)), (10, 1)]), ((-9), [(7, 1)]), (0, [(8, 1)]), (0, [(8, (-1))])]) := by
  refine t_okI fun v hr hp => ?_
  obtain ⟨rK, rV, rA, rB, rC, rD, rL, rF, rP, rE, -⟩ := hr
  obtain ⟨p0, p1, p2, p3, p4, p5, -⟩ := hp
  have p0 : 0 ≤ 0 + (1 * v 0 + (0)) := p0
  have p1 : 0 ≤ 700 + ((-1) * v 0 + (0)) := p1
  have p2 : 0 ≤ (-1) + (1 * v 1 + (0)) := p2
  have p3 : 0 ≤ 1 + ((-1) * v 1 + (0)) := p3
  have p4 : 0 ≤ 0 + (1 * v 2 + (0)) := p4
  have p5 : 0 ≤ 0 + ((-1) * v 2 + (0)) := p5
  obtain ⟨ni, hi⟩ : ∃ n : Nat, v 0 = (n : Int) := ⟨(v 0).toNat, by omega⟩
  have rK : ∃ j : Nat, 9671406556917033397649408 + (1 * v 0 + (0)) = (j : Int) ∧ c_gv j (g j) = v 1 := rK
  have eK := t_g8 h ni (by omega) rK (by omega)
  have rV : ∃ j : Nat, 12089258196146291747061760 + (1 * v 0 + (0)) = (j : Int) ∧ c_gv j (g j) = v 2 := rV
  have eV := t_g10 h ni (by omega) rV (by omega)
  have rA : ∃ j : Nat, 51983810243429054512365568 + (1 * v 0 + (0)) = (j : Int) ∧ c_gv j (g j) = v 3 := rA
  have eA := t_g43 h ni (by omega) rA (by omega)
  have rB : ∃ j : Nat, 53192736063043683687071744 + (1 * v 0 + (0)) = (j : Int) ∧ c_gv j (g j) = v 4 := rB
  have eB := t_g44 h ni (by omega) rB (by omega)
  have rC : ∃ j : Nat, 54401661882658312861777920 + (1 * v 0 + (0)) = (j : Int) ∧ c_gv j (g j) = v 5 := rC
  have eC := t_g45 h ni (by omega) rC (by omega)
  have rD : ∃ j : Nat, 55610587702272942036484096 + (1 * v 0 + (0)) = (j : Int) ∧ c_gv j (g j) = v 6 := rD
  have eD := t_g46 h ni (by omega) rD (by omega)
  have rL : ∃ j : Nat, 56819513521887571211190272 + (1 * v 0 + (0)) = (j : Int) ∧ c_gv j (g j) = v 7 := rL
  have eL := t_g47 h ni (by omega) rL (by omega)
  have rF : ∃ j : Nat, 58028439341502200385896448 + (1 * v 0 + (0)) = (j : Int) ∧ c_gv j (g j) = v 8 := rF
  have eF := t_g48 h ni (by omega) rF (by omega)
  have rP : ∃ j : Nat, 8462480737302404222943232 + (1 * v 0 + (0)) = (j : Int) ∧ c_gv j (g j) = v 9 := rP
  have eP := t_g7 h ni (by omega) rP (by omega)
  have rE : ∃ j : Nat, 10880332376531662572355585 + (1 * v 0 + (0)) = (j : Int) ∧ c_gv j (g j) = v 10 := rE
  have eE := t_g9 h (ni+1) (by omega) rE (by omega)
  unfold t_vn at eA
  rw [if_neg (by omega)] at eA
  unfold t_dn at eB
  rw [if_neg (by omega)] at eB
  unfold t_vw at eC
  rw [if_pos (by omega), if_pos (by omega)] at eC
  unfold t_dw at eD
  rw [if_pos (by omega)] at eD
  unfold t_ll at eL
  rw [if_pos (by omega)] at eL
  unfold t_d4 at eF
  rw [if_neg (by omega)] at eF
  have cv := t_v_bd (X := t_tx g) ni (t_G_by h)
  exact ⟨(by show 0 ≤ (-8589934592) + (1 * v 4 + (0)); omega), (by show 0 ≤ 8589934592 + ((-1) * v 4 + (0)); omega), (by show 0 ≤ 0 + (1 * v 3 + (0)); omega), (by show 0 ≤ 0 + ((-1) * v 3 + (0)); omega), (by show 0 ≤ 1 + (1 * v 5 + (0)); omega), (by show 0 ≤ (-1) + ((-1) * v 5 + (0)); omega), (by show 0 ≤ 0 + (1 * v 6 + (0)); omega), (by show 0 ≤ 0 + ((-1) * v 6 + (0)); omega), (by show 0 ≤ 0 + (1 * v 7 + (1 * v 9 + ((-1) * v 10 + (0)))); omega), (by show 0 ≤ 0 + ((-1) * v 7 + ((-1) * v 9 + (1 * v 10 + (0)))); omega), (by show 0 ≤ (-9) + (1 * v 7 + (0)); omega), (by show 0 ≤ 0 + (1 * v 8 + (0)); omega), (by show 0 ≤ 0 + ((-1) * v 8 + (0)); omega), trivial⟩
