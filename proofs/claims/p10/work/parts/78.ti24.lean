/-! rules on the tables, each with its proof (printed by gen_rul.py) -/
-- ctl
set_option maxHeartbeats 4000000 in
theorem t_q166 {g : Nat → Int} (h : t_G g) : t_ok g 3 ([(24178516392292583494123520, [(0, 1)]), (13298184015760920921767936, [(1, 1)]), (43521329506126650289422336, [(0, 1)]), (25387442211907212668829696, [(0, 1)]), (26596368031521841843535872, [(0, 1)]), (27805293851136471018242048, [(0, 1)]), (29014219670751100192948224, [(0, 1)]), (25387442211907212668829697, [(0, 1)]), (26596368031521841843535873, [(0, 1)]), (27805293851136471018242049, [(0, 1)]), (29014219670751100192948225, [(0, 1)]), (32640997129594987717066752, [(2, 1)]), (12089258196146291747061761, [(1, 1)])], [(0, [(0, 1)]), (650, [(0, (-1))]), (0, [(1, 1)]), (650, [(1, (-1))]), (0, [(1, (-1)), (3, 1)]), (0, [(1, 1), (3, (-1))]), ((-3), [(4, 1)]), (3, [(4, (-1))]), (0, [(5, 1)]), (0, [(2, (-1)), (8, 1)]), (0, [(2, 1), (8, (-1))]), (0, [(2, 1)]), (5, [(2, (-1))])], [(0, [(14, 1), (15, (-1))]), (0, [(14, (-1)), (15, 1)]), (0, [(6, (-1)), (10, 1)]), (0, [(6, 1), (10, (-1))]), (0, [(7, (-1)), (11, 1)]), (0, [(7, 1), (11, (-1))]), ((-1), [(8, (-1)), (12, 1)]), (1, [(8, 1), (12, (-1))]), (0, [(9, (-1)), (13, 1)]), (0, [(9, 1), (13, (-1))])]) := by
  refine t_okI fun v hr hp => ?_
  obtain ⟨rI, rY, rP, rA, rB, rC, rD, rE, rF, rG, rH, rN, rV, -⟩ := hr
  obtain ⟨p0, p1, p2, p3, p4, p5, p6, p7, p8, p9, p10, p11, p12, -⟩ := hp
  have p0 : 0 ≤ 0 + (1 * v 0 + (0)) := p0
  have p1 : 0 ≤ 650 + ((-1) * v 0 + (0)) := p1
  have p2 : 0 ≤ 0 + (1 * v 1 + (0)) := p2
  have p3 : 0 ≤ 650 + ((-1) * v 1 + (0)) := p3
  have p4 : 0 ≤ 0 + ((-1) * v 1 + (1 * v 3 + (0))) := p4
  have p5 : 0 ≤ 0 + (1 * v 1 + ((-1) * v 3 + (0))) := p5
  have p6 : 0 ≤ (-3) + (1 * v 4 + (0)) := p6
  have p7 : 0 ≤ 3 + ((-1) * v 4 + (0)) := p7
  have p8 : 0 ≤ 0 + (1 * v 5 + (0)) := p8
  have p9 : 0 ≤ 0 + ((-1) * v 2 + (1 * v 8 + (0))) := p9
  have p10 : 0 ≤ 0 + (1 * v 2 + ((-1) * v 8 + (0))) := p10
  have p11 : 0 ≤ 0 + (1 * v 2 + (0)) := p11
  have p12 : 0 ≤ 5 + ((-1) * v 2 + (0)) := p12
  obtain ⟨nm, hm⟩ : ∃ n : Nat, v 0 = (n : Int) := ⟨(v 0).toNat, by omega⟩
  obtain ⟨ni, hi⟩ : ∃ n : Nat, v 1 = (n : Int) := ⟨(v 1).toNat, by omega⟩
  obtain ⟨nt, ht⟩ : ∃ n : Nat, v 2 = (n : Int) := ⟨(v 2).toNat, by omega⟩
  have rI : ∃ j : Nat, 24178516392292583494123520 + (1 * v 0 + (0)) = (j : Int) ∧ c_gv j (g j) = v 3 := rI
  have eI := t_g20 h nm (by omega) rI (by omega)
  have rY : ∃ j : Nat, 13298184015760920921767936 + (1 * v 1 + (0)) = (j : Int) ∧ c_gv j (g j) = v 4 := rY
  have eY := t_g11 h ni (by omega) rY (by omega)
  have rP : ∃ j : Nat, 43521329506126650289422336 + (1 * v 0 + (0)) = (j : Int) ∧ c_gv j (g j) = v 5 := rP
  have eP := t_g36 h nm (by omega) rP (by omega)
  have rA : ∃ j : Nat, 25387442211907212668829696 + (1 * v 0 + (0)) = (j : Int) ∧ c_gv j (g j) = v 6 := rA
  have eA := t_g21 h nm (by omega) rA (by omega)
  have rB : ∃ j : Nat, 26596368031521841843535872 + (1 * v 0 + (0)) = (j : Int) ∧ c_gv j (g j) = v 7 := rB
  have eB := t_g22 h nm (by omega) rB (by omega)
  have rC : ∃ j : Nat, 27805293851136471018242048 + (1 * v 0 + (0)) = (j : Int) ∧ c_gv j (g j) = v 8 := rC
  have eC := t_g23 h nm (by omega) rC (by omega)
  have rD : ∃ j : Nat, 29014219670751100192948224 + (1 * v 0 + (0)) = (j : Int) ∧ c_gv j (g j) = v 9 := rD
  have eD := t_g24 h nm (by omega) rD (by omega)
  have rE : ∃ j : Nat, 25387442211907212668829697 + (1 * v 0 + (0)) = (j : Int) ∧ c_gv j (g j) = v 10 := rE
  have eE := t_g21 h (nm+1) (by omega) rE (by omega)
  have rF : ∃ j : Nat, 26596368031521841843535873 + (1 * v 0 + (0)) = (j : Int) ∧ c_gv j (g j) = v 11 := rF
  have eF := t_g22 h (nm+1) (by omega) rF (by omega)
  have rG : ∃ j : Nat, 27805293851136471018242049 + (1 * v 0 + (0)) = (j : Int) ∧ c_gv j (g j) = v 12 := rG
  have eG := t_g23 h (nm+1) (by omega) rG (by omega)
  have rH : ∃ j : Nat, 29014219670751100192948225 + (1 * v 0 + (0)) = (j : Int) ∧ c_gv j (g j) = v 13 := rH
  have eH := t_g24 h (nm+1) (by omega) rH (by omega)
  have rN : ∃ j : Nat, 32640997129594987717066752 + (1 * v 2 + (0)) = (j : Int) ∧ c_gv j (g j) = v 14 := rN
  have eN := t_g27 h nt (by omega) rN (by omega)
  have rV : ∃ j : Nat, 12089258196146291747061761 + (1 * v 1 + (0)) = (j : Int) ∧ c_gv j (g j) = v 15 := rV
  have eV := t_g10 h (ni+1) (by omega) rV (by omega)
  obtain ⟨s, hs, rfl⟩ := t_ix_s (X := t_tx g) (m := nm) (i := ni) (by omega)
  have ck := t_ky_k (X := t_tx g) (i := s.1) (by omega)
  obtain ⟨s1, hp, h1⟩ := t_nxt (X := t_tx g) hs (by omega) (by omega)
  have hl := t_la_pre (t_G_ok h) h1 (by omega)
  rw [t_cn_s hs] at eA eB eC eD
  rw [t_cn_s h1] at eE eF eG eH
  rcases t_stp_is (t_G_ok h) hp with ⟨y, a1, a2, rfl⟩ | ⟨y, a1, a2, rfl⟩ | ⟨y, a1, rfl⟩ | ⟨y, a1, a2, rfl⟩
  · exfalso
    omega
  · exfalso
    omega
  · exfalso
    omega
  · have bl : v 12 = (s.2.2.2.1.length : Int) + 1 := by
      rw [eG]
      show (((s.2.2.2.1 ++ [t_v (t_tx g) (s.1 + 1)]).length : Nat) : Int) = _
      rw [List.length_append]
      rfl
    have bt : v 10 = (s.2.1.length : Int) := eE
    have bk : v 11 = (s.2.2.1.length : Int) := eF
    have bb : v 13 = (s.2.2.2.2.length : Int) := eH
    have hn : (s.2.2.2.1 ++ [t_v (t_tx g) (s.1 + 1)]) <+: (t_la (t_tx g) 700).2.2.2.1 := hl.2.2.1
    have hx : t_nth (t_la (t_tx g) 700).2.2.2.1 nt = t_v (t_tx g) (s.1 + 1) := t_nth_some (by
      rw [t_pre_nth hn (by rw [List.length_append]; show nt < s.2.2.2.1.length + 1; omega), show nt = s.2.2.2.1.length by omega, List.getElem?_append_right (Nat.le_refl _), Nat.sub_self]
      rfl)
    have cb := t_v_bd (X := t_tx g) (s.1 + 1) (t_G_by h)
    rw [hx, t_cl_id (by omega)] at eN
    exact ⟨(by show 0 ≤ 0 + (1 * v 14 + ((-1) * v 15 + (0))); omega), (by show 0 ≤ 0 + ((-1) * v 14 + (1 * v 15 + (0))); omega), (by show 0 ≤ 0 + ((-1) * v 6 + (1 * v 10 + (0))); omega), (by show 0 ≤ 0 + (1 * v 6 + ((-1) * v 10 + (0))); omega), (by show 0 ≤ 0 + ((-1) * v 7 + (1 * v 11 + (0))); omega), (by show 0 ≤ 0 + (1 * v 7 + ((-1) * v 11 + (0))); omega), (by show 0 ≤ (-1) + ((-1) * v 8 + (1 * v 12 + (0))); omega), (by show 0 ≤ 1 + (1 * v 8 + ((-1) * v 12 + (0))); omega), (by show 0 ≤ 0 + ((-1) * v 9 + (1 * v 13 + (0))); omega), (by show 0 ≤ 0 + (1 * v 9 + ((-1) * v 13 + (0))); omega), trivial⟩
-- ctb
set_option maxHeartbeats 4000000 in
theorem t_q167 {g : Nat → Int} (h : t_G g) : t_ok g 4 ([(24178516392292583494123520, [(0, 1)]), (13298184015760920921767936, [(1, 1)]), (43521329506126650289422336, [(0, 1)]), (25387442211907212668829696, [(0, 1)]), (26596368031521841843535872, [(0, 1)]), (27805293851136471018242048, [(0, 1)]), (29014219670751100192948224, [(0, 1)]), (25387442211907212668829697, [(0, 1)]), (26596368031521841843535873, [(0, 1)]), (27805293851136471018242049, [(0, 1)]), (29014219670751100192948225, [(0, 1)]), (33849922949209616891772928, [(2, 1)]), (12089258196146291747061761, [(1, 1)]), (35058848768824246066479104, [(3, 1024), (16, 1073741824)])], [(0, [(0, 1)]), (650, [(0, (-1))]), (0, [(1, 1)]), (650, [(1, (-1))]), (0, [(3, 1)]), (6, [(3, (-1))]), (0, [(16, 1)]), (1099511627775, [(16, (-1))]), (0, [(1, (-1)), (4, 1)]), (0, [(1, 1), (4, (-1))]), ((-2), [(5, 1)]), (2, [(5, (-1))]), (0, [(6, 1)]), (0, [(2, (-1)), (10, 1)]), (0, [(2, 1), (10, (-1))]), (0, [(2, 1)]), (2, [(2, (-1))]), (0, [(3, (-1)), (7, 1)]), (0, [(3, 1), (7, (-1))])], [(0, [(15, 1), (17, (-1))]), (0, [(15, (-1)), (17, 1)]), (0, [(7, (-1)), (11, 1)]), (0, [(7, 1), (11, (-1))]), (0, [(8, (-1)), (12, 1)]), (0, [(8, 1), (12, (-1))]), (0, [(9, (-1)), (13, 1)]), (0, [(9, 1), (13, (-1))]), ((-1), [(10, (-1)), (14, 1)]), (1, [(10, 1), (14, (-1))])]) := by
  refine t_okI fun v hr hp => ?_
  obtain ⟨rI, rY, rP, rA, rB, rC, rD, rE, rF, rG, rH, rN, rV, rX, -⟩ := hr
  obtain ⟨p0, p1, p2, p3, p4, p5, p6, p7, p8, p9, p10, p11, p12, p13, p14, p15, p16, p17, p18, -⟩ := hp
  have p0 : 0 ≤ 0 + (1 * v 0 + (0)) := p0
  have p1 : 0 ≤ 650 + ((-1) * v 0 + (0)) := p1
  have p2 : 0 ≤ 0 + (1 * v 1 + (0)) := p2
  have p3 : 0 ≤ 650 + ((-1) * v 1 + (0)) := p3
  have p4 : 0 ≤ 0 + (1 * v 3 + (0)) := p4
  have p5 : 0 ≤ 6 + ((-1) * v 3 + (0)) := p5
  have p6 : 0 ≤ 0 + (1 * v 16 + (0)) := p6
  have p7 : 0 ≤ 1099511627775 + ((-1) * v 16 + (0)) := p7
  have p8 : 0 ≤ 0 + ((-1) * v 1 + (1 * v 4 + (0))) := p8
  have p9 : 0 ≤ 0 + (1 * v 1 + ((-1) * v 4 + (0))) := p9
  have p10 : 0 ≤ (-2) + (1 * v 5 + (0)) := p10
  have p11 : 0 ≤ 2 + ((-1) * v 5 + (0)) := p11
  have p12 : 0 ≤ 0 + (1 * v 6 + (0)) := p12
  have p13 : 0 ≤ 0 + ((-1) * v 2 + (1 * v 10 + (0))) := p13
  have p14 : 0 ≤ 0 + (1 * v 2 + ((-1) * v 10 + (0))) := p14
  have p15 : 0 ≤ 0 + (1 * v 2 + (0)) := p15
  have p16 : 0 ≤ 2 + ((-1) * v 2 + (0)) := p16
  have p17 : 0 ≤ 0 + ((-1) * v 3 + (1 * v 7 + (0))) := p17
  have p18 : 0 ≤ 0 + (1 * v 3 + ((-1) * v 7 + (0))) := p18
  obtain ⟨nm, hm⟩ : ∃ n : Nat, v 0 = (n : Int) := ⟨(v 0).toNat, by omega⟩
  obtain ⟨ni, hi⟩ : ∃ n : Nat, v 1 = (n : Int) := ⟨(v 1).toNat, by omega⟩
  obtain ⟨nb, hb⟩ : ∃ n : Nat, v 2 = (n : Int) := ⟨(v 2).toNat, by omega⟩
  obtain ⟨nt, ht⟩ : ∃ n : Nat, v 3 = (n : Int) := ⟨(v 3).toNat, by omega⟩
  have rI : ∃ j : Nat, 24178516392292583494123520 + (1 * v 0 + (0)) = (j : Int) ∧ c_gv j (g j) = v 4 := rI
  have eI := t_g20 h nm (by omega) rI (by omega)
  have rY : ∃ j : Nat, 13298184015760920921767936 + (1 * v 1 + (0)) = (j : Int) ∧ c_gv j (g j) = v 5 := rY
  have eY := t_g11 h ni (by omega) rY (by omega)
  have rP : ∃ j : Nat, 43521329506126650289422336 + (1 * v 0 + (0)) = (j : Int) ∧ c_gv j (g j) = v 6 := rP
  have eP := t_g36 h nm (by omega) rP (by omega)
  have rA : ∃ j : Nat, 25387442211907212668829696 + (1 * v 0 + (0)) = (j : Int) ∧ c_gv j (g j) = v 7 := rA
  have eA := t_g21 h nm (by omega) rA (by omega)
  have rB : ∃ j : Nat, 26596368031521841843535872 + (1 * v 0 + (0)) = (j : Int) ∧ c_gv j (g j) = v 8 := rB
  have eB := t_g22 h nm (by omega) rB (by omega)
  have rC : ∃ j : Nat, 27805293851136471018242048 + (1 * v 0 + (0)) = (j : Int) ∧ c_gv j (g j) = v 9 := rC
  have eC := t_g23 h nm (by omega) rC (by omega)
  have rD : ∃ j : Nat, 29014219670751100192948224 + (1 * v 0 + (0)) = (j : Int) ∧ c_gv j (g j) = v 10 := rD
  have eD := t_g24 h nm (by omega) rD (by omega)
  have rE : ∃ j : Nat, 25387442211907212668829697 + (1 * v 0 + (0)) = (j : Int) ∧ c_gv j (g j) = v 11 := rE
  have eE := t_g21 h (nm+1) (by omega) rE (by omega)
  have rF : ∃ j : Nat, 26596368031521841843535873 + (1 * v 0 + (0)) = (j : Int) ∧ c_gv j (g j) = v 12 := rF
  have eF := t_g22 h (nm+1) (by omega) rF (by omega)
  have rG : ∃ j : Nat, 27805293851136471018242049 + (1 * v 0 + (0)) = (j : Int) ∧ c_gv j (g j) = v 13 := rG
  have eG := t_g23 h (nm+1) (by omega) rG (by omega)
  have rH : ∃ j : Nat, 29014219670751100192948225 + (1 * v 0 + (0)) = (j : Int) ∧ c_gv j (g j) = v 14 := rH
  have eH := t_g24 h (nm+1) (by omega) rH (by omega)
  have rN : ∃ j : Nat, 33849922949209616891772928 + (1 * v 2 + (0)) = (j : Int) ∧ c_gv j (g j) = v 15 := rN
  have eN := t_g28 h nb (by omega) rN (by omega)
  have rV : ∃ j : Nat, 12089258196146291747061761 + (1 * v 1 + (0)) = (j : Int) ∧ c_gv j (g j) = v 16 := rV
  have eV := t_g10 h (ni+1) (by omega) rV (by omega)
  have rX : ∃ j : Nat, 35058848768824246066479104 + (1024 * v 3 + (1073741824 * v 16 + (0))) = (j : Int) ∧ c_gv j (g j) = v 17 := rX
  obtain ⟨nV, hV⟩ : ∃ n : Nat, v 16 = (n : Int) := ⟨(v 16).toNat, by omega⟩
  have eX := t_g29 h 0 nt nV (by omega) (by omega) (by omega) rX (by omega)
  obtain ⟨s, hs, rfl⟩ := t_ix_s (X := t_tx g) (m := nm) (i := ni) (by omega)
  have ck := t_ky_k (X := t_tx g) (i := s.1) (by omega)
  obtain ⟨s1, hp, h1⟩ := t_nxt (X := t_tx g) hs (by omega) (by omega)
  have hl := t_la_pre (t_G_ok h) h1 (by omega)
  rw [t_cn_s hs] at eA eB eC eD
  rw [t_cn_s h1] at eE eF eG eH
  rcases t_stp_is (t_G_ok h) hp with ⟨y, a1, a2, rfl⟩ | ⟨y, a1, a2, rfl⟩ | ⟨y, a1, rfl⟩ | ⟨y, a1, a2, rfl⟩
  · exfalso
    omega
  · exfalso
    omega
  · have bl : v 14 = (s.2.2.2.2.length : Int) + 1 := by
      rw [eH]
      show (((s.2.2.2.2 ++ [t_at0 s.2.1 (t_v (t_tx g) (s.1 + 1)) 0]).length : Nat) : Int) = _
      rw [List.length_append]
      rfl
    have bt : v 11 = (s.2.1.length : Int) := eE
    have bk : v 12 = (s.2.2.1.length : Int) := eF
    have bl : v 13 = (s.2.2.2.1.length : Int) := eG
    have hn : (s.2.2.2.2 ++ [t_at0 s.2.1 (t_v (t_tx g) (s.1 + 1)) 0]) <+: (t_la (t_tx g) 700).2.2.2.2 := hl.2.2.2
    have hx : t_nth (t_la (t_tx g) 700).2.2.2.2 nb = t_at0 s.2.1 (t_v (t_tx g) (s.1 + 1)) 0 := t_nth_some (by
      rw [t_pre_nth hn (by rw [List.length_append]; show nb < s.2.2.2.2.length + 1; omega), show nb = s.2.2.2.2.length by omega, List.getElem?_append_right (Nat.le_refl _), Nat.sub_self]
      rfl)
    have cx : nt = s.2.1.length := by omega
    rw [cx] at eX
    rw [t_fd_pre (t_la_pre (t_G_ok h) hs (by omega)).1, show (nV : Int) = t_v (t_tx g) (s.1 + 1) by omega] at eX
    have cb := t_at_bd s.2.1 (t_v (t_tx g) (s.1 + 1)) 0
    have cs := t_st_bd (t_G_ok h) nm s hs
    rw [hx, t_cl_id (by omega)] at eN
    exact ⟨(by show 0 ≤ 0 + (1 * v 15 + ((-1) * v 17 + (0))); omega), (by show 0 ≤ 0 + ((-1) * v 15 + (1 * v 17 + (0))); omega), (by show 0 ≤ 0 + ((-1) * v 7 + (1 * v 11 + (0))); omega), (by show 0 ≤ 0 + (1 * v 7 + ((-1) * v 11 + (0))); omega), (by show 0 ≤ 0 + ((-1) * v 8 + (1 * v 12 + (0))); omega), (by show 0 ≤ 0 + (1 * v 8 + ((-1) * v 12 + (0))); omega), (by show 0 ≤ 0 + ((-1) * v 9 + (1 * v 13 + (0))); omega), (by show 0 ≤ 0 + (1 * v 9 + ((-1) * v 13 + (0))); omega), (by show 0 ≤ (-1) + ((-1) * v 10 + (1 * v 14 + (0))); omega), (by show 0 ≤ 1 + (1 * v 10 + ((-1) * v 14 + (0))); omega), trivial⟩
  · exfalso
    omega
