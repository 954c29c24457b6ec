/-! rules on the tables, each with its proof (printed by gen_rul.py) -/
-- ctt
set_option maxHeartbeats 4000000 in
theorem t_q164 {g : Nat → Int} (h : t_G g) : t_ok g 3 ([(24178516392292583494123520, [(0, 1)]), (13298184015760920921767936, [(1, 1)]), (43521329506126650289422336, [(0, 1)]), (25387442211907212668829696, [(0, 1)]), (26596368031521841843535872, [(0, 1)]), (27805293851136471018242048, [(0, 1)]), (29014219670751100192948224, [(0, 1)]), (25387442211907212668829697, [(0, 1)]), (26596368031521841843535873, [(0, 1)]), (27805293851136471018242049, [(0, 1)]), (29014219670751100192948225, [(0, 1)]), (30223145490365729367654400, [(2, 1)]), (12089258196146291747061761, [(1, 1)])], [(0, [(0, 1)]), (650, [(0, (-1))]), (0, [(1, 1)]), (650, [(1, (-1))]), (0, [(1, (-1)), (3, 1)]), (0, [(1, 1), (3, (-1))]), (0, [(4, 1)]), (0, [(4, (-1))]), (0, [(5, 1)]), (0, [(2, (-1)), (6, 1)]), (0, [(2, 1), (6, (-1))]), (0, [(2, 1)]), (5, [(2, (-1))])], [(0, [(14, 1), (15, (-1))]), (0, [(14, (-1)), (15, 1)]), ((-1), [(6, (-1)), (10, 1)]), (1, [(6, 1), (10, (-1))]), (0, [(7, (-1)), (11, 1)]), (0, [(7, 1), (11, (-1))]), (0, [(8, (-1)), (12, 1)]), (0, [(8, 1), (12, (-1))]), (0, [(9, (-1)), (13, 1)]), (0, [(9, 1), (13, (-1))])]) := by
  refine t_okI fun v hr hp => ?_
  obtain ⟨rI, rY, rP, rA, rB, rC, rD, rE, rF, rG, rH, rN, rV, -⟩ := hr
  obtain ⟨p0, p1, p2, p3, p4, p5, p6, p7, p8, p9, p10, p11, p12, -⟩ := hp
  have p0 : 0 ≤ 0 + (1 * v 0 + (0)) := p0
  have p1 : 0 ≤ 650 + ((-1) * v 0 + (0)) := p1
  have p2 : 0 ≤ 0 + (1 * v 1 + (0)) := p2
  have p3 : 0 ≤ 650 + ((-1) * v 1 + (0)) := p3
  have p4 : 0 ≤ 0 + ((-1) * v 1 + (1 * v 3 + (0))) := p4
  have p5 : 0 ≤ 0 + (1 * v 1 + ((-1) * v 3 + (0))) := p5
  have p6 : 0 ≤ 0 + (1 * v 4 + (0)) := p6
  have p7 : 0 ≤ 0 + ((-1) * v 4 + (0)) := p7
  have p8 : 0 ≤ 0 + (1 * v 5 + (0)) := p8
  have p9 : 0 ≤ 0 + ((-1) * v 2 + (1 * v 6 + (0))) := p9
  have p10 : 0 ≤ 0 + (1 * v 2 + ((-1) * v 6 + (0))) := p10
  have p11 : 0 ≤ 0 + (1 * v 2 + (0)) := p11
  have p12 : 0 ≤ 5 + ((-1) * v 2 + (0)) := p12
  obtain ⟨nm, hm⟩ : ∃ n : Nat, v 0 = (n : Int) := ⟨(v 0).toNat, by omega⟩
  obtain ⟨ni, hi⟩ : ∃ n : Nat, v 1 = (n : Int) := ⟨(v 1).toNat, by omega⟩
  obtain ⟨nt, ht⟩ : ∃ n : Nat, v 2 = (n : Int) := ⟨(v 2).toNat, by omega⟩
  have rI : ∃ j : Nat, 24178516392292583494123520 + (1 * v 0 + (0)) = (j : Int) ∧ c_gv j (g j) = v 3 := rI
  have eI := t_g20 h nm (by omega) rI (by omega)
  have rY : ∃ j : Nat, 13298184015760920921767936 + (1 * v 1 + (0)) = (j : Int) ∧ c_gv j (g j) = v 4 := rY
  have eY := t_g11 h ni (by omega) rY (by omega)
  have rP : ∃ j : Nat, 43521329506126650289422336 + (1 * v 0 + (0)) = (j : Int) ∧ c_gv j (g j) = v 5 := rP
  have eP := t_g36 h nm (by omega) rP (by omega)
  have rA : ∃ j : Nat, 25387442211907212668829696 + (1 * v 0 + (0)) = (j : Int) ∧ c_gv j (g j) = v 6 := rA
  have eA := t_g21 h nm (by omega) rA (by omega)
  have rB : ∃ j : Nat, 26596368031521841843535872 + (1 * v 0 + (0)) = (j : Int) ∧ c_gv j (g j) = v 7 := rB
  have eB := t_g22 h nm (by omega) rB (by omega)
  have rC : ∃ j : Nat, 27805293851136471018242048 + (1 * v 0 + (0)) = (j : Int) ∧ c_gv j (g j) = v 8 := rC
  have eC := t_g23 h nm (by omega) rC (by omega)
  have rD : ∃ j : Nat, 29014219670751100192948224 + (1 * v 0 + (0)) = (j : Int) ∧ c_gv j (g j) = v 9 := rD
  have eD := t_g24 h nm (by omega) rD (by omega)
  have rE : ∃ j : Nat, 25387442211907212668829697 + (1 * v 0 + (0)) = (j : Int) ∧ c_gv j (g j) = v 10 := rE
  have eE := t_g21 h (nm+1) (by omega) rE (by omega)
  have rF : ∃ j : Nat, 26596368031521841843535873 + (1 * v 0 + (0)) = (j : Int) ∧ c_gv j (g j) = v 11 := rF
  have eF := t_g22 h (nm+1) (by omega) rF (by omega)
  have rG : ∃ j : Nat, 27805293851136471018242049 + (1 * v 0 + (0)) = (j : Int) ∧ c_gv j (g j) = v 12 := rG
  have eG := t_g23 h (nm+1) (by omega) rG (by omega)
  have rH : ∃ j : Nat, 29014219670751100192948225 + (1 * v 0 + (0)) = (j : Int) ∧ c_gv j (g j) = v 13 := rH
  have eH := t_g24 h (nm+1) (by omega) rH (by omega)
  have rN : ∃ j : Nat, 30223145490365729367654400 + (1 * v 2 + (0)) = (j : Int) ∧ c_gv j (g j) = v 14 := rN
  have eN := t_g25 h nt (by omega) rN (by omega)
  have rV : ∃ j : Nat, 12089258196146291747061761 + (1 * v 1 + (0)) = (j : Int) ∧ c_gv j (g j) = v 15 := rV
  have eV := t_g10 h (ni+1) (by omega) rV (by omega)
  obtain ⟨s, hs, rfl⟩ := t_ix_s (X := t_tx g) (m := nm) (i := ni) (by omega)
  have ck := t_ky_k (X := t_tx g) (i := s.1) (by omega)
  obtain ⟨s1, hp, h1⟩ := t_nxt (X := t_tx g) hs (by omega) (by omega)
  have hl := t_la_pre (t_G_ok h) h1 (by omega)
  rw [t_cn_s hs] at eA eB eC eD
  rw [t_cn_s h1] at eE eF eG eH
  rcases t_stp_is (t_G_ok h) hp with ⟨y, a1, a2, rfl⟩ | ⟨y, a1, a2, rfl⟩ | ⟨y, a1, rfl⟩ | ⟨y, a1, a2, rfl⟩
  · have bl : v 10 = (s.2.1.length : Int) + 1 := by
      rw [eE]
      show (((s.2.1 ++ [t_v (t_tx g) (s.1 + 1)]).length : Nat) : Int) = _
      rw [List.length_append]
      rfl
    have bk : v 11 = (s.2.2.1.length : Int) := eF
    have bl : v 12 = (s.2.2.2.1.length : Int) := eG
    have bb : v 13 = (s.2.2.2.2.length : Int) := eH
    have hn : (s.2.1 ++ [t_v (t_tx g) (s.1 + 1)]) <+: (t_la (t_tx g) 700).2.1 := hl.1
    have hx : t_nth (t_la (t_tx g) 700).2.1 nt = t_v (t_tx g) (s.1 + 1) := t_nth_some (by
      rw [t_pre_nth hn (by rw [List.length_append]; show nt < s.2.1.length + 1; omega), show nt = s.2.1.length by omega, List.getElem?_append_right (Nat.le_refl _), Nat.sub_self]
      rfl)
    have cb := t_v_bd (X := t_tx g) (s.1 + 1) (t_G_by h)
    rw [hx, t_cl_id (by omega)] at eN
    exact ⟨(by show 0 ≤ 0 + (1 * v 14 + ((-1) * v 15 + (0))); omega), (by show 0 ≤ 0 + ((-1) * v 14 + (1 * v 15 + (0))); omega), (by show 0 ≤ (-1) + ((-1) * v 6 + (1 * v 10 + (0))); omega), (by show 0 ≤ 1 + (1 * v 6 + ((-1) * v 10 + (0))); omega), (by show 0 ≤ 0 + ((-1) * v 7 + (1 * v 11 + (0))); omega), (by show 0 ≤ 0 + (1 * v 7 + ((-1) * v 11 + (0))); omega), (by show 0 ≤ 0 + ((-1) * v 8 + (1 * v 12 + (0))); omega), (by show 0 ≤ 0 + (1 * v 8 + ((-1) * v 12 + (0))); omega), (by show 0 ≤ 0 + ((-1) * v 9 + (1 * v 13 + (0))); omega), (by show 0 ≤ 0 + (1 * v 9 + ((-1) * v 13 + (0))); omega), trivial⟩
  · exfalso
    omega
  · exfalso
    omega
  · exfalso
    omega
-- ctk
set_option maxHeartbeats 4000000 in
theorem t_q165 {g : Nat → Int} (h : t_G g) : t_ok g 3 ([(24178516392292583494123520, [(0, 1)]), (13298184015760920921767936, [(1, 1)]), (43521329506126650289422336, [(0, 1)]), (25387442211907212668829696, [(0, 1)]), (26596368031521841843535872, [(0, 1)]), (27805293851136471018242048, [(0, 1)]), (29014219670751100192948224, [(0, 1)]), (25387442211907212668829697, [(0, 1)]), (26596368031521841843535873, [(0, 1)]), (27805293851136471018242049, [(0, 1)]), (29014219670751100192948225, [(0, 1)]), (31432071309980358542360576, [(2, 1)]), (12089258196146291747061761, [(1, 1)])], [(0, [(0, 1)]), (650, [(0, (-1))]), (0, [(1, 1)]), (650, [(1, (-1))]), (0, [(1, (-1)), (3, 1)]), (0, [(1, 1), (3, (-1))]), ((-1), [(4, 1)]), (1, [(4, (-1))]), (0, [(5, 1)]), (0, [(2, (-1)), (7, 1)]), (0, [(2, 1), (7, (-1))]), (0, [(2, 1)]), (5, [(2, (-1))])], [(0, [(14, 1), (15, (-1))]), (0, [(14, (-1)), (15, 1)]), (0, [(6, (-1)), (10, 1)]), (0, [(6, 1), (10, (-1))]), ((-1), [(7, (-1)), (11, 1)]), (1, [(7, 1), (11, (-1))]), (0, [(8, (-1)), (12, 1)]), (0, [(8, 1), (12, (-1))]), (0, [(9, (-1)), (13, 1)]), (0, [(9, 1), (13, (-1))])]) := by
  refine t_okI fun v hr hp => ?_
  obtain ⟨rI, rY, rP, rA, rB, rC, rD, rE, rF, rG, rH, rN, rV, -⟩ := hr
  obtain ⟨p0, p1, p2, p3, p4, p5, p6, p7, p8, p9, p10, p11, p12, -⟩ := hp
  have p0 : 0 ≤ 0 + (1 * v 0 + (0)) := p0
  have p1 : 0 ≤ 650 + ((-1) * v 0 + (0)) := p1
  have p2 : 0 ≤ 0 + (1 * v 1 + (0)) := p2
  have p3 : 0 ≤ 650 + ((-1) * v 1 + (0)) := p3
  have p4 : 0 ≤ 0 + ((-1) * v 1 + (1 * v 3 + (0))) := p4
  have p5 : 0 ≤ 0 + (1 * v 1 + ((-1) * v 3 + (0))) := p5
  have p6 : 0 ≤ (-1) + (1 * v 4 + (0)) := p6
  have p7 : 0 ≤ 1 + ((-1) * v 4 + (0)) := p7
  have p8 : 0 ≤ 0 + (1 * v 5 + (0)) := p8
  have p9 : 0 ≤ 0 + ((-1) * v 2 + (1 * v 7 + (0))) := p9
  have p10 : 0 ≤ 0 + (1 * v 2 + ((-1) * v 7 + (0))) := p10
  have p11 : 0 ≤ 0 + (1 * v 2 + (0)) := p11
  have p12 : 0 ≤ 5 + ((-1) * v 2 + (0)) := p12
  obtain ⟨nm, hm⟩ : ∃ n : Nat, v 0 = (n : Int) := ⟨(v 0).toNat, by omega⟩
  obtain ⟨ni, hi⟩ : ∃ n : Nat, v 1 = (n : Int) := ⟨(v 1).toNat, by omega⟩
  obtain ⟨nt, ht⟩ : ∃ n : Nat, v 2 = (n : Int) := ⟨(v 2).toNat, by omega⟩
  have rI : ∃ j : Nat, 24178516392292583494123520 + (1 * v 0 + (0)) = (j : Int) ∧ c_gv j (g j) = v 3 := rI
  have eI := t_g20 h nm (by omega) rI (by omega)
  have rY : ∃ j : Nat, 13298184015760920921767936 + (1 * v 1 + (0)) = (j : Int) ∧ c_gv j (g j) = v 4 := rY
  have eY := t_g11 h ni (by omega) rY (by omega)
  have rP : ∃ j : Nat, 43521329506126650289422336 + (1 * v 0 + (0)) = (j : Int) ∧ c_gv j (g j) = v 5 := rP
  have eP := t_g36 h nm (by omega) rP (by omega)
  have rA : ∃ j : Nat, 25387442211907212668829696 + (1 * v 0 + (0)) = (j : Int) ∧ c_gv j (g j) = v 6 := rA
  have eA := t_g21 h nm (by omega) rA (by omega)
  have rB : ∃ j : Nat, 26596368031521841843535872 + (1 * v 0 + (0)) = (j : Int) ∧ c_gv j (g j) = v 7 := rB
  have eB := t_g22 h nm (by omega) rB (by omega)
  have rC : ∃ j : Nat, 27805293851136471018242048 + (1 * v 0 + (0)) = (j : Int) ∧ c_gv j (g j) = v 8 := rC
  have eC := t_g23 h nm (by omega) rC (by omega)
  have rD : ∃ j : Nat, 29014219670751100192948224 + (1 * v 0 + (0)) = (j : Int) ∧ c_gv j (g j) = v 9 := rD
  have eD := t_g24 h nm (by omega) rD (by omega)
  have rE : ∃ j : Nat, 25387442211907212668829697 + (1 * v 0 + (0)) = (j : Int) ∧ c_gv j (g j) = v 10 := rE
  have eE := t_g21 h (nm+1) (by omega) rE (by omega)
  have rF : ∃ j : Nat, 26596368031521841843535873 + (1 * v 0 + (0)) = (j : Int) ∧ c_gv j (g j) = v 11 := rF
  have eF := t_g22 h (nm+1) (by omega) rF (by omega)
  have rG : ∃ j : Nat, 27805293851136471018242049 + (1 * v 0 + (0)) = (j : Int) ∧ c_gv j (g j) = v 12 := rG
  have eG := t_g23 h (nm+1) (by omega) rG (by omega)
  have rH : ∃ j : Nat, 29014219670751100192948225 + (1 * v 0 + (0)) = (j : Int) ∧ c_gv j (g j) = v 13 := rH
  have eH := t_g24 h (nm+1) (by omega) rH (by omega)
  have rN : ∃ j : Nat, 31432071309980358542360576 + (1 * v 2 + (0)) = (j : Int) ∧ c_gv j (g j) = v 14 := rN
  have eN := t_g26 h nt (by omega) rN (by omega)
  have rV : ∃ j : Nat, 12089258196146291747061761 + (1 * v 1 + (0)) = (j : Int) ∧ c_gv j (g j) = v 15 := rV
  have eV := t_g10 h (ni+1) (by omega) rV (by omega)
  obtain ⟨s, hs, rfl⟩ := t_ix_s (X := t_tx g) (m := nm) (i := ni) (by omega)
  have ck := t_ky_k (X := t_tx g) (i := s.1) (by omega)
  obtain ⟨s1, hp, h1⟩ := t_nxt (X := t_tx g) hs (by omega) (by omega)
  have hl := t_la_pre (t_G_ok h) h1 (by omega)
  rw [t_cn_s hs] at eA eB eC eD
  rw [t_cn_s h1] at eE eF eG eH
  rcases t_stp_is (t_G_ok h) hp with ⟨y, a1, a2, rfl⟩ | ⟨y, a1, a2, rfl⟩ | ⟨y, a1, rfl⟩ | ⟨y, a1, a2, rfl⟩
  · exfalso
    omega
  · have bl : v 11 = (s.2.2.1.length : Int) + 1 := by
      rw [eF]
      show (((s.2.2.1 ++ [t_v (t_tx g) (s.1 + 1)]).length : Nat) : Int) = _
      rw [List.length_append]
      rfl
    have bt : v 10 = (s.2.1.length : Int) := eE
    have bl : v 12 = (s.2.2.2.1.length : Int) := eG
    have bb : v 13 = (s.2.2.2.2.length : Int) := eH
    have hn : (s.2.2.1 ++ [t_v (t_tx g) (s.1 + 1)]) <+: (t_la (t_tx g) 700).2.2.1 := hl.2.1
    have hx : t_nth (t_la (t_tx g) 700).2.2.1 nt = t_v (t_tx g) (s.1 + 1) := t_nth_some (by
      rw [t_pre_nth hn (by rw [List.length_append]; show nt < s.2.2.1.length + 1; omega), show nt = s.2.2.1.length by omega, List.getElem?_append_right (Nat.le_refl _), Nat.sub_self]
      rfl)
    have cb := t_v_bd (X := t_tx g) (s.1 + 1) (t_G_by h)
    rw [hx, t_cl_id (by omega)] at eN
    exact ⟨(by show 0 ≤ 0 + (1 * v 14 + ((-1) * v 15 + (0))); omega), (by show 0 ≤ 0 + ((-1) * v 14 + (1 * v 15 + (0))); omega), (by show 0 ≤ 0 + ((-1) * v 6 + (1 * v 10 + (0))); omega), (by show 0 ≤ 0 + (1 * v 6 + ((-1) * v 10 + (0))); omega), (by show 0 ≤ (-1) + ((-1) * v 7 + (1 * v 11 + (0))); omega), (by show 0 ≤ 1 + (1 * v 7 + ((-1) * v 11 + (0))); omega), (by show 0 ≤ 0 + ((-1) * v 8 + (1 * v 12 + (0))); omega), (by show 0 ≤ 0 + (1 * v 8 + ((-1) * v 12 + (0))); omega), (by show 0 ≤ 0 + ((-1) * v 9 + (1 * v 13 + (0))); omega), (by show 0 ≤ 0 + (1 * v 9 + ((-1) * v 13 + (0))); omega), trivial⟩
  · exfalso
    omega
  · exfalso
    omega
