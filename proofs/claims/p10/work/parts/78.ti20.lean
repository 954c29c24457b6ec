/-! rules on the tables, each with its proof (printed by gen_rul.py) -/
-- kw1
theorem t_q130 {g : Nat → Int} (h : t_G g) : t_ok g 3 ([(25387442211907212668829696, [(0, 1)]), (35058848768824246066479104, [(1, 1073741824), (2, 1024)]), (42312403686512021114716160, [(0, 1), (1, 1073741824)])], [(0, [(0, 1)]), (650, [(0, (-1))]), (0, [(1, 1)]), (1099511627775, [(1, (-1))]), (0, [(2, (-1)), (3, 1)]), (0, [(2, 1), (3, (-1))]), (0, [(4, 1)]), (0, [(2, 1)]), (6, [(2, (-1))])], [((-1), [(5, 1)]), (1, [(5, (-1))])]) := by
  refine t_okI fun v hr hp => ?_
  obtain ⟨rT, rF, rW, -⟩ := hr
  obtain ⟨p0, p1, p2, p3, p4, p5, p6, p7, p8, -⟩ := hp
  have p0 : 0 ≤ 0 + (1 * v 0 + (0)) := p0
  have p1 : 0 ≤ 650 + ((-1) * v 0 + (0)) := p1
  have p2 : 0 ≤ 0 + (1 * v 1 + (0)) := p2
  have p3 : 0 ≤ 1099511627775 + ((-1) * v 1 + (0)) := p3
  have p4 : 0 ≤ 0 + ((-1) * v 2 + (1 * v 3 + (0))) := p4
  have p5 : 0 ≤ 0 + (1 * v 2 + ((-1) * v 3 + (0))) := p5
  have p6 : 0 ≤ 0 + (1 * v 4 + (0)) := p6
  have p7 : 0 ≤ 0 + (1 * v 2 + (0)) := p7
  have p8 : 0 ≤ 6 + ((-1) * v 2 + (0)) := p8
  obtain ⟨nm, hm⟩ : ∃ n : Nat, v 0 = (n : Int) := ⟨(v 0).toNat, by omega⟩
  obtain ⟨nv, hv⟩ : ∃ n : Nat, v 1 = (n : Int) := ⟨(v 1).toNat, by omega⟩
  obtain ⟨nc, hc⟩ : ∃ n : Nat, v 2 = (n : Int) := ⟨(v 2).toNat, by omega⟩
  have rT : ∃ j : Nat, 25387442211907212668829696 + (1 * v 0 + (0)) = (j : Int) ∧ c_gv j (g j) = v 3 := rT
  have eT := t_g21 h nm (by omega) rT (by omega)
  have rF : ∃ j : Nat, 35058848768824246066479104 + (1073741824 * v 1 + (1024 * v 2 + (0))) = (j : Int) ∧ c_gv j (g j) = v 4 := rF
  have eF := t_g29 h 0 nc nv (by omega) (by omega) (by omega) rF (by omega)
  have rW : ∃ j : Nat, 42312403686512021114716160 + (1 * v 0 + (1073741824 * v 1 + (0))) = (j : Int) ∧ c_gv j (g j) = v 5 := rW
  have eW := t_g35 h nm nv (by omega) (by omega) rW (by omega)
  have c := t_kw1 (X := t_tx g) (t_G_ok h) (m := nm) (c := nc) (v := (nv : Int)) (by omega) (by omega) (by omega)
  exact ⟨(by show 0 ≤ (-1) + (1 * v 5 + (0)); omega), (by show 0 ≤ 1 + ((-1) * v 5 + (0)); omega), trivial⟩
-- kw2
theorem t_q131 {g : Nat → Int} (h : t_G g) : t_ok g 3 ([(26596368031521841843535872, [(0, 1)]), (36267774588438875241185280, [(1, 1073741824), (2, 1024)]), (42312403686512021114716160, [(0, 1), (1, 1073741824)])], [(0, [(0, 1)]), (650, [(0, (-1))]), (0, [(1, 1)]), (1099511627775, [(1, (-1))]), (0, [(2, (-1)), (3, 1)]), (0, [(2, 1), (3, (-1))]), (0, [(4, 1)]), (0, [(2, 1)]), (6, [(2, (-1))])], [((-1), [(5, 1)]), (1, [(5, (-1))])]) := by
  refine t_okI fun v hr hp => ?_
  obtain ⟨rT, rF, rW, -⟩ := hr
  obtain ⟨p0, p1, p2, p3, p4, p5, p6, p7, p8, -⟩ := hp
  have p0 : 0 ≤ 0 + (1 * v 0 + (0)) := p0
  have p1 : 0 ≤ 650 + ((-1) * v 0 + (0)) := p1
  have p2 : 0 ≤ 0 + (1 * v 1 + (0)) := p2
  have p3 : 0 ≤ 1099511627775 + ((-1) * v 1 + (0)) := p3
  have p4 : 0 ≤ 0 + ((-1) * v 2 + (1 * v 3 + (0))) := p4
  have p5 : 0 ≤ 0 + (1 * v 2 + ((-1) * v 3 + (0))) := p5
  have p6 : 0 ≤ 0 + (1 * v 4 + (0)) := p6
  have p7 : 0 ≤ 0 + (1 * v 2 + (0)) := p7
  have p8 : 0 ≤ 6 + ((-1) * v 2 + (0)) := p8
  obtain ⟨nm, hm⟩ : ∃ n : Nat, v 0 = (n : Int) := ⟨(v 0).toNat, by omega⟩
  obtain ⟨nv, hv⟩ : ∃ n : Nat, v 1 = (n : Int) := ⟨(v 1).toNat, by omega⟩
  obtain ⟨nc, hc⟩ : ∃ n : Nat, v 2 = (n : Int) := ⟨(v 2).toNat, by omega⟩
  have rT : ∃ j : Nat, 26596368031521841843535872 + (1 * v 0 + (0)) = (j : Int) ∧ c_gv j (g j) = v 3 := rT
  have eT := t_g22 h nm (by omega) rT (by omega)
  have rF : ∃ j : Nat, 36267774588438875241185280 + (1073741824 * v 1 + (1024 * v 2 + (0))) = (j : Int) ∧ c_gv j (g j) = v 4 := rF
  have eF := t_g30 h 0 nc nv (by omega) (by omega) (by omega) rF (by omega)
  have rW : ∃ j : Nat, 42312403686512021114716160 + (1 * v 0 + (1073741824 * v 1 + (0))) = (j : Int) ∧ c_gv j (g j) = v 5 := rW
  have eW := t_g35 h nm nv (by omega) (by omega) rW (by omega)
  have c := t_kw2 (X := t_tx g) (t_G_ok h) (m := nm) (c := nc) (v := (nv : Int)) (by omega) (by omega) (by omega)
  exact ⟨(by show 0 ≤ (-1) + (1 * v 5 + (0)); omega), (by show 0 ≤ 1 + ((-1) * v 5 + (0)); omega), trivial⟩
-- kw3
theorem t_q132 {g : Nat → Int} (h : t_G g) : t_ok g 3 ([(27805293851136471018242048, [(0, 1)]), (37476700408053504415891456, [(1, 1073741824), (2, 1024)]), (42312403686512021114716160, [(0, 1), (1, 1073741824)])], [(0, [(0, 1)]), (650, [(0, (-1))]), (0, [(1, 1)]), (1099511627775, [(1, (-1))]), (0, [(2, (-1)), (3, 1)]), (0, [(2, 1), (3, (-1))]), (0, [(4, 1)]), (0, [(2, 1)]), (6, [(2, (-1))])], [((-1), [(5, 1)]), (1, [(5, (-1))])]) := by
  refine t_okI fun v hr hp => ?_
  obtain ⟨rT, rF, rW, -⟩ := hr
  obtain ⟨p0, p1, p2, p3, p4, p5, p6, p7, p8, -⟩ := hp
  have p0 : 0 ≤ 0 + (1 * v 0 + (0)) := p0
  have p1 : 0 ≤ 650 + ((-1) * v 0 + (0)) := p1
  have p2 : 0 ≤ 0 + (1 * v 1 + (0)) := p2
  have p3 : 0 ≤ 1099511627775 + ((-1) * v 1 + (0)) := p3
  have p4 : 0 ≤ 0 + ((-1) * v 2 + (1 * v 3 + (0))) := p4
  have p5 : 0 ≤ 0 + (1 * v 2 + ((-1) * v 3 + (0))) := p5
  have p6 : 0 ≤ 0 + (1 * v 4 + (0)) := p6
  have p7 : 0 ≤ 0 + (1 * v 2 + (0)) := p7
  have p8 : 0 ≤ 6 + ((-1) * v 2 + (0)) := p8
  obtain ⟨nm, hm⟩ : ∃ n : Nat, v 0 = (n : Int) := ⟨(v 0).toNat, by omega⟩
  obtain ⟨nv, hv⟩ : ∃ n : Nat, v 1 = (n : Int) := ⟨(v 1).toNat, by omega⟩
  obtain ⟨nc, hc⟩ : ∃ n : Nat, v 2 = (n : Int) := ⟨(v 2).toNat, by omega⟩
  have rT : ∃ j : Nat, 27805293851136471018242048 + (1 * v 0 + (0)) = (j : Int) ∧ c_gv j (g j) = v 3 := rT
  have eT := t_g23 h nm (by omega) rT (by omega)
  have rF : ∃ j : Nat, 37476700408053504415891456 + (1073741824 * v 1 + (1024 * v 2 + (0))) = (j : Int) ∧ c_gv j (g j) = v 4 := rF
  have eF := t_g31 h 0 nc nv (by omega) (by omega) (by omega) rF (by omega)
  have rW : ∃ j : Nat, 42312403686512021114716160 + (1 * v 0 + (1073741824 * v 1 + (0))) = (j : Int) ∧ c_gv j (g j) = v 5 := rW
  have eW := t_g35 h nm nv (by omega) (by omega) rW (by omega)
  have c := t_kw3 (X := t_tx g) (t_G_ok h) (m := nm) (c := nc) (v := (nv : Int)) (by omega) (by omega) (by omega)
  exact ⟨(by show 0 ≤ (-1) + (1 * v 5 + (0)); omega), (by show 0 ≤ 1 + ((-1) * v 5 + (0)); omega), trivial⟩
-- kw0
theorem t_q133 {g : Nat → Int} (h : t_G g) : t_ok g 5 ([(25387442211907212668829696, [(0, 1)]), (26596368031521841843535872, [(0, 1)]), (27805293851136471018242048, [(0, 1)]), (35058848768824246066479104, [(1, 1073741824), (2, 1024)]), (36267774588438875241185280, [(1, 1073741824), (3, 1024)]), (37476700408053504415891456, [(1, 1073741824), (4, 1024)]), (42312403686512021114716160, [(0, 1), (1, 1073741824)])], [(0, [(0, 1)]), (650, [(0, (-1))]), (0, [(1, 1)]), (1099511627775, [(1, (-1))]), (0, [(2, (-1)), (5, 1)]), (0, [(2, 1), (5, (-1))]), (0, [(3, (-1)), (6, 1)]), (0, [(3, 1), (6, (-1))]), (0, [(4, (-1)), (7, 1)]), (0, [(4, 1), (7, (-1))]), (0, [(2, 1)]), (6, [(2, (-1))]), (0, [(3, 1)]), (6, [(3, (-1))]), (0, [(4, 1)]), (6, [(4, (-1))]), ((-1), [(8, (-1))]), ((-1), [(9, (-1))]), ((-1), [(10, (-1))])], [(0, [(11, 1)]), (0, [(11, (-1))])]) := by
  refine t_okI fun v hr hp => ?_
  obtain ⟨rA, rB, rC, rF, rG, rH, rW, -⟩ := hr
  obtain ⟨p0, p1, p2, p3, p4, p5, p6, p7, p8, p9, p10, p11, p12, p13, p14, p15, p16, p17, p18, -⟩ := hp
  have p0 : 0 ≤ 0 + (1 * v 0 + (0)) := p0
  have p1 : 0 ≤ 650 + ((-1) * v 0 + (0)) := p1
  have p2 : 0 ≤ 0 + (1 * v 1 + (0)) := p2
  have p3 : 0 ≤ 1099511627775 + ((-1) * v 1 + (0)) := p3
  have p4 : 0 ≤ 0 + ((-1) * v 2 + (1 * v 5 + (0))) := p4
  have p5 : 0 ≤ 0 + (1 * v 2 + ((-1) * v 5 + (0))) := p5
  have p6 : 0 ≤ 0 + ((-1) * v 3 + (1 * v 6 + (0))) := p6
  have p7 : 0 ≤ 0 + (1 * v 3 + ((-1) * v 6 + (0))) := p7
  have p8 : 0 ≤ 0 + ((-1) * v 4 + (1 * v 7 + (0))) := p8
  have p9 : 0 ≤ 0 + (1 * v 4 + ((-1) * v 7 + (0))) := p9
  have p10 : 0 ≤ 0 + (1 * v 2 + (0)) := p10
  have p11 : 0 ≤ 6 + ((-1) * v 2 + (0)) := p11
  have p12 : 0 ≤ 0 + (1 * v 3 + (0)) := p12
  have p13 : 0 ≤ 6 + ((-1) * v 3 + (0)) := p13
  have p14 : 0 ≤ 0 + (1 * v 4 + (0)) := p14
  have p15 : 0 ≤ 6 + ((-1) * v 4 + (0)) := p15
  have p16 : 0 ≤ (-1) + ((-1) * v 8 + (0)) := p16
  have p17 : 0 ≤ (-1) + ((-1) * v 9 + (0)) := p17
  have p18 : 0 ≤ (-1) + ((-1) * v 10 + (0)) := p18
  obtain ⟨nm, hm⟩ : ∃ n : Nat, v 0 = (n : Int) := ⟨(v 0).toNat, by omega⟩
  obtain ⟨nv, hv⟩ : ∃ n : Nat, v 1 = (n : Int) := ⟨(v 1).toNat, by omega⟩
  obtain ⟨nt, ht⟩ : ∃ n : Nat, v 2 = (n : Int) := ⟨(v 2).toNat, by omega⟩
  obtain ⟨nk, hk⟩ : ∃ n : Nat, v 3 = (n : Int) := ⟨(v 3).toNat, by omega⟩
  obtain ⟨nl, hl⟩ : ∃ n : Nat, v 4 = (n : Int) := ⟨(v 4).toNat, by omega⟩
  have rA : ∃ j : Nat, 25387442211907212668829696 + (1 * v 0 + (0)) = (j : Int) ∧ c_gv j (g j) = v 5 := rA
  have eA := t_g21 h nm (by omega) rA (by omega)
  have rB : ∃ j : Nat, 26596368031521841843535872 + (1 * v 0 + (0)) = (j : Int) ∧ c_gv j (g j) = v 6 := rB
  have eB := t_g22 h nm (by omega) rB (by omega)
  have rC : ∃ j : Nat, 27805293851136471018242048 + (1 * v 0 + (0)) = (j : Int) ∧ c_gv j (g j) = v 7 := rC
  have eC := t_g23 h nm (by omega) rC (by omega)
  have rF : ∃ j : Nat, 35058848768824246066479104 + (1073741824 * v 1 + (1024 * v 2 + (0))) = (j : Int) ∧ c_gv j (g j) = v 8 := rF
  have eF := t_g29 h 0 nt nv (by omega) (by omega) (by omega) rF (by omega)
  have rG : ∃ j : Nat, 36267774588438875241185280 + (1073741824 * v 1 + (1024 * v 3 + (0))) = (j : Int) ∧ c_gv j (g j) = v 9 := rG
  have eG := t_g30 h 0 nk nv (by omega) (by omega) (by omega) rG (by omega)
  have rH : ∃ j : Nat, 37476700408053504415891456 + (1073741824 * v 1 + (1024 * v 4 + (0))) = (j : Int) ∧ c_gv j (g j) = v 10 := rH
  have eH := t_g31 h 0 nl nv (by omega) (by omega) (by omega) rH (by omega)
  have rW : ∃ j : Nat, 42312403686512021114716160 + (1 * v 0 + (1073741824 * v 1 + (0))) = (j : Int) ∧ c_gv j (g j) = v 11 := rW
  have eW := t_g35 h nm nv (by omega) (by omega) rW (by omega)
  have c := t_kw0 (X := t_tx g) (t_G_ok h) (m := nm) (v := (nv : Int)) (a := nt) (b := nk) (c := nl) (by omega) (by omega) (by omega) (by omega) (by omega) (by omega) (by omega)
  exact ⟨(by show 0 ≤ 0 + (1 * v 11 + (0)); omega), (by show 0 ≤ 0 + ((-1) * v 11 + (0)); omega), trivial⟩
-- tkA0
theorem t_q134 {g : Nat → Int} (h : t_G g) : t_ok g 2 ([(24178516392292583494123520, [(0, 1)]), (25387442211907212668829696, [(0, 1)]), (41103477866897391940009984, [(0, 1)])], [(0, [(0, 1)]), (650, [(0, (-1))]), (0, [(1, 1)]), (650, [(1, (-1))]), (0, [(1, (-1)), (2, 1)]), (0, [(1, 1), (2, (-1))]), ((-6), [(3, 1)])], [(1, [(4, 1)]), ((-1), [(4, (-1))])]) := by
  refine t_okI fun v hr hp => ?_
  obtain ⟨rI, rC, rT, -⟩ := hr
  obtain ⟨p0, p1, p2, p3, p4, p5, p6, -⟩ := hp
  have p0 : 0 ≤ 0 + (1 * v 0 + (0)) := p0
  have p1 : 0 ≤ 650 + ((-1) * v 0 + (0)) := p1
  have p2 : 0 ≤ 0 + (1 * v 1 + (0)) := p2
  have p3 : 0 ≤ 650 + ((-1) * v 1 + (0)) := p3
  have p4 : 0 ≤ 0 + ((-1) * v 1 + (1 * v 2 + (0))) := p4
  have p5 : 0 ≤ 0 + (1 * v 1 + ((-1) * v 2 + (0))) := p5
  have p6 : 0 ≤ (-6) + (1 * v 3 + (0)) := p6
  obtain ⟨nm, hm⟩ : ∃ n : Nat, v 0 = (n : Int) := ⟨(v 0).toNat, by omega⟩
  obtain ⟨ni, hi⟩ : ∃ n : Nat, v 1 = (n : Int) := ⟨(v 1).toNat, by omega⟩
  have rI : ∃ j : Nat, 24178516392292583494123520 + (1 * v 0 + (0)) = (j : Int) ∧ c_gv j (g j) = v 2 := rI
  have eI := t_g20 h nm (by omega) rI (by omega)
  have rC : ∃ j : Nat, 25387442211907212668829696 + (1 * v 0 + (0)) = (j : Int) ∧ c_gv j (g j) = v 3 := rC
  have eC := t_g21 h nm (by omega) rC (by omega)
  have rT : ∃ j : Nat, 41103477866897391940009984 + (1 * v 0 + (0)) = (j : Int) ∧ c_gv j (g j) = v 4 := rT
  have eT := t_g34 h nm 0 (by omega) (by omega) rT (by omega)
  obtain ⟨s, hs, rfl⟩ := t_ix_s (X := t_tx g) (m := nm) (i := ni) (by omega)
  rw [t_tk0 hs] at eT
  rw [t_cn_s hs] at eC
  rw [if_neg (fun h9 : t_nwp (t_tx g) s s.2.1 6 = true => by have h8 := (t_nwp_iff.mp h9).1; omega)] at eT
  exact ⟨(by show 0 ≤ 1 + (1 * v 4 + (0)); omega), (by show 0 ≤ (-1) + ((-1) * v 4 + (0)); omega), trivial⟩
-- tkB0
theorem t_q135 {g : Nat → Int} (h : t_G g) : t_ok g 2 ([(24178516392292583494123520, [(0, 1)]), (25387442211907212668829696, [(0, 1)]), (41103477866897391940009984, [(0, 1)]), (19342813113834066795298817, [(1, 1)])], [(0, [(0, 1)]), (650, [(0, (-1))]), (0, [(1, 1)]), (650, [(1, (-1))]), (0, [(1, (-1)), (2, 1)]), (0, [(1, 1), (2, (-1))]), (0, [(5, 1)]), (0, [(5, (-1))])], [(1, [(4, 1)]), ((-1), [(4, (-1))])]) := by
  refine t_okI fun v hr hp => ?_
  obtain ⟨rI, rC, rT, rS, -⟩ := hr
  obtain ⟨p0, p1, p2, p3, p4, p5, p6, p7, -⟩ := hp
  have p0 : 0 ≤ 0 + (1 * v 0 + (0)) := p0
  have p1 : 0 ≤ 650 + ((-1) * v 0 + (0)) := p1
  have p2 : 0 ≤ 0 + (1 * v 1 + (0)) := p2
  have p3 : 0 ≤ 650 + ((-1) * v 1 + (0)) := p3
  have p4 : 0 ≤ 0 + ((-1) * v 1 + (1 * v 2 + (0))) := p4
  have p5 : 0 ≤ 0 + (1 * v 1 + ((-1) * v 2 + (0))) := p5
  have p6 : 0 ≤ 0 + (1 * v 5 + (0)) := p6
  have p7 : 0 ≤ 0 + ((-1) * v 5 + (0)) := p7
  obtain ⟨nm, hm⟩ : ∃ n : Nat, v 0 = (n : Int) := ⟨(v 0).toNat, by omega⟩
  obtain ⟨ni, hi⟩ : ∃ n : Nat, v 1 = (n : Int) := ⟨(v 1).toNat, by omega⟩
  have rI : ∃ j : Nat, 24178516392292583494123520 + (1 * v 0 + (0)) = (j : Int) ∧ c_gv j (g j) = v 2 := rI
  have eI := t_g20 h nm (by omega) rI (by omega)
  have rC : ∃ j : Nat, 25387442211907212668829696 + (1 * v 0 + (0)) = (j : Int) ∧ c_gv j (g j) = v 3 := rC
  have eC := t_g21 h nm (by omega) rC (by omega)
  have rT : ∃ j : Nat, 41103477866897391940009984 + (1 * v 0 + (0)) = (j : Int) ∧ c_gv j (g j) = v 4 := rT
  have eT := t_g34 h nm 0 (by omega) (by omega) rT (by omega)
  have rS : ∃ j : Nat, 19342813113834066795298817 + (1 * v 1 + (0)) = (j : Int) ∧ c_gv j (g j) = v 5 := rS
  have eS := t_g16 h (ni+1) (by omega) rS (by omega)
  obtain ⟨s, hs, rfl⟩ := t_ix_s (X := t_tx g) (m := nm) (i := ni) (by omega)
  rw [t_tk0 hs] at eT
  rw [t_cn_s hs] at eC
  have ceS : t_nam (t_tx g) (s.1 + 1) = false := by
    cases h9 : t_nam (t_tx g) (s.1 + 1) with
    | false => rfl
    | true =>
      exfalso
      rw [h9] at eS
      have eS : v 5 = 1 := eS
      omega
  have deS : ¬(t_nam (t_tx g) (s.1 + 1) = true) := by rw [ceS]; exact Bool.false_ne_true
  rw [t_nam_iff] at deS
  rw [if_neg (fun h9 : t_nwp (t_tx g) s s.2.1 6 = true => by have h8 := (t_nwp_iff.mp h9).2.1; rw [ceS] at h8; cases h8)] at eT
  exact ⟨(by show 0 ≤ 1 + (1 * v 4 + (0)); omega), (by show 0 ≤ (-1) + ((-1) * v 4 + (0)); omega), trivial⟩
-- tkC0
theorem t_q136 {g : Nat → Int} (h : t_G g) : t_ok g 3 ([(24178516392292583494123520, [(0, 1)]), (25387442211907212668829696, [(0, 1)]), (41103477866897391940009984, [(0, 1)]), (19342813113834066795298817, [(1, 1)]), (12089258196146291747061761, [(1, 1)]), (42312403686512021114716160, [(0, 1), (2, 1073741824)])], [(0, [(0, 1)]), (650, [(0, (-1))]), (0, [(1, 1)]), (650, [(1, (-1))]), (0, [(2, 1)]), (1099511627775, [(2, (-1))]), (0, [(1, (-1)), (3, 1)]), (0, [(1, 1), (3, (-1))]), (0, [(2, (-1)), (7, 1)]), (0, [(2, 1), (7, (-1))]), ((-1), [(8, 1)]), (1, [(8, (-1))])], [(1, [(5, 1)]), ((-1), [(5, (-1))])]) := by
  refine t_okI fun v hr hp => ?_
  obtain ⟨rI, rC, rT, rS, rV, rW, -⟩ := hr
  obtain ⟨p0, p1, p2, p3, p4, p5, p6, p7, p8, p9, p10, p11, -⟩ := hp
  have p0 : 0 ≤ 0 + (1 * v 0 + (0)) := p0
  have p1 : 0 ≤ 650 + ((-1) * v 0 + (0)) := p1
  have p2 : 0 ≤ 0 + (1 * v 1 + (0)) := p2
  have p3 : 0 ≤ 650 + ((-1) * v 1 + (0)) := p3
  have p4 : 0 ≤ 0 + (1 * v 2 + (0)) := p4
  have p5 : 0 ≤ 1099511627775 + ((-1) * v 2 + (0)) := p5
  have p6 : 0 ≤ 0 + ((-1) * v 1 + (1 * v 3 + (0))) := p6
  have p7 : 0 ≤ 0 + (1 * v 1 + ((-1) * v 3 + (0))) := p7
  have p8 : 0 ≤ 0 + ((-1) * v 2 + (1 * v 7 + (0))) := p8
  have p9 : 0 ≤ 0 + (1 * v 2 + ((-1) * v 7 + (0))) := p9
  have p10 : 0 ≤ (-1) + (1 * v 8 + (0)) := p10
  have p11 : 0 ≤ 1 + ((-1) * v 8 + (0)) := p11
  obtain ⟨nm, hm⟩ : ∃ n : Nat, v 0 = (n : Int) := ⟨(v 0).toNat, by omega⟩
  obtain ⟨ni, hi⟩ : ∃ n : Nat, v 1 = (n : Int) := ⟨(v 1).toNat, by omega⟩
  obtain ⟨nv, hv⟩ : ∃ n : Nat, v 2 = (n : Int) := ⟨(v 2).toNat, by omega⟩
  have rI : ∃ j : Nat, 24178516392292583494123520 + (1 * v 0 + (0)) = (j : Int) ∧ c_gv j (g j) = v 3 := rI
  have eI := t_g20 h nm (by omega) rI (by omega)
  have rC : ∃ j : Nat, 25387442211907212668829696 + (1 * v 0 + (0)) = (j : Int) ∧ c_gv j (g j) = v 4 := rC
  have eC := t_g21 h nm (by omega) rC (by omega)
  have rT : ∃ j : Nat, 41103477866897391940009984 + (1 * v 0 + (0)) = (j : Int) ∧ c_gv j (g j) = v 5 := rT
  have eT := t_g34 h nm 0 (by omega) (by omega) rT (by omega)
  have rS : ∃ j : Nat, 19342813113834066795298817 + (1 * v 1 + (0)) = (j : Int) ∧ c_gv j (g j) = v 6 := rS
  have eS := t_g16 h (ni+1) (by omega) rS (by omega)
  have rV : ∃ j : Nat, 12089258196146291747061761 + (1 * v 1 + (0)) = (j : Int) ∧ c_gv j (g j) = v 7 := rV
  have eV := t_g10 h (ni+1) (by omega) rV (by omega)
  have rW : ∃ j : Nat, 42312403686512021114716160 + (1 * v 0 + (1073741824 * v 2 + (0))) = (j : Int) ∧ c_gv j (g j) = v 8 := rW
  have eW := t_g35 h nm nv (by omega) (by omega) rW (by omega)
  obtain ⟨s, hs, rfl⟩ := t_ix_s (X := t_tx g) (m := nm) (i := ni) (by omega)
  rw [t_tk0 hs] at eT
  rw [t_cn_s hs] at eC
  rw [t_kw_s hs] at eW
  have ceW : t_kno s (nv : Int) = true := by
    cases h9 : t_kno s (nv : Int) with
    | true => rfl
    | false =>
      exfalso
      rw [h9] at eW
      have eW : v 8 = 0 := eW
      omega
  have deW := t_kno_iff.mp ceW
  rw [if_neg (fun h9 : t_nwp (t_tx g) s s.2.1 6 = true => by have h8 := (t_nwp_iff.mp h9).2.2; rw [show t_v (t_tx g) (s.1 + 1) = (nv : Int) by omega, ceW] at h8; cases h8)] at eT
  exact ⟨(by show 0 ≤ 1 + (1 * v 5 + (0)); omega), (by show 0 ≤ (-1) + ((-1) * v 5 + (0)); omega), trivial⟩
-- tkD0
theorem t_q137 {g : Nat → Int} (h : t_G g) : t_ok g 3 ([(24178516392292583494123520, [(0, 1)]), (25387442211907212668829696, [(0, 1)]), (41103477866897391940009984, [(0, 1)]), (19342813113834066795298817, [(1, 1)]), (12089258196146291747061761, [(1, 1)]), (42312403686512021114716160, [(0, 1), (2, 1073741824)])], [(0, [(0, 1)]), (650, [(0, (-1))]), (0, [(1, 1)]), (650, [(1, (-1))]), (0, [(2, 1)]), (1099511627775, [(2, (-1))]), (0, [(1, (-1)), (3, 1)]), (0, [(1, 1), (3, (-1))]), (5, [(4, (-1))]), ((-1), [(6, 1)]), (1, [(6, (-1))]), (0, [(2, (-1)), (7, 1)]), (0, [(2, 1), (7, (-1))]), (0, [(8, 1)]), (0, [(8, (-1))])], [((-2), [(1, (-1)), (5, 1)]), (2, [(1, 1), (5, (-1))])]) := by
  refine t_okI fun v hr hp => ?_
  obtain ⟨rI, rC, rT, rS, rV, rW, -⟩ := hr
  obtain ⟨p0, p1, p2, p3, p4, p5, p6, p7, p8, p9, p10, p11, p12, p13, p14, -⟩ := hp
  have p0 : 0 ≤ 0 + (1 * v 0 + (0)) := p0
  have p1 : 0 ≤ 650 + ((-1) * v 0 + (0)) := p1
  have p2 : 0 ≤ 0 + (1 * v 1 + (0)) := p2
  have p3 : 0 ≤ 650 + ((-1) * v 1 + (0)) := p3
  have p4 : 0 ≤ 0 + (1 * v 2 + (0)) := p4
  have p5 : 0 ≤ 1099511627775 + ((-1) * v 2 + (0)) := p5
  have p6 : 0 ≤ 0 + ((-1) * v 1 + (1 * v 3 + (0))) := p6
  have p7 : 0 ≤ 0 + (1 * v 1 + ((-1) * v 3 + (0))) := p7
  have p8 : 0 ≤ 5 + ((-1) * v 4 + (0)) := p8
  have p9 : 0 ≤ (-1) + (1 * v 6 + (0)) := p9
  have p10 : 0 ≤ 1 + ((-1) * v 6 + (0)) := p10
  have p11 : 0 ≤ 0 + ((-1) * v 2 + (1 * v 7 + (0))) := p11
  have p12 : 0 ≤ 0 + (1 * v 2 + ((-1) * v 7 + (0))) := p12
  have p13 : 0 ≤ 0 + (1 * v 8 + (0)) := p13
  have p14 : 0 ≤ 0 + ((-1) * v 8 + (0)) := p14
  obtain ⟨nm, hm⟩ : ∃ n : Nat, v 0 = (n : Int) := ⟨(v 0).toNat, by omega⟩
  obtain ⟨ni, hi⟩ : ∃ n : Nat, v 1 = (n : Int) := ⟨(v 1).toNat, by omega⟩
  obtain ⟨nv, hv⟩ : ∃ n : Nat, v 2 = (n : Int) := ⟨(v 2).toNat, by omega⟩
  have rI : ∃ j : Nat, 24178516392292583494123520 + (1 * v 0 + (0)) = (j : Int) ∧ c_gv j (g j) = v 3 := rI
  have eI := t_g20 h nm (by omega) rI (by omega)
  have rC : ∃ j : Nat, 25387442211907212668829696 + (1 * v 0 + (0)) = (j : Int) ∧ c_gv j (g j) = v 4 := rC
  have eC := t_g21 h nm (by omega) rC (by omega)
  have rT : ∃ j : Nat, 41103477866897391940009984 + (1 * v 0 + (0)) = (j : Int) ∧ c_gv j (g j) = v 5 := rT
  have eT := t_g34 h nm 0 (by omega) (by omega) rT (by omega)
  have rS : ∃ j : Nat, 19342813113834066795298817 + (1 * v 1 + (0)) = (j : Int) ∧ c_gv j (g j) = v 6 := rS
  have eS := t_g16 h (ni+1) (by omega) rS (by omega)
  have rV : ∃ j : Nat, 12089258196146291747061761 + (1 * v 1 + (0)) = (j : Int) ∧ c_gv j (g j) = v 7 := rV
  have eV := t_g10 h (ni+1) (by omega) rV (by omega)
  have rW : ∃ j : Nat, 42312403686512021114716160 + (1 * v 0 + (1073741824 * v 2 + (0))) = (j : Int) ∧ c_gv j (g j) = v 8 := rW
  have eW := t_g35 h nm nv (by omega) (by omega) rW (by omega)
  obtain ⟨s, hs, rfl⟩ := t_ix_s (X := t_tx g) (m := nm) (i := ni) (by omega)
  rw [t_tk0 hs] at eT
  rw [t_cn_s hs] at eC
  rw [t_kw_s hs] at eW
  have ceW : t_kno s (nv : Int) = false := by
    cases h9 : t_kno s (nv : Int) with
    | false => rfl
    | true =>
      exfalso
      rw [h9] at eW
      have eW : v 8 = 1 := eW
      omega
  have deW : ¬(t_kno s (nv : Int) = true) := by rw [ceW]; exact Bool.false_ne_true
  rw [t_kno_iff] at deW
  have ceS : t_nam (t_tx g) (s.1 + 1) = true := by
    cases h9 : t_nam (t_tx g) (s.1 + 1) with
    | true => rfl
    | false =>
      exfalso
      rw [h9] at eS
      have eS : v 6 = 0 := eS
      omega
  have deS := t_nam_iff.mp ceS
  rw [if_pos (t_nwp_iff.mpr ⟨by omega, ceS, by rw [show t_v (t_tx g) (s.1 + 1) = (nv : Int) by omega]; exact ceW⟩)] at eT
  exact ⟨(by show 0 ≤ (-2) + ((-1) * v 1 + (1 * v 5 + (0))); omega), (by show 0 ≤ 2 + (1 * v 1 + ((-1) * v 5 + (0))); omega), trivial⟩
-- tkA1
theorem t_q138 {g : Nat → Int} (h : t_G g) : t_ok g 2 ([(24178516392292583494123520, [(0, 1)]), (26596368031521841843535872, [(0, 1)]), (41103477866897391941058560, [(0, 1)])], [(0, [(0, 1)]), (650, [(0, (-1))]), (0, [(1, 1)]), (650, [(1, (-1))]), (0, [(1, (-1)), (2, 1)]), (0, [(1, 1), (2, (-1))]), ((-6), [(3, 1)])], [(1, [(4, 1)]), ((-1), [(4, (-1))])]) := by
  refine t_okI fun v hr hp => ?_
  obtain ⟨rI, rC, rT, -⟩ := hr
  obtain ⟨p0, p1, p2, p3, p4, p5, p6, -⟩ := hp
  have p0 : 0 ≤ 0 + (1 * v 0 + (0)) := p0
  have p1 : 0 ≤ 650 + ((-1) * v 0 + (0)) := p1
  have p2 : 0 ≤ 0 + (1 * v 1 + (0)) := p2
  have p3 : 0 ≤ 650 + ((-1) * v 1 + (0)) := p3
  have p4 : 0 ≤ 0 + ((-1) * v 1 + (1 * v 2 + (0))) := p4
  have p5 : 0 ≤ 0 + (1 * v 1 + ((-1) * v 2 + (0))) := p5
  have p6 : 0 ≤ (-6) + (1 * v 3 + (0)) := p6
  obtain ⟨nm, hm⟩ : ∃ n : Nat, v 0 = (n : Int) := ⟨(v 0).toNat, by omega⟩
  obtain ⟨ni, hi⟩ : ∃ n : Nat, v 1 = (n : Int) := ⟨(v 1).toNat, by omega⟩
  have rI : ∃ j : Nat, 24178516392292583494123520 + (1 * v 0 + (0)) = (j : Int) ∧ c_gv j (g j) = v 2 := rI
  have eI := t_g20 h nm (by omega) rI (by omega)
  have rC : ∃ j : Nat, 26596368031521841843535872 + (1 * v 0 + (0)) = (j : Int) ∧ c_gv j (g j) = v 3 := rC
  have eC := t_g22 h nm (by omega) rC (by omega)
  have rT : ∃ j : Nat, 41103477866897391941058560 + (1 * v 0 + (0)) = (j : Int) ∧ c_gv j (g j) = v 4 := rT
  have eT := t_g34 h nm 1 (by omega) (by omega) rT (by omega)
  obtain ⟨s, hs, rfl⟩ := t_ix_s (X := t_tx g) (m := nm) (i := ni) (by omega)
  rw [t_tk1 hs] at eT
  rw [t_cn_s hs] at eC
  rw [if_neg (fun h9 : t_nwp (t_tx g) s s.2.2.1 6 = true => by have h8 := (t_nwp_iff.mp h9).1; omega)] at eT
  exact ⟨(by show 0 ≤ 1 + (1 * v 4 + (0)); omega), (by show 0 ≤ (-1) + ((-1) * v 4 + (0)); omega), trivial⟩
-- tkB1
theorem t_q139 {g : Nat → Int} (h : t_G g) : t_ok g 2 ([(24178516392292583494123520, [(0, 1)]), (26596368031521841843535872, [(0, 1)]), (41103477866897391941058560, [(0, 1)]), (19342813113834066795298817, [(1, 1)])], [(0, [(0, 1)]), (650, [(0, (-1))]), (0, [(1, 1)]), (650, [(1, (-1))]), (0, [(1, (-1)), (2, 1)]), (0, [(1, 1), (2, (-1))]), (0, [(5, 1)]), (0, [(5, (-1))])], [(1, [(4, 1)]), ((-1), [(4, (-1))])]) := by
  refine t_okI fun v hr hp => ?_
  obtain ⟨rI, rC, rT, rS, -⟩ := hr
  obtain ⟨p0, p1, p2, p3, p4, p5, p6, p7, -⟩ := hp
  have p0 : 0 ≤ 0 + (1 * v 0 + (0)) := p0
  have p1 : 0 ≤ 650 + ((-1) * v 0 + (0)) := p1
  have p2 : 0 ≤ 0 + (1 * v 1 + (0)) := p2
  have p3 : 0 ≤ 650 + ((-1) * v 1 + (0)) := p3
  have p4 : 0 ≤ 0 + ((-1) * v 1 + (1 * v 2 + (0))) := p4
  have p5 : 0 ≤ 0 + (1 * v 1 + ((-1) * v 2 + (0))) := p5
  have p6 : 0 ≤ 0 + (1 * v 5 + (0)) := p6
  have p7 : 0 ≤ 0 + ((-1) * v 5 + (0)) := p7
  obtain ⟨nm, hm⟩ : ∃ n : Nat, v 0 = (n : Int) := ⟨(v 0).toNat, by omega⟩
  obtain ⟨ni, hi⟩ : ∃ n : Nat, v 1 = (n : Int) := ⟨(v 1).toNat, by omega⟩
  have rI : ∃ j : Nat, 24178516392292583494123520 + (1 * v 0 + (0)) = (j : Int) ∧ c_gv j (g j) = v 2 := rI
  have eI := t_g20 h nm (by omega) rI (by omega)
  have rC : ∃ j : Nat, 26596368031521841843535872 + (1 * v 0 + (0)) = (j : Int) ∧ c_gv j (g j) = v 3 := rC
  have eC := t_g22 h nm (by omega) rC (by omega)
  have rT : ∃ j : Nat, 41103477866897391941058560 + (1 * v 0 + (0)) = (j : Int) ∧ c_gv j (g j) = v 4 := rT
  have eT := t_g34 h nm 1 (by omega) (by omega) rT (by omega)
  have rS : ∃ j : Nat, 19342813113834066795298817 + (1 * v 1 + (0)) = (j : Int) ∧ c_gv j (g j) = v 5 := rS
  have eS := t_g16 h (ni+1) (by omega) rS (by omega)
  obtain ⟨s, hs, rfl⟩ := t_ix_s (X := t_tx g) (m := nm) (i := ni) (by omega)
  rw [t_tk1 hs] at eT
  rw [t_cn_s hs] at eC
  have ceS : t_nam (t_tx g) (s.1 + 1) = false := by
    cases h9 : t_nam (t_tx g) (s.1 + 1) with
    | false => rfl
    | true =>
      exfalso
      rw [h9] at eS
      have eS : v 5 = 1 := eS
      omega
  have deS : ¬(t_nam (t_tx g) (s.1 + 1) = true) := by rw [ceS]; exact Bool.false_ne_true
  rw [t_nam_iff] at deS
  rw [if_neg (fun h9 : t_nwp (t_tx g) s s.2.2.1 6 = true => by have h8 := (t_nwp_iff.mp h9).2.1; rw [ceS] at h8; cases h8)] at eT
  exact ⟨(by show 0 ≤ 1 + (1 * v 4 + (0)); omega), (by show 0 ≤ (-1) + ((-1) * v 4 + (0)); omega), trivial⟩
-- tkC1
theorem t_q140 {g : Nat → Int} (h : t_G g) : t_ok g 3 ([(24178516392292583494123520, [(0, 1)]), (26596368031521841843535872, [(0, 1)]), (41103477866897391941058560, [(0, 1)]), (19342813113834066795298817, [(1, 1)]), (12089258196146291747061761, [(1, 1)]), (42312403686512021114716160, [(0, 1), (2, 1073741824)])], [(0, [(0, 1)]), (650, [(0, (-1))]), (0, [(1, 1)]), (650, [(1, (-1))]), (0, [(2, 1)]), (1099511627775, [(2, (-1))]), (0, [(1, (-1)), (3, 1)]), (0, [(1, 1), (3, (-1))]), (0, [(2, (-1)), (7, 1)]), (0, [(2, 1), (7, (-1))]), ((-1), [(8, 1)]), (1, [(8, (-1))])], [(1, [(5, 1)]), ((-1), [(5, (-1))])]) := by
  refine t_okI fun v hr hp => ?_
  obtain ⟨rI, rC, rT, rS, rV, rW, -⟩ := hr
  obtain ⟨p0, p1, p2, p3, p4, p5, p6, p7, p8, p9, p10, p11, -⟩ := hp
  have p0 : 0 ≤ 0 + (1 * v 0 + (0)) := p0
  have p1 : 0 ≤ 650 + ((-1) * v 0 + (0)) := p1
  have p2 : 0 ≤ 0 + (1 * v 1 + (0)) := p2
  have p3 : 0 ≤ 650 + ((-1) * v 1 + (0)) := p3
  have p4 : 0 ≤ 0 + (1 * v 2 + (0)) := p4
  have p5 : 0 ≤ 1099511627775 + ((-1) * v 2 + (0)) := p5
  have p6 : 0 ≤ 0 + ((-1) * v 1 + (1 * v 3 + (0))) := p6
  have p7 : 0 ≤ 0 + (1 * v 1 + ((-1) * v 3 + (0))) := p7
  have p8 : 0 ≤ 0 + ((-1) * v 2 + (1 * v 7 + (0))) := p8
  have p9 : 0 ≤ 0 + (1 * v 2 + ((-1) * v 7 + (0))) := p9
  have p10 : 0 ≤ (-1) + (1 * v 8 + (0)) := p10
  have p11 : 0 ≤ 1 + ((-1) * v 8 + (0)) := p11
  obtain ⟨nm, hm⟩ : ∃ n : Nat, v 0 = (n : Int) := ⟨(v 0).toNat, by omega⟩
  obtain ⟨ni, hi⟩ : ∃ n : Nat, v 1 = (n : Int) := ⟨(v 1).toNat, by omega⟩
  obtain ⟨nv, hv⟩ : ∃ n : Nat, v 2 = (n : Int) := ⟨(v 2).toNat, by omega⟩
  have rI : ∃ j : Nat, 24178516392292583494123520 + (1 * v 0 + (0)) = (j : Int) ∧ c_gv j (g j) = v 3 := rI
  have eI := t_g20 h nm (by omega) rI (by omega)
  have rC : ∃ j : Nat, 26596368031521841843535872 + (1 * v 0 + (0)) = (j : Int) ∧ c_gv j (g j) = v 4 := rC
  have eC := t_g22 h nm (by omega) rC (by omega)
  have rT : ∃ j : Nat, 41103477866897391941058560 + (1 * v 0 + (0)) = (j : Int) ∧ c_gv j (g j) = v 5 := rT
  have eT := t_g34 h nm 1 (by omega) (by omega) rT (by omega)
  have rS : ∃ j : Nat, 19342813113834066795298817 + (1 * v 1 + (0)) = (j : Int) ∧ c_gv j (g j) = v 6 := rS
  have eS := t_g16 h (ni+1) (by omega) rS (by omega)
  have rV : ∃ j : Nat, 12089258196146291747061761 + (1 * v 1 + (0)) = (j : Int) ∧ c_gv j (g j) = v 7 := rV
  have eV := t_g10 h (ni+1) (by omega) rV (by omega)
  have rW : ∃ j : Nat, 42312403686512021114716160 + (1 * v 0 + (1073741824 * v 2 + (0))) = (j : Int) ∧ c_gv j (g j) = v 8 := rW
  have eW := t_g35 h nm nv (by omega) (by omega) rW (by omega)
  obtain ⟨s, hs, rfl⟩ := t_ix_s (X := t_tx g) (m := nm) (i := ni) (by omega)
  rw [t_tk1 hs] at eT
  rw [t_cn_s hs] at eC
  rw [t_kw_s hs] at eW
  have ceW : t_kno s (nv : Int) = true := by
    cases h9 : t_kno s (nv : Int) with
    | true => rfl
    | false =>
      exfalso
      rw [h9] at eW
      have eW : v 8 = 0 := eW
      omega
  have deW := t_kno_iff.mp ceW
  rw [if_neg (fun h9 : t_nwp (t_tx g) s s.2.2.1 6 = true => by have h8 := (t_nwp_iff.mp h9).2.2; rw [show t_v (t_tx g) (s.1 + 1) = (nv : Int) by omega, ceW] at h8; cases h8)] at eT
  exact ⟨(by show 0 ≤ 1 + (1 * v 5 + (0)); omega), (by show 0 ≤ (-1) + ((-1) * v 5 + (0)); omega), trivial⟩
-- tkD1
theorem t_q141 {g : Nat → Int} (h : t_G g) : t_ok g 3 ([(24178516392292583494123520, [(0, 1)]), (26596368031521841843535872, [(0, 1)]), (41103477866897391941058560, [(0, 1)]), (19342813113834066795298817, [(1, 1)]), (12089258196146291747061761, [(1, 1)]), (42312403686512021114716160, [(0, 1), (2, 1073741824)])], [(0, [(0, 1)]), (650, [(0, (-1))]), (0, [(1, 1)]), (650, [(1, (-1))]), (0, [(2, 1)]), (1099511627775, [(2, (-1))]), (0, [(1, (-1)), (3, 1)]), (0, [(1, 1), (3, (-1))]), (5, [(4, (-1))]), ((-1), [(6, 1)]), (1, [(6, (-1))]), (0, [(2, (-1)), (7, 1)]), (0, [(2, 1), (7, (-1))]), (0, [(8, 1)]), (0, [(8, (-1))])], [((-2), [(1, (-1)), (5, 1)]), (2, [(1, 1), (5, (-1))])]) := by
  refine t_okI fun v hr hp => ?_
  obtain ⟨rI, rC, rT, rS, rV, rW, -⟩ := hr
  obtain ⟨p0, p1, p2, p3, p4, p5, p6, p7, p8, p9, p10, p11, p12, p13, p14, -⟩ := hp
  have p0 : 0 ≤ 0 + (1 * v 0 + (0)) := p0
  have p1 : 0 ≤ 650 + ((-1) * v 0 + (0)) := p1
  have p2 : 0 ≤ 0 + (1 * v 1 + (0)) := p2
  have p3 : 0 ≤ 650 + ((-1) * v 1 + (0)) := p3
  have p4 : 0 ≤ 0 + (1 * v 2 + (0)) := p4
  have p5 : 0 ≤ 1099511627775 + ((-1) * v 2 + (0)) := p5
  have p6 : 0 ≤ 0 + ((-1) * v 1 + (1 * v 3 + (0))) := p6
  have p7 : 0 ≤ 0 + (1 * v 1 + ((-1) * v 3 + (0))) := p7
  have p8 : 0 ≤ 5 + ((-1) * v 4 + (0)) := p8
  have p9 : 0 ≤ (-1) + (1 * v 6 + (0)) := p9
  have p10 : 0 ≤ 1 + ((-1) * v 6 + (0)) := p10
  have p11 : 0 ≤ 0 + ((-1) * v 2 + (1 * v 7 + (0))) := p11
  have p12 : 0 ≤ 0 + (1 * v 2 + ((-1) * v 7 + (0))) := p12
  have p13 : 0 ≤ 0 + (1 * v 8 + (0)) := p13
  have p14 : 0 ≤ 0 + ((-1) * v 8 + (0)) := p14
  obtain ⟨nm, hm⟩ : ∃ n : Nat, v 0 = (n : Int) := ⟨(v 0).toNat, by omega⟩
  obtain ⟨ni, hi⟩ : ∃ n : Nat, v 1 = (n : Int) := ⟨(v 1).toNat, by omega⟩
  obtain ⟨nv, hv⟩ : ∃ n : Nat, v 2 = (n : Int) := ⟨(v 2).toNat, by omega⟩
  have rI : ∃ j : Nat, 24178516392292583494123520 + (1 * v 0 + (0)) = (j : Int) ∧ c_gv j (g j) = v 3 := rI
  have eI := t_g20 h nm (by omega) rI (by omega)
  have rC : ∃ j : Nat, 26596368031521841843535872 + (1 * v 0 + (0)) = (j : Int) ∧ c_gv j (g j) = v 4 := rC
  have eC := t_g22 h nm (by omega) rC (by omega)
  have rT : ∃ j : Nat, 41103477866897391941058560 + (1 * v 0 + (0)) = (j : Int) ∧ c_gv j (g j) = v 5 := rT
  have eT := t_g34 h nm 1 (by omega) (by omega) rT (by omega)
  have rS : ∃ j : Nat, 19342813113834066795298817 + (1 * v 1 + (0)) = (j : Int) ∧ c_gv j (g j) = v 6 := rS
  have eS := t_g16 h (ni+1) (by omega) rS (by omega)
  have rV : ∃ j : Nat, 12089258196146291747061761 + (1 * v 1 + (0)) = (j : Int) ∧ c_gv j (g j) = v 7 := rV
  have eV := t_g10 h (ni+1) (by omega) rV (by omega)
  have rW : ∃ j : Nat, 42312403686512021114716160 + (1 * v 0 + (1073741824 * v 2 + (0))) = (j : Int) ∧ c_gv j (g j) = v 8 := rW
  have eW := t_g35 h nm nv (by omega) (by omega) rW (by omega)
  obtain ⟨s, hs, rfl⟩ := t_ix_s (X := t_tx g) (m := nm) (i := ni) (by omega)
  rw [t_tk1 hs] at eT
  rw [t_cn_s hs] at eC
  rw [t_kw_s hs] at eW
  have ceW : t_kno s (nv : Int) = false := by
    cases h9 : t_kno s (nv : Int) with
    | false => rfl
    | true =>
      exfalso
      rw [h9] at eW
      have eW : v 8 = 1 := eW
      omega
  have deW : ¬(t_kno s (nv : Int) = true) := by rw [ceW]; exact Bool.false_ne_true
  rw [t_kno_iff] at deW
  have ceS : t_nam (t_tx g) (s.1 + 1) = true := by
    cases h9 : t_nam (t_tx g) (s.1 + 1) with
    | true => rfl
    | false =>
      exfalso
      rw [h9] at eS
      have eS : v 6 = 0 := eS
      omega
  have deS := t_nam_iff.mp ceS
  rw [if_pos (t_nwp_iff.mpr ⟨by omega, ceS, by rw [show t_v (t_tx g) (s.1 + 1) = (nv : Int) by omega]; exact ceW⟩)] at eT
  exact ⟨(by show 0 ≤ (-2) + ((-1) * v 1 + (1 * v 5 + (0))); omega), (by show 0 ≤ 2 + (1 * v 1 + ((-1) * v 5 + (0))); omega), trivial⟩
-- tkA2
theorem t_q142 {g : Nat → Int} (h : t_G g) : t_ok g 2 ([(24178516392292583494123520, [(0, 1)]), (27805293851136471018242048, [(0, 1)]), (41103477866897391942107136, [(0, 1)])], [(0, [(0, 1)]), (650, [(0, (-1))]), (0, [(1, 1)]), (650, [(1, (-1))]), (0, [(1, (-1)), (2, 1)]), (0, [(1, 1), (2, (-1))]), ((-4), [(3, 1)])], [(1, [(4, 1)]), ((-1), [(4, (-1))])]) := by
  refine t_okI fun v hr hp => ?_
  obtain ⟨rI, rC, rT, -⟩ := hr
  obtain ⟨p0, p1, p2, p3, p4, p5, p6, -⟩ := hp
  have p0 : 0 ≤ 0 + (1 * v 0 + (0)) := p0
  have p1 : 0 ≤ 650 + ((-1) * v 0 + (0)) := p1
  have p2 : 0 ≤ 0 + (1 * v 1 + (0)) := p2
  have p3 : 0 ≤ 650 + ((-1) * v 1 + (0)) := p3
  have p4 : 0 ≤ 0 + ((-1) * v 1 + (1 * v 2 + (0))) := p4
  have p5 : 0 ≤ 0 + (1 * v 1 + ((-1) * v 2 + (0))) := p5
  have p6 : 0 ≤ (-4) + (1 * v 3 + (0)) := p6
  obtain ⟨nm, hm⟩ : ∃ n : Nat, v 0 = (n : Int) := ⟨(v 0).toNat, by omega⟩
  obtain ⟨ni, hi⟩ : ∃ n : Nat, v 1 = (n : Int) := ⟨(v 1).toNat, by omega⟩
  have rI : ∃ j : Nat, 24178516392292583494123520 + (1 * v 0 + (0)) = (j : Int) ∧ c_gv j (g j) = v 2 := rI
  have eI := t_g20 h nm (by omega) rI (by omega)
  have rC : ∃ j : Nat, 27805293851136471018242048 + (1 * v 0 + (0)) = (j : Int) ∧ c_gv j (g j) = v 3 := rC
  have eC := t_g23 h nm (by omega) rC (by omega)
  have rT : ∃ j : Nat, 41103477866897391942107136 + (1 * v 0 + (0)) = (j : Int) ∧ c_gv j (g j) = v 4 := rT
  have eT := t_g34 h nm 2 (by omega) (by omega) rT (by omega)
  obtain ⟨s, hs, rfl⟩ := t_ix_s (X := t_tx g) (m := nm) (i := ni) (by omega)
  rw [t_tk2 hs] at eT
  rw [t_cn_s hs] at eC
  rw [if_neg (fun h9 : t_nwp (t_tx g) s s.2.2.2.1 4 = true => by have h8 := (t_nwp_iff.mp h9).1; omega)] at eT
  exact ⟨(by show 0 ≤ 1 + (1 * v 4 + (0)); omega), (by show 0 ≤ (-1) + ((-1) * v 4 + (0)); omega), trivial⟩
-- tkB2
theorem t_q143 {g : Nat → Int} (h : t_G g) : t_ok g 2 ([(24178516392292583494123520, [(0, 1)]), (27805293851136471018242048, [(0, 1)]), (41103477866897391942107136, [(0, 1)]), (19342813113834066795298817, [(1, 1)])], [(0, [(0, 1)]), (650, [(0, (-1))]), (0, [(1, 1)]), (650, [(1, (-1))]), (0, [(1, (-1)), (2, 1)]), (0, [(1, 1), (2, (-1))]), (0, [(5, 1)]), (0, [(5, (-1))])], [(1, [(4, 1)]), ((-1), [(4, (-1))])]) := by
  refine t_okI fun v hr hp => ?_
  obtain ⟨rI, rC, rT, rS, -⟩ := hr
  obtain ⟨p0, p1, p2, p3, p4, p5, p6, p7, -⟩ := hp
  have p0 : 0 ≤ 0 + (1 * v 0 + (0)) := p0
  have p1 : 0 ≤ 650 + ((-1) * v 0 + (0)) := p1
  have p2 : 0 ≤ 0 + (1 * v 1 + (0)) := p2
  have p3 : 0 ≤ 650 + ((-1) * v 1 + (0)) := p3
  have p4 : 0 ≤ 0 + ((-1) * v 1 + (1 * v 2 + (0))) := p4
  have p5 : 0 ≤ 0 + (1 * v 1 + ((-1) * v 2 + (0))) := p5
  have p6 : 0 ≤ 0 + (1 * v 5 + (0)) := p6
  have p7 : 0 ≤ 0 + ((-1) * v 5 + (0)) := p7
  obtain ⟨nm, hm⟩ : ∃ n : Nat, v 0 = (n : Int) := ⟨(v 0).toNat, by omega⟩
  obtain ⟨ni, hi⟩ : ∃ n : Nat, v 1 = (n : Int) := ⟨(v 1).toNat, by omega⟩
  have rI : ∃ j : Nat, 24178516392292583494123520 + (1 * v 0 + (0)) = (j : Int) ∧ c_gv j (g j) = v 2 := rI
  have eI := t_g20 h nm (by omega) rI (by omega)
  have rC : ∃ j : Nat, 27805293851136471018242048 + (1 * v 0 + (0)) = (j : Int) ∧ c_gv j (g j) = v 3 := rC
  have eC := t_g23 h nm (by omega) rC (by omega)
  have rT : ∃ j : Nat, 41103477866897391942107136 + (1 * v 0 + (0)) = (j : Int) ∧ c_gv j (g j) = v 4 := rT
  have eT := t_g34 h nm 2 (by omega) (by omega) rT (by omega)
  have rS : ∃ j : Nat, 19342813113834066795298817 + (1 * v 1 + (0)) = (j : Int) ∧ c_gv j (g j) = v 5 := rS
  have eS := t_g16 h (ni+1) (by omega) rS (by omega)
  obtain ⟨s, hs, rfl⟩ := t_ix_s (X := t_tx g) (m := nm) (i := ni) (by omega)
  rw [t_tk2 hs] at eT
  rw [t_cn_s hs] at eC
  have ceS : t_nam (t_tx g) (s.1 + 1) = false := by
    cases h9 : t_nam (t_tx g) (s.1 + 1) with
    | false => rfl
    | true =>
      exfalso
      rw [h9] at eS
      have eS : v 5 = 1 := eS
      omega
  have deS : ¬(t_nam (t_tx g) (s.1 + 1) = true) := by rw [ceS]; exact Bool.false_ne_true
  rw [t_nam_iff] at deS
  rw [if_neg (fun h9 : t_nwp (t_tx g) s s.2.2.2.1 4 = true => by have h8 := (t_nwp_iff.mp h9).2.1; rw [ceS] at h8; cases h8)] at eT
  exact ⟨(by show 0 ≤ 1 + (1 * v 4 + (0)); omega), (by show 0 ≤ (-1) + ((-1) * v 4 + (0)); omega), trivial⟩
-- tkC2
theorem t_q144 {g : Nat → Int} (h : t_G g) : t_ok g 3 ([(24178516392292583494123520, [(0, 1)]), (27805293851136471018242048, [(0, 1)]), (41103477866897391942107136, [(0, 1)]), (19342813113834066795298817, [(1, 1)]), (12089258196146291747061761, [(1, 1)]), (42312403686512021114716160, [(0, 1), (2, 1073741824)])], [(0, [(0, 1)]), (650, [(0, (-1))]), (0, [(1, 1)]), (650, [(1, (-1))]), (0, [(2, 1)]), (1099511627775, [(2, (-1))]), (0, [(1, (-1)), (3, 1)]), (0, [(1, 1), (3, (-1))]), (0, [(2, (-1)), (7, 1)]), (0, [(2, 1), (7, (-1))]), ((-1), [(8, 1)]), (1, [(8, (-1))])], [(1, [(5, 1)]), ((-1), [(5, (-1))])]) := by
  refine t_okI fun v hr hp => ?_
  obtain ⟨rI, rC, rT, rS, rV, rW, -⟩ := hr
  obtain ⟨p0, p1, p2, p3, p4, p5, p6, p7, p8, p9, p10, p11, -⟩ := hp
  have p0 : 0 ≤ 0 + (1 * v 0 + (0)) := p0
  have p1 : 0 ≤ 650 + ((-1) * v 0 + (0)) := p1
  have p2 : 0 ≤ 0 + (1 * v 1 + (0)) := p2
  have p3 : 0 ≤ 650 + ((-1) * v 1 + (0)) := p3
  have p4 : 0 ≤ 0 + (1 * v 2 + (0)) := p4
  have p5 : 0 ≤ 1099511627775 + ((-1) * v 2 + (0)) := p5
  have p6 : 0 ≤ 0 + ((-1) * v 1 + (1 * v 3 + (0))) := p6
  have p7 : 0 ≤ 0 + (1 * v 1 + ((-1) * v 3 + (0))) := p7
  have p8 : 0 ≤ 0 + ((-1) * v 2 + (1 * v 7 + (0))) := p8
  have p9 : 0 ≤ 0 + (1 * v 2 + ((-1) * v 7 + (0))) := p9
  have p10 : 0 ≤ (-1) + (1 * v 8 + (0)) := p10
  have p11 : 0 ≤ 1 + ((-1) * v 8 + (0)) := p11
  obtain ⟨nm, hm⟩ : ∃ n : Nat, v 0 = (n : Int) := ⟨(v 0).toNat, by omega⟩
  obtain ⟨ni, hi⟩ : ∃ n : Nat, v 1 = (n : Int) := ⟨(v 1).toNat, by omega⟩
  obtain ⟨nv, hv⟩ : ∃ n : Nat, v 2 = (n : Int) := ⟨(v 2).toNat, by omega⟩
  have rI : ∃ j : Nat, 24178516392292583494123520 + (1 * v 0 + (0)) = (j : Int) ∧ c_gv j (g j) = v 3 := rI
  have eI := t_g20 h nm (by omega) rI (by omega)
  have rC : ∃ j : Nat, 27805293851136471018242048 + (1 * v 0 + (0)) = (j : Int) ∧ c_gv j (g j) = v 4 := rC
  have eC := t_g23 h nm (by omega) rC (by omega)
  have rT : ∃ j : Nat, 41103477866897391942107136 + (1 * v 0 + (0)) = (j : Int) ∧ c_gv j (g j) = v 5 := rT
  have eT := t_g34 h nm 2 (by omega) (by omega) rT (by omega)
  have rS : ∃ j : Nat, 19342813113834066795298817 + (1 * v 1 + (0)) = (j : Int) ∧ c_gv j (g j) = v 6 := rS
  have eS := t_g16 h (ni+1) (by omega) rS (by omega)
  have rV : ∃ j : Nat, 12089258196146291747061761 + (1 * v 1 + (0)) = (j : Int) ∧ c_gv j (g j) = v 7 := rV
  have eV := t_g10 h (ni+1) (by omega) rV (by omega)
  have rW : ∃ j : Nat, 42312403686512021114716160 + (1 * v 0 + (1073741824 * v 2 + (0))) = (j : Int) ∧ c_gv j (g j) = v 8 := rW
  have eW := t_g35 h nm nv (by omega) (by omega) rW (by omega)
  obtain ⟨s, hs, rfl⟩ := t_ix_s (X := t_tx g) (m := nm) (i := ni) (by omega)
  rw [t_tk2 hs] at eT
  rw [t_cn_s hs] at eC
  rw [t_kw_s hs] at eW
  have ceW : t_kno s (nv : Int) = true := by
    cases h9 : t_kno s (nv : Int) with
    | true => rfl
    | false =>
      exfalso
      rw [h9] at eW
      have eW : v 8 = 0 := eW
      omega
  have deW := t_kno_iff.mp ceW
  rw [if_neg (fun h9 : t_nwp (t_tx g) s s.2.2.2.1 4 = true => by have h8 := (t_nwp_iff.mp h9).2.2; rw [show t_v (t_tx g) (s.1 + 1) = (nv : Int) by omega, ceW] at h8; cases h8)] at eT
  exact ⟨(by show 0 ≤ 1 + (1 * v 5 + (0)); omega), (by show 0 ≤ (-1) + ((-1) * v 5 + (0)); omega), trivial⟩
-- tkD2
theorem t_q145 {g : Nat → Int} (h : t_G g) : t_ok g 3 ([(24178516392292583494123520, [(0, 1)]), (27805293851136471018242048, [(0, 1)]), (41103477866897391942107136, [(0, 1)]), (19342813113834066795298817, [(1, 1)]), (12089258196146291747061761, [(1, 1)]), (42312403686512021114716160, [(0, 1), (2, 1073741824)])], [(0, [(0, 1)]), (650, [(0, (-1))]), (0, [(1, 1)]), (650, [(1, (-1))]), (0, [(2, 1)]), (1099511627775, [(2, (-1))]), (0, [(1, (-1)), (3, 1)]), (0, [(1, 1), (3, (-1))]), (3, [(4, (-1))]), ((-1), [(6, 1)]), (1, [(6, (-1))]), (0, [(2, (-1)), (7, 1)]), (0, [(2, 1), (7, (-1))]), (0, [(8, 1)]), (0, [(8, (-1))])], [((-2), [(1, (-1)), (5, 1)]), (2, [(1, 1), (5, (-1))])]) := by
  refine t_okI fun v hr hp => ?_
  obtain ⟨rI, rC, rT, rS, rV, rW, -⟩ := hr
  obtain ⟨p0, p1, p2, p3, p4, p5, p6, p7, p8, p9, p10, p11, p12, p13, p14, -⟩ := hp
  have p0 : 0 ≤ 0 + (1 * v 0 + (0)) := p0
  have p1 : 0 ≤ 650 + ((-1) * v 0 + (0)) := p1
  have p2 : 0 ≤ 0 + (1 * v 1 + (0)) := p2
  have p3 : 0 ≤ 650 + ((-1) * v 1 + (0)) := p3
  have p4 : 0 ≤ 0 + (1 * v 2 + (0)) := p4
  have p5 : 0 ≤ 1099511627775 + ((-1) * v 2 + (0)) := p5
  have p6 : 0 ≤ 0 + ((-1) * v 1 + (1 * v 3 + (0))) := p6
  have p7 : 0 ≤ 0 + (1 * v 1 + ((-1) * v 3 + (0))) := p7
  have p8 : 0 ≤ 3 + ((-1) * v 4 + (0)) := p8
  have p9 : 0 ≤ (-1) + (1 * v 6 + (0)) := p9
  have p10 : 0 ≤ 1 + ((-1) * v 6 + (0)) := p10
  have p11 : 0 ≤ 0 + ((-1) * v 2 + (1 * v 7 + (0))) := p11
  have p12 : 0 ≤ 0 + (1 * v 2 + ((-1) * v 7 + (0))) := p12
  have p13 : 0 ≤ 0 + (1 * v 8 + (0)) := p13
  have p14 : 0 ≤ 0 + ((-1) * v 8 + (0)) := p14
  obtain ⟨nm, hm⟩ : ∃ n : Nat, v 0 = (n : Int) := ⟨(v 0).toNat, by omega⟩
  obtain ⟨ni, hi⟩ : ∃ n : Nat, v 1 = (n : Int) := ⟨(v 1).toNat, by omega⟩
  obtain ⟨nv, hv⟩ : ∃ n : Nat, v 2 = (n : Int) := ⟨(v 2).toNat, by omega⟩
  have rI : ∃ j : Nat, 24178516392292583494123520 + (1 * v 0 + (0)) = (j : Int) ∧ c_gv j (g j) = v 3 := rI
  have eI := t_g20 h nm (by omega) rI (by omega)
  have rC : ∃ j : Nat, 27805293851136471018242048 + (1 * v 0 + (0)) = (j : Int) ∧ c_gv j (g j) = v 4 := rC
  have eC := t_g23 h nm (by omega) rC (by omega)
  have rT : ∃ j : Nat, 41103477866897391942107136 + (1 * v 0 + (0)) = (j : Int) ∧ c_gv j (g j) = v 5 := rT
  have eT := t_g34 h nm 2 (by omega) (by omega) rT (by omega)
  have rS : ∃ j : Nat, 19342813113834066795298817 + (1 * v 1 + (0)) = (j : Int) ∧ c_gv j (g j) = v 6 := rS
  have eS := t_g16 h (ni+1) (by omega) rS (by omega)
  have rV : ∃ j : Nat, 12089258196146291747061761 + (1 * v 1 + (0)) = (j : Int) ∧ c_gv j (g j) = v 7 := rV
  have eV := t_g10 h (ni+1) (by omega) rV (by omega)
  have rW : ∃ j : Nat, 42312403686512021114716160 + (1 * v 0 + (1073741824 * v 2 + (0))) = (j : Int) ∧ c_gv j (g j) = v 8 := rW
  have eW := t_g35 h nm nv (by omega) (by omega) rW (by omega)
  obtain ⟨s, hs, rfl⟩ := t_ix_s (X := t_tx g) (m := nm) (i := ni) (by omega)
  rw [t_tk2 hs] at eT
  rw [t_cn_s hs] at eC
  rw [t_kw_s hs] at eW
  have ceW : t_kno s (nv : Int) = false := by
    cases h9 : t_kno s (nv : Int) with
    | false => rfl
    | true =>
      exfalso
      rw [h9] at eW
      have eW : v 8 = 1 := eW
      omega
  have deW : ¬(t_kno s (nv : Int) = true) := by rw [ceW]; exact Bool.false_ne_true
  rw [t_kno_iff] at deW
  have ceS : t_nam (t_tx g) (s.1 + 1) = true := by
    cases h9 : t_nam (t_tx g) (s.1 + 1) with
    | true => rfl
    | false =>
      exfalso
      rw [h9] at eS
      have eS : v 6 = 0 := eS
      omega
  have deS := t_nam_iff.mp ceS
  rw [if_pos (t_nwp_iff.mpr ⟨by omega, ceS, by rw [show t_v (t_tx g) (s.1 + 1) = (nv : Int) by omega]; exact ceW⟩)] at eT
  exact ⟨(by show 0 ≤ (-2) + ((-1) * v 1 + (1 * v 5 + (0))); omega), (by show 0 ≤ 2 + (1 * v 1 + ((-1) * v 5 + (0))); omega), trivial⟩
-- cgI
theorem t_q146 {g : Nat → Int} (h : t_G g) : t_ok g 2 ([(19342813113834066795298816, [(0, 1)]), (19342813113834066795298816, [(1, 1)])], [(0, [(0, 1)]), (700, [(0, (-1))]), (0, [(0, (-1)), (1, 1)]), (0, [(0, 1), (1, (-1))])], [(0, [(2, 1), (3, (-1))]), (0, [(2, (-1)), (3, 1)])]) := by
  refine t_okI fun v hr hp => ?_
  obtain ⟨rA, rB, -⟩ := hr
  obtain ⟨p0, p1, p2, p3, -⟩ := hp
  have p0 : 0 ≤ 0 + (1 * v 0 + (0)) := p0
  have p1 : 0 ≤ 700 + ((-1) * v 0 + (0)) := p1
  have p2 : 0 ≤ 0 + ((-1) * v 0 + (1 * v 1 + (0))) := p2
  have p3 : 0 ≤ 0 + (1 * v 0 + ((-1) * v 1 + (0))) := p3
  obtain ⟨ni, hi⟩ : ∃ n : Nat, v 0 = (n : Int) := ⟨(v 0).toNat, by omega⟩
  obtain ⟨nj, hj⟩ : ∃ n : Nat, v 1 = (n : Int) := ⟨(v 1).toNat, by omega⟩
  have rA : ∃ j : Nat, 19342813113834066795298816 + (1 * v 0 + (0)) = (j : Int) ∧ c_gv j (g j) = v 2 := rA
  have eA := t_g16 h ni (by omega) rA (by omega)
  have rB : ∃ j : Nat, 19342813113834066795298816 + (1 * v 1 + (0)) = (j : Int) ∧ c_gv j (g j) = v 3 := rB
  have eB := t_g16 h nj (by omega) rB (by omega)
  have c : nj = ni := by omega
  subst c
  exact ⟨(by show 0 ≤ 0 + (1 * v 2 + ((-1) * v 3 + (0))); omega), (by show 0 ≤ 0 + ((-1) * v 2 + (1 * v 3 + (0))); omega), trivial⟩
-- cgV
theorem t_q147 {g : Nat → Int} (h : t_G g) : t_ok g 2 ([(12089258196146291747061760, [(0, 1)]), (12089258196146291747061760, [(1, 1)])], [(0, [(0, 1)]), (700, [(0, (-1))]), (0, [(0, (-1)), (1, 1)]), (0, [(0, 1), (1, (-1))])], [(0, [(2, 1), (3, (-1))]), (0, [(2, (-1)), (3, 1)])]) := by
  refine t_okI fun v hr hp => ?_
  obtain ⟨rA, rB, -⟩ := hr
  obtain ⟨p0, p1, p2, p3, -⟩ := hp
  have p0 : 0 ≤ 0 + (1 * v 0 + (0)) := p0
  have p1 : 0 ≤ 700 + ((-1) * v 0 + (0)) := p1
  have p2 : 0 ≤ 0 + ((-1) * v 0 + (1 * v 1 + (0))) := p2
  have p3 : 0 ≤ 0 + (1 * v 0 + ((-1) * v 1 + (0))) := p3
  obtain ⟨ni, hi⟩ : ∃ n : Nat, v 0 = (n : Int) := ⟨(v 0).toNat, by omega⟩
  obtain ⟨nj, hj⟩ : ∃ n : Nat, v 1 = (n : Int) := ⟨(v 1).toNat, by omega⟩
  have rA : ∃ j : Nat, 12089258196146291747061760 + (1 * v 0 + (0)) = (j : Int) ∧ c_gv j (g j) = v 2 := rA
  have eA := t_g10 h ni (by omega) rA (by omega)
  have rB : ∃ j : Nat, 12089258196146291747061760 + (1 * v 1 + (0)) = (j : Int) ∧ c_gv j (g j) = v 3 := rB
  have eB := t_g10 h nj (by omega) rB (by omega)
  have c : nj = ni := by omega
  subst c
  exact ⟨(by show 0 ≤ 0 + (1 * v 2 + ((-1) * v 3 + (0))); omega), (by show 0 ≤ 0 + ((-1) * v 2 + (1 * v 3 + (0))); omega), trivial⟩
-- ptF0
theorem t_q148 {g : Nat → Int} (h : t_G g) : t_ok g 2 ([(24178516392292583494123520, [(0, 1)]), (13298184015760920921767936, [(1, 1)]), (41103477866897391940009984, [(0, 1)]), (43521329506126650289422336, [(0, 1)])], [(0, [(0, 1)]), (650, [(0, (-1))]), (0, [(1, 1)]), (650, [(1, (-1))]), (0, [(1, (-1)), (2, 1)]), (0, [(1, 1), (2, (-1))]), (0, [(3, 1)]), (0, [(3, (-1))]), (1, [(4, 1)]), ((-1), [(4, (-1))])], [(1, [(5, 1)]), ((-1), [(5, (-1))])]) := by
  refine t_okI fun v hr hp => ?_
  obtain ⟨rI, rY, rT, rP, -⟩ := hr
  obtain ⟨p0, p1, p2, p3, p4, p5, p6, p7, p8, p9, -⟩ := hp
  have p0 : 0 ≤ 0 + (1 * v 0 + (0)) := p0
  have p1 : 0 ≤ 650 + ((-1) * v 0 + (0)) := p1
  have p2 : 0 ≤ 0 + (1 * v 1 + (0)) := p2
  have p3 : 0 ≤ 650 + ((-1) * v 1 + (0)) := p3
  have p4 : 0 ≤ 0 + ((-1) * v 1 + (1 * v 2 + (0))) := p4
  have p5 : 0 ≤ 0 + (1 * v 1 + ((-1) * v 2 + (0))) := p5
  have p6 : 0 ≤ 0 + (1 * v 3 + (0)) := p6
  have p7 : 0 ≤ 0 + ((-1) * v 3 + (0)) := p7
  have p8 : 0 ≤ 1 + (1 * v 4 + (0)) := p8
  have p9 : 0 ≤ (-1) + ((-1) * v 4 + (0)) := p9
  obtain ⟨nm, hm⟩ : ∃ n : Nat, v 0 = (n : Int) := ⟨(v 0).toNat, by omega⟩
  obtain ⟨ni, hi⟩ : ∃ n : Nat, v 1 = (n : Int) := ⟨(v 1).toNat, by omega⟩
  have rI : ∃ j : Nat, 24178516392292583494123520 + (1 * v 0 + (0)) = (j : Int) ∧ c_gv j (g j) = v 2 := rI
  have eI := t_g20 h nm (by omega) rI (by omega)
  have rY : ∃ j : Nat, 13298184015760920921767936 + (1 * v 1 + (0)) = (j : Int) ∧ c_gv j (g j) = v 3 := rY
  have eY := t_g11 h ni (by omega) rY (by omega)
  have rT : ∃ j : Nat, 41103477866897391940009984 + (1 * v 0 + (0)) = (j : Int) ∧ c_gv j (g j) = v 4 := rT
  have eT := t_g34 h nm 0 (by omega) (by omega) rT (by omega)
  have rP : ∃ j : Nat, 43521329506126650289422336 + (1 * v 0 + (0)) = (j : Int) ∧ c_gv j (g j) = v 5 := rP
  have eP := t_g36 h nm (by omega) rP (by omega)
  obtain ⟨s, hs, rfl⟩ := t_ix_s (X := t_tx g) (m := nm) (i := ni) (by omega)
  rw [t_tk0 hs] at eT
  have cp := t_pt_t (X := t_tx g) (s := s) hs (by omega)
  have cn : ¬(t_nwp (t_tx g) s s.2.1 6 = true) := fun h9 => by
    rw [if_pos h9] at eT
    omega
  rw [if_neg (fun h9 => cn h9.1)] at cp
  exact ⟨(by show 0 ≤ 1 + (1 * v 5 + (0)); omega), (by show 0 ≤ (-1) + ((-1) * v 5 + (0)); omega), trivial⟩
-- ptN0
theorem t_q149 {g : Nat → Int} (h : t_G g) : t_ok g 3 ([(24178516392292583494123520, [(0, 1)]), (13298184015760920921767936, [(1, 1)]), (41103477866897391940009984, [(0, 1)]), (43521329506126650289422336, [(0, 1)]), (20551738933448695970065408, [(2, 1)])], [(0, [(0, 1)]), (650, [(0, (-1))]), (0, [(1, 1)]), (650, [(1, (-1))]), (0, [(1, (-1)), (3, 1)]), (0, [(1, 1), (3, (-1))]), (0, [(4, 1)]), (0, [(4, (-1))]), (0, [(2, (-1)), (5, 1)]), (0, [(2, 1), (5, (-1))]), (0, [(2, 1)]), (650, [(2, (-1))])], [(0, [(6, 1), (7, (-1))]), (0, [(6, (-1)), (7, 1)]), ((-2), [(1, (-1)), (2, 1)]), (2, [(1, 1), (2, (-1))])]) := by
  refine t_okI fun v hr hp => ?_
  obtain ⟨rI, rY, rT, rP, rD, -⟩ := hr
  obtain ⟨p0, p1, p2, p3, p4, p5, p6, p7, p8, p9, p10, p11, -⟩ := hp
  have p0 : 0 ≤ 0 + (1 * v 0 + (0)) := p0
  have p1 : 0 ≤ 650 + ((-1) * v 0 + (0)) := p1
  have p2 : 0 ≤ 0 + (1 * v 1 + (0)) := p2
  have p3 : 0 ≤ 650 + ((-1) * v 1 + (0)) := p3
  have p4 : 0 ≤ 0 + ((-1) * v 1 + (1 * v 3 + (0))) := p4
  have p5 : 0 ≤ 0 + (1 * v 1 + ((-1) * v 3 + (0))) := p5
  have p6 : 0 ≤ 0 + (1 * v 4 + (0)) := p6
  have p7 : 0 ≤ 0 + ((-1) * v 4 + (0)) := p7
  have p8 : 0 ≤ 0 + ((-1) * v 2 + (1 * v 5 + (0))) := p8
  have p9 : 0 ≤ 0 + (1 * v 2 + ((-1) * v 5 + (0))) := p9
  have p10 : 0 ≤ 0 + (1 * v 2 + (0)) := p10
  have p11 : 0 ≤ 650 + ((-1) * v 2 + (0)) := p11
  obtain ⟨nm, hm⟩ : ∃ n : Nat, v 0 = (n : Int) := ⟨(v 0).toNat, by omega⟩
  obtain ⟨ni, hi⟩ : ∃ n : Nat, v 1 = (n : Int) := ⟨(v 1).toNat, by omega⟩
  obtain ⟨ne, he⟩ : ∃ n : Nat, v 2 = (n : Int) := ⟨(v 2).toNat, by omega⟩
  have rI : ∃ j : Nat, 24178516392292583494123520 + (1 * v 0 + (0)) = (j : Int) ∧ c_gv j (g j) = v 3 := rI
  have eI := t_g20 h nm (by omega) rI (by omega)
  have rY : ∃ j : Nat, 13298184015760920921767936 + (1 * v 1 + (0)) = (j : Int) ∧ c_gv j (g j) = v 4 := rY
  have eY := t_g11 h ni (by omega) rY (by omega)
  have rT : ∃ j : Nat, 41103477866897391940009984 + (1 * v 0 + (0)) = (j : Int) ∧ c_gv j (g j) = v 5 := rT
  have eT := t_g34 h nm 0 (by omega) (by omega) rT (by omega)
  have rP : ∃ j : Nat, 43521329506126650289422336 + (1 * v 0 + (0)) = (j : Int) ∧ c_gv j (g j) = v 6 := rP
  have eP := t_g36 h nm (by omega) rP (by omega)
  have rD : ∃ j : Nat, 20551738933448695970065408 + (1 * v 2 + (0)) = (j : Int) ∧ c_gv j (g j) = v 7 := rD
  have eD := t_g17 h ne 59 (by omega) (by omega) rD (by omega)
  obtain ⟨s, hs, rfl⟩ := t_ix_s (X := t_tx g) (m := nm) (i := ni) (by omega)
  rw [t_tk0 hs] at eT
  have cp := t_pt_t (X := t_tx g) (s := s) hs (by omega)
  have cn : t_nwp (t_tx g) s s.2.1 6 = true := by
    by_cases h9 : t_nwp (t_tx g) s s.2.1 6 = true
    · exact h9
    · exfalso
      rw [if_neg h9] at eT
      omega
  rw [if_pos cn] at eT
  have ce : ne = s.1 + 2 := by omega
  subst ce
  rw [t_need_is] at eD
  have key : v 6 = v 7 := by
    by_cases h9 : t_k (t_tx g) (s.1 + 2) = 3 ∧ t_v (t_tx g) (s.1 + 2) = 59
    · rw [if_pos ⟨cn, t_sg_iff.mpr h9⟩] at cp
      have eD : v 7 = if t_k (t_tx g) (s.1 + 2) = 3 ∧ t_v (t_tx g) (s.1 + 2) = 59 then ((s.1 + 2 : Nat) : Int) + 1 else -1 := eD
      rw [if_pos h9] at eD
      omega
    · rw [if_neg (fun h8 => h9 (t_sg_iff.mp h8.2))] at cp
      have eD : v 7 = if t_k (t_tx g) (s.1 + 2) = 3 ∧ t_v (t_tx g) (s.1 + 2) = 59 then ((s.1 + 2 : Nat) : Int) + 1 else -1 := eD
      rw [if_neg h9] at eD
      omega
  exact ⟨(by show 0 ≤ 0 + (1 * v 6 + ((-1) * v 7 + (0))); omega), (by show 0 ≤ 0 + ((-1) * v 6 + (1 * v 7 + (0))); omega), (by show 0 ≤ (-2) + ((-1) * v 1 + (1 * v 2 + (0))); omega), (by show 0 ≤ 2 + (1 * v 1 + ((-1) * v 2 + (0))); omega), trivial⟩
-- ptF1
theorem t_q150 {g : Nat → Int} (h : t_G g) : t_ok g 2 ([(24178516392292583494123520, [(0, 1)]), (13298184015760920921767936, [(1, 1)]), (41103477866897391941058560, [(0, 1)]), (43521329506126650289422336, [(0, 1)])], [(0, [(0, 1)]), (650, [(0, (-1))]), (0, [(1, 1)]), (650, [(1, (-1))]), (0, [(1, (-1)), (2, 1)]), (0, [(1, 1), (2, (-1))]), ((-1), [(3, 1)]), (1, [(3, (-1))]), (1, [(4, 1)]), ((-1), [(4, (-1))])], [(1, [(5, 1)]), ((-1), [(5, (-1))])]) := by
  refine t_okI fun v hr hp => ?_
  obtain ⟨rI, rY, rT, rP, -⟩ := hr
  obtain ⟨p0, p1, p2, p3, p4, p5, p6, p7, p8, p9, -⟩ := hp
  have p0 : 0 ≤ 0 + (1 * v 0 + (0)) := p0
  have p1 : 0 ≤ 650 + ((-1) * v 0 + (0)) := p1
  have p2 : 0 ≤ 0 + (1 * v 1 + (0)) := p2
  have p3 : 0 ≤ 650 + ((-1) * v 1 + (0)) := p3
  have p4 : 0 ≤ 0 + ((-1) * v 1 + (1 * v 2 + (0))) := p4
  have p5 : 0 ≤ 0 + (1 * v 1 + ((-1) * v 2 + (0))) := p5
  have p6 : 0 ≤ (-1) + (1 * v 3 + (0)) := p6
  have p7 : 0 ≤ 1 + ((-1) * v 3 + (0)) := p7
  have p8 : 0 ≤ 1 + (1 * v 4 + (0)) := p8
  have p9 : 0 ≤ (-1) + ((-1) * v 4 + (0)) := p9
  obtain ⟨nm, hm⟩ : ∃ n : Nat, v 0 = (n : Int) := ⟨(v 0).toNat, by omega⟩
  obtain ⟨ni, hi⟩ : ∃ n : Nat, v 1 = (n : Int) := ⟨(v 1).toNat, by omega⟩
  have rI : ∃ j : Nat, 24178516392292583494123520 + (1 * v 0 + (0)) = (j : Int) ∧ c_gv j (g j) = v 2 := rI
  have eI := t_g20 h nm (by omega) rI (by omega)
  have rY : ∃ j : Nat, 13298184015760920921767936 + (1 * v 1 + (0)) = (j : Int) ∧ c_gv j (g j) = v 3 := rY
  have eY := t_g11 h ni (by omega) rY (by omega)
  have rT : ∃ j : Nat, 41103477866897391941058560 + (1 * v 0 + (0)) = (j : Int) ∧ c_gv j (g j) = v 4 := rT
  have eT := t_g34 h nm 1 (by omega) (by omega) rT (by omega)
  have rP : ∃ j : Nat, 43521329506126650289422336 + (1 * v 0 + (0)) = (j : Int) ∧ c_gv j (g j) = v 5 := rP
  have eP := t_g36 h nm (by omega) rP (by omega)
  obtain ⟨s, hs, rfl⟩ := t_ix_s (X := t_tx g) (m := nm) (i := ni) (by omega)
  rw [t_tk1 hs] at eT
  have cp := t_pt_k (X := t_tx g) (s := s) hs (by omega)
  have cn : ¬(t_nwp (t_tx g) s s.2.2.1 6 = true) := fun h9 => by
    rw [if_pos h9] at eT
    omega
  rw [if_neg (fun h9 => cn h9.1)] at cp
  exact ⟨(by show 0 ≤ 1 + (1 * v 5 + (0)); omega), (by show 0 ≤ (-1) + ((-1) * v 5 + (0)); omega), trivial⟩
-- ptN1
theorem t_q151 {g : Nat → Int} (h : t_G g) : t_ok g 3 ([(24178516392292583494123520, [(0, 1)]), (13298184015760920921767936, [(1, 1)]), (41103477866897391941058560, [(0, 1)]), (43521329506126650289422336, [(0, 1)]), (20551738933448695970065408, [(2, 1)])], [(0, [(0, 1)]), (650, [(0, (-1))]), (0, [(1, 1)]), (650, [(1, (-1))]), (0, [(1, (-1)), (3, 1)]), (0, [(1, 1), (3, (-1))]), ((-1), [(4, 1)]), (1, [(4, (-1))]), (0, [(2, (-1)), (5, 1)]), (0, [(2, 1), (5, (-1))]), (0, [(2, 1)]), (650, [(2, (-1))])], [(0, [(6, 1), (7, (-1))]), (0, [(6, (-1)), (7, 1)]), ((-2), [(1, (-1)), (2, 1)]), (2, [(1, 1), (2, (-1))])]) := by
  refine t_okI fun v hr hp => ?_
  obtain ⟨rI, rY, rT, rP, rD, -⟩ := hr
  obtain ⟨p0, p1, p2, p3, p4, p5, p6, p7, p8, p9, p10, p11, -⟩ := hp
  have p0 : 0 ≤ 0 + (1 * v 0 + (0)) := p0
  have p1 : 0 ≤ 650 + ((-1) * v 0 + (0)) := p1
  have p2 : 0 ≤ 0 + (1 * v 1 + (0)) := p2
  have p3 : 0 ≤ 650 + ((-1) * v 1 + (0)) := p3
  have p4 : 0 ≤ 0 + ((-1) * v 1 + (1 * v 3 + (0))) := p4
  have p5 : 0 ≤ 0 + (1 * v 1 + ((-1) * v 3 + (0))) := p5
  have p6 : 0 ≤ (-1) + (1 * v 4 + (0)) := p6
  have p7 : 0 ≤ 1 + ((-1) * v 4 + (0)) := p7
  have p8 : 0 ≤ 0 + ((-1) * v 2 + (1 * v 5 + (0))) := p8
  have p9 : 0 ≤ 0 + (1 * v 2 + ((-1) * v 5 + (0))) := p9
  have p10 : 0 ≤ 0 + (1 * v 2 + (0)) := p10
  have p11 : 0 ≤ 650 + ((-1) * v 2 + (0)) := p11
  obtain ⟨nm, hm⟩ : ∃ n : Nat, v 0 = (n : Int) := ⟨(v 0).toNat, by omega⟩
  obtain ⟨ni, hi⟩ : ∃ n : Nat, v 1 = (n : Int) := ⟨(v 1).toNat, by omega⟩
  obtain ⟨ne, he⟩ : ∃ n : Nat, v 2 = (n : Int) := ⟨(v 2).toNat, by omega⟩
  have rI : ∃ j : Nat, 24178516392292583494123520 + (1 * v 0 + (0)) = (j : Int) ∧ c_gv j (g j) = v 3 := rI
  have eI := t_g20 h nm (by omega) rI (by omega)
  have rY : ∃ j : Nat, 13298184015760920921767936 + (1 * v 1 + (0)) = (j : Int) ∧ c_gv j (g j) = v 4 := rY
  have eY := t_g11 h ni (by omega) rY (by omega)
  have rT : ∃ j : Nat, 41103477866897391941058560 + (1 * v 0 + (0)) = (j : Int) ∧ c_gv j (g j) = v 5 := rT
  have eT := t_g34 h nm 1 (by omega) (by omega) rT (by omega)
  have rP : ∃ j : Nat, 43521329506126650289422336 + (1 * v 0 + (0)) = (j : Int) ∧ c_gv j (g j) = v 6 := rP
  have eP := t_g36 h nm (by omega) rP (by omega)
  have rD : ∃ j : Nat, 20551738933448695970065408 + (1 * v 2 + (0)) = (j : Int) ∧ c_gv j (g j) = v 7 := rD
  have eD := t_g17 h ne 59 (by omega) (by omega) rD (by omega)
  obtain ⟨s, hs, rfl⟩ := t_ix_s (X := t_tx g) (m := nm) (i := ni) (by omega)
  rw [t_tk1 hs] at eT
  have cp := t_pt_k (X := t_tx g) (s := s) hs (by omega)
  have cn : t_nwp (t_tx g) s s.2.2.1 6 = true := by
    by_cases h9 : t_nwp (t_tx g) s s.2.2.1 6 = true
    · exact h9
    · exfalso
      rw [if_neg h9] at eT
      omega
  rw [if_pos cn] at eT
  have ce : ne = s.1 + 2 := by omega
  subst ce
  rw [t_need_is] at eD
  have key : v 6 = v 7 := by
    by_cases h9 : t_k (t_tx g) (s.1 + 2) = 3 ∧ t_v (t_tx g) (s.1 + 2) = 59
    · rw [if_pos ⟨cn, t_sg_iff.mpr h9⟩] at cp
      have eD : v 7 = if t_k (t_tx g) (s.1 + 2) = 3 ∧ t_v (t_tx g) (s.1 + 2) = 59 then ((s.1 + 2 : Nat) : Int) + 1 else -1 := eD
      rw [if_pos h9] at eD
      omega
    · rw [if_neg (fun h8 => h9 (t_sg_iff.mp h8.2))] at cp
      have eD : v 7 = if t_k (t_tx g) (s.1 + 2) = 3 ∧ t_v (t_tx g) (s.1 + 2) = 59 then ((s.1 + 2 : Nat) : Int) + 1 else -1 := eD
      rw [if_neg h9] at eD
      omega
  exact ⟨(by show 0 ≤ 0 + (1 * v 6 + ((-1) * v 7 + (0))); omega), (by show 0 ≤ 0 + ((-1) * v 6 + (1 * v 7 + (0))); omega), (by show 0 ≤ (-2) + ((-1) * v 1 + (1 * v 2 + (0))); omega), (by show 0 ≤ 2 + (1 * v 1 + ((-1) * v 2 + (0))); omega), trivial⟩
-- ptF2
theorem t_q152 {g : Nat → Int} (h : t_G g) : t_ok g 2 ([(24178516392292583494123520, [(0, 1)]), (13298184015760920921767936, [(1, 1)]), (41103477866897391942107136, [(0, 1)]), (43521329506126650289422336, [(0, 1)])], [(0, [(0, 1)]), (650, [(0, (-1))]), (0, [(1, 1)]), (650, [(1, (-1))]), (0, [(1, (-1)), (2, 1)]), (0, [(1, 1), (2, (-1))]), ((-3), [(3, 1)]), (3, [(3, (-1))]), (1, [(4, 1)]), ((-1), [(4, (-1))])], [(1, [(5, 1)]), ((-1), [(5, (-1))])]) := by
  refine t_okI fun v hr hp => ?_
  obtain ⟨rI, rY, rT, rP, -⟩ := hr
  obtain ⟨p0, p1, p2, p3, p4, p5, p6, p7, p8, p9, -⟩ := hp
  have p0 : 0 ≤ 0 + (1 * v 0 + (0)) := p0
  have p1 : 0 ≤ 650 + ((-1) * v 0 + (0)) := p1
  have p2 : 0 ≤ 0 + (1 * v 1 + (0)) := p2
  have p3 : 0 ≤ 650 + ((-1) * v 1 + (0)) := p3
  have p4 : 0 ≤ 0 + ((-1) * v 1 + (1 * v 2 + (0))) := p4
  have p5 : 0 ≤ 0 + (1 * v 1 + ((-1) * v 2 + (0))) := p5
  have p6 : 0 ≤ (-3) + (1 * v 3 + (0)) := p6
  have p7 : 0 ≤ 3 + ((-1) * v 3 + (0)) := p7
  have p8 : 0 ≤ 1 + (1 * v 4 + (0)) := p8
  have p9 : 0 ≤ (-1) + ((-1) * v 4 + (0)) := p9
  obtain ⟨nm, hm⟩ : ∃ n : Nat, v 0 = (n : Int) := ⟨(v 0).toNat, by omega⟩
  obtain ⟨ni, hi⟩ : ∃ n : Nat, v 1 = (n : Int) := ⟨(v 1).toNat, by omega⟩
  have rI : ∃ j : Nat, 24178516392292583494123520 + (1 * v 0 + (0)) = (j : Int) ∧ c_gv j (g j) = v 2 := rI
  have eI := t_g20 h nm (by omega) rI (by omega)
  have rY : ∃ j : Nat, 13298184015760920921767936 + (1 * v 1 + (0)) = (j : Int) ∧ c_gv j (g j) = v 3 := rY
  have eY := t_g11 h ni (by omega) rY (by omega)
  have rT : ∃ j : Nat, 41103477866897391942107136 + (1 * v 0 + (0)) = (j : Int) ∧ c_gv j (g j) = v 4 := rT
  have eT := t_g34 h nm 2 (by omega) (by omega) rT (by omega)
  have rP : ∃ j : Nat, 43521329506126650289422336 + (1 * v 0 + (0)) = (j : Int) ∧ c_gv j (g j) = v 5 := rP
  have eP := t_g36 h nm (by omega) rP (by omega)
  obtain ⟨s, hs, rfl⟩ := t_ix_s (X := t_tx g) (m := nm) (i := ni) (by omega)
  rw [t_tk2 hs] at eT
  have cp := t_pt_l (X := t_tx g) (s := s) hs (by omega)
  have cn : ¬(t_nwp (t_tx g) s s.2.2.2.1 4 = true) := fun h9 => by
    rw [if_pos h9] at eT
    omega
  rw [if_neg (fun h9 => cn h9.1)] at cp
  exact ⟨(by show 0 ≤ 1 + (1 * v 5 + (0)); omega), (by show 0 ≤ (-1) + ((-1) * v 5 + (0)); omega), trivial⟩
-- ptN2
theorem t_q153 {g : Nat → Int} (h : t_G g) : t_ok g 3 ([(24178516392292583494123520, [(0, 1)]), (13298184015760920921767936, [(1, 1)]), (41103477866897391942107136, [(0, 1)]), (43521329506126650289422336, [(0, 1)]), (47148106964970537813540864, [(2, 1)])], [(0, [(0, 1)]), (650, [(0, (-1))]), (0, [(1, 1)]), (650, [(1, (-1))]), (0, [(1, (-1)), (3, 1)]), (0, [(1, 1), (3, (-1))]), ((-3), [(4, 1)]), (3, [(4, (-1))]), (0, [(2, (-1)), (5, 1)]), (0, [(2, 1), (5, (-1))]), (0, [(2, 1)]), (650, [(2, (-1))])], [(0, [(6, 1), (7, (-1))]), (0, [(6, (-1)), (7, 1)]), ((-2), [(1, (-1)), (2, 1)]), (2, [(1, 1), (2, (-1))])]) := by
  refine t_okI fun v hr hp => ?_
  obtain ⟨rI, rY, rT, rP, rD, -⟩ := hr
  obtain ⟨p0, p1, p2, p3, p4, p5, p6, p7, p8, p9, p10, p11, -⟩ := hp
  have p0 : 0 ≤ 0 + (1 * v 0 + (0)) := p0
  have p1 : 0 ≤ 650 + ((-1) * v 0 + (0)) := p1
  have p2 : 0 ≤ 0 + (1 * v 1 + (0)) := p2
  have p3 : 0 ≤ 650 + ((-1) * v 1 + (0)) := p3
  have p4 : 0 ≤ 0 + ((-1) * v 1 + (1 * v 3 + (0))) := p4
  have p5 : 0 ≤ 0 + (1 * v 1 + ((-1) * v 3 + (0))) := p5
  have p6 : 0 ≤ (-3) + (1 * v 4 + (0)) := p6
  have p7 : 0 ≤ 3 + ((-1) * v 4 + (0)) := p7
  have p8 : 0 ≤ 0 + ((-1) * v 2 + (1 * v 5 + (0))) := p8
  have p9 : 0 ≤ 0 + (1 * v 2 + ((-1) * v 5 + (0))) := p9
  have p10 : 0 ≤ 0 + (1 * v 2 + (0)) := p10
  have p11 : 0 ≤ 650 + ((-1) * v 2 + (0)) := p11
  obtain ⟨nm, hm⟩ : ∃ n : Nat, v 0 = (n : Int) := ⟨(v 0).toNat, by omega⟩
  obtain ⟨ni, hi⟩ : ∃ n : Nat, v 1 = (n : Int) := ⟨(v 1).toNat, by omega⟩
  obtain ⟨ne, he⟩ : ∃ n : Nat, v 2 = (n : Int) := ⟨(v 2).toNat, by omega⟩
  have rI : ∃ j : Nat, 24178516392292583494123520 + (1 * v 0 + (0)) = (j : Int) ∧ c_gv j (g j) = v 3 := rI
  have eI := t_g20 h nm (by omega) rI (by omega)
  have rY : ∃ j : Nat, 13298184015760920921767936 + (1 * v 1 + (0)) = (j : Int) ∧ c_gv j (g j) = v 4 := rY
  have eY := t_g11 h ni (by omega) rY (by omega)
  have rT : ∃ j : Nat, 41103477866897391942107136 + (1 * v 0 + (0)) = (j : Int) ∧ c_gv j (g j) = v 5 := rT
  have eT := t_g34 h nm 2 (by omega) (by omega) rT (by omega)
  have rP : ∃ j : Nat, 43521329506126650289422336 + (1 * v 0 + (0)) = (j : Int) ∧ c_gv j (g j) = v 6 := rP
  have eP := t_g36 h nm (by omega) rP (by omega)
  have rD : ∃ j : Nat, 47148106964970537813540864 + (1 * v 2 + (0)) = (j : Int) ∧ c_gv j (g j) = v 7 := rD
  have eD := t_g39 h ne 0 (by omega) (by omega) rD (by omega)
  obtain ⟨s, hs, rfl⟩ := t_ix_s (X := t_tx g) (m := nm) (i := ni) (by omega)
  rw [t_tk2 hs] at eT
  have cp := t_pt_l (X := t_tx g) (s := s) hs (by omega)
  have cn : t_nwp (t_tx g) s s.2.2.2.1 4 = true := by
    by_cases h9 : t_nwp (t_tx g) s s.2.2.2.1 4 = true
    · exact h9
    · exfalso
      rw [if_neg h9] at eT
      omega
  rw [if_pos cn] at eT
  have ce : ne = s.1 + 2 := by omega
  subst ce
  have c3 := t_px_in (X := t_tx g) (t_G_ok h) (i := s.1 + 2) 4 0
  rw [if_neg (by omega)] at c3
  unfold t_af at eD
  rw [t_need_is] at eD
  have key : v 6 = v 7 := by
    rcases c3 with c3 | c3
    · rw [if_neg (fun h8 => by have := h8.2.1; omega)] at cp
      rw [if_pos (by omega)] at eD
      omega
    · rw [if_neg (by omega)] at eD
      by_cases h9 : t_k (t_tx g) (t_px (t_tx g) 4 (s.1 + 2) 0).toNat = 3 ∧ t_v (t_tx g) (t_px (t_tx g) 4 (s.1 + 2) 0).toNat = 59
      · rw [if_pos ⟨cn, by omega, t_sg_iff.mpr h9⟩] at cp
        rw [if_pos h9] at eD
        omega
      · rw [if_neg (fun h8 => h9 (t_sg_iff.mp h8.2.2))] at cp
        rw [if_neg h9] at eD
        omega
  exact ⟨(by show 0 ≤ 0 + (1 * v 6 + ((-1) * v 7 + (0))); omega), (by show 0 ≤ 0 + ((-1) * v 6 + (1 * v 7 + (0))); omega), (by show 0 ≤ (-2) + ((-1) * v 1 + (1 * v 2 + (0))); omega), (by show 0 ≤ 2 + (1 * v 1 + ((-1) * v 2 + (0))); omega), trivial⟩
-- ptE0
theorem t_q154 {g : Nat → Int} (h : t_G g) : t_ok g 2 ([(24178516392292583494123520, [(0, 1)]), (13298184015760920921767936, [(1, 1)]), (43521329506126650289422336, [(0, 1)])], [(0, [(0, 1)]), (650, [(0, (-1))]), (0, [(1, 1)]), (650, [(1, (-1))]), (0, [(1, (-1)), (2, 1)]), (0, [(1, 1), (2, (-1))]), ((-1), [(3, (-1))])], [(1, [(4, 1)]), ((-1), [(4, (-1))])]) := by
  refine t_okI fun v hr hp => ?_
  obtain ⟨rI, rY, rP, -⟩ := hr
  obtain ⟨p0, p1, p2, p3, p4, p5, p6, -⟩ := hp
  have p0 : 0 ≤ 0 + (1 * v 0 + (0)) := p0
  have p1 : 0 ≤ 650 + ((-1) * v 0 + (0)) := p1
  have p2 : 0 ≤ 0 + (1 * v 1 + (0)) := p2
  have p3 : 0 ≤ 650 + ((-1) * v 1 + (0)) := p3
  have p4 : 0 ≤ 0 + ((-1) * v 1 + (1 * v 2 + (0))) := p4
  have p5 : 0 ≤ 0 + (1 * v 1 + ((-1) * v 2 + (0))) := p5
  have p6 : 0 ≤ (-1) + ((-1) * v 3 + (0)) := p6
  obtain ⟨nm, hm⟩ : ∃ n : Nat, v 0 = (n : Int) := ⟨(v 0).toNat, by omega⟩
  obtain ⟨ni, hi⟩ : ∃ n : Nat, v 1 = (n : Int) := ⟨(v 1).toNat, by omega⟩
  have rI : ∃ j : Nat, 24178516392292583494123520 + (1 * v 0 + (0)) = (j : Int) ∧ c_gv j (g j) = v 2 := rI
  have eI := t_g20 h nm (by omega) rI (by omega)
  have rY : ∃ j : Nat, 13298184015760920921767936 + (1 * v 1 + (0)) = (j : Int) ∧ c_gv j (g j) = v 3 := rY
  have eY := t_g11 h ni (by omega) rY (by omega)
  have rP : ∃ j : Nat, 43521329506126650289422336 + (1 * v 0 + (0)) = (j : Int) ∧ c_gv j (g j) = v 4 := rP
  have eP := t_g36 h nm (by omega) rP (by omega)
  obtain ⟨s, hs, rfl⟩ := t_ix_s (X := t_tx g) (m := nm) (i := ni) (by omega)
  have cp := t_pt_e (X := t_tx g) hs (by omega)
  exact ⟨(by show 0 ≤ 1 + (1 * v 4 + (0)); omega), (by show 0 ≤ (-1) + ((-1) * v 4 + (0)); omega), trivial⟩
