/-! rules on the tables, each with its proof (printed by gen_rul.py) -/
-- kw1
theorem t_q130 {g : Nat → Int} (h : t_G g) : t_ok g 3 ([(25387442211907212668829696, [(0, 1)]), (35058848768824246066479104, [(1, 1073741824), (2, 1024)]), (42312403686512021114716160, [(0, 1), (1, 1073741824)])], [(0, [(0, 1)]), (650, [(0, (-1))]), (0, [(1, 1)]), (1099511627775, [(1, (-1))]), (0, [(2, (-1)), (3, 1)]), (0, [(2, 1), (3, (-1))]), (0, [(4, 1)]), (0, [(2, 1)]), (6, [(2, (-1))])], [((-1), [(5, 1)]), (1, [(5, (-1))])]) := by
  refine t_okI fun v hr hp => ?_
  obtain ⟨rT, rF, rW, -⟩ := hr
  obtain ⟨p0, p1, p2, p3, p4, p5, p6, p7, p8, -⟩ := hp
  have p0 : 0 ≤ 0 + (1 * v 0 + (0)) := p0
  have p1 : 0 ≤ 650 + ((-1) * v 0 + (0)) := p1
  have p2 : 0 ≤ 0 + (1 * v 1 + (0)) := p2
  have p3 : 0 ≤ 1099511627775 + ((-1) * v 1 + (0)) := p3
  have p4 : 0 ≤ 0 + ((-1) * v 2 + (1 * v 3 + (0))) := p4
  have p5 : 0 ≤ 0 + (1 * v 2 + ((-1) * v 3 + (0))) := p5
  have p6 : 0 ≤ 0 + (1 * v 4 + (0)) := p6
  have p7 : 0 ≤ 0 + (1 * v 2 + (0)) := p7
  have p8 : 0 ≤ 6 + ((-1) * v 2 + (0)) := p8
  obtain ⟨nm, hm⟩ : ∃ n : Nat, v 0 = (n : Int) := ⟨(v 0).toNat, by omega⟩
  obtain ⟨nv, hv⟩ : ∃ n : Nat, v 1 = (n : Int) := ⟨(v 1).toNat, by omega⟩
  obtain ⟨nc, hc⟩ : ∃ n : Nat, v 2 = (n : Int) := ⟨(v 2).toNat, by omega⟩
  have rT : ∃ j : Nat, 25387442211907212668829696 + (1 * v 0 + (0)) = (j : Int) ∧ c_gv j (g j) = v 3 := rT
  have eT := t_g21 h nm (by omega) rT (by omega)
  have rF : ∃ j : Nat, 35058848768824246066479104 + (1073741824 * v 1 + (1024 * v 2 + (0))) = (j : Int) ∧ c_gv j (g j) = v 4 := rF
  have eF := t_g29 h 0 nc nv (by omega) (by omega) (by omega) rF (by omega)
  have rW : ∃ j : Nat, 42312403686512021114716160 + (1 * v 0 + (1073741824 * v 1 + (0))) = (j : Int) ∧ c_gv j (g j) = v 5 := rW
  have eW := t_g35 h nm nv (by omega) (by omega) rW (by omega)
  have c := t_kw1 (X := t_tx g) (t_G_ok h) (m := nm) (c := nc) (v := (nv : Int)) (by omega) (by omega) (by omega)
  exact ⟨(by show 0 ≤ (-1) + (1 * v 5 + (0)); omega), (by show 0 ≤ 1 + ((-1) * v 5 + (0)); omega), trivial⟩
-- kw2
theorem t_q131 {g : Nat → Int} (h : t_G g) : t_ok g 3 ([(26596368031521841843535872, [(0, 1)]), (36267774588438875241185280, [(1, 1073741824), (2, 1024)]), (42312403686512021114716160, [(0, 1), (1, 1073741824)])], [(0, [(0, 1)]), (650, [(0, (-1))]), (0, [(1, 1)]), (1099511627775, [(1, (-1))]), (0, [(2, (-1)), (3, 1)]), (0, [(2, 1), (3, (-1))]), (0, [(4, 1)]), (0, [(2, 1)]), (6, [(2, (-1))])], [((-1), [(5, 1)]), (1, [(5, (-1))])]) := by
  refine t_okI fun v hr hp => ?_
  obtain ⟨rT, rF, rW, -⟩ := hr
  obtain ⟨p0, p1, p2, p3, p4, p5, p6, p7, p8, -⟩ := hp
  have p0 : 0 ≤ 0 + (1 * v 0 + (0)) := p0
  have p1 : 0 ≤ 650 + ((-1) * v 0 + (0)) := p1
  have p2 : 0 ≤ 0 + (1 * v 1 + (0)) := p2
  have p3 : 0 ≤ 1099511627775 + ((-1) * v 1 + (0)) := p3
  have p4 : 0 ≤ 0 + ((-1) * v 2 + (1 * v 3 + (0))) := p4
  have p5 : 0 ≤ 0 + (1 * v 2 + ((-1) * v 3 + (0))) := p5
  have p6 : 0 ≤ 0 + (1 * v 4 + (0)) := p6
  have p7 : 0 ≤ 0 + (1 * v 2 + (0)) := p7
  have p8 : 0 ≤ 6 + ((-1) * v 2 + (0)) := p8
  obtain ⟨nm, hm⟩ : ∃ n : Nat, v 0 = (n : Int) := ⟨(v 0).toNat, by omega⟩
  obtain ⟨nv, hv⟩ : ∃ n : Nat, v 1 = (n : Int) := ⟨(v 1).toNat, by omega⟩
  obtain ⟨nc, hc⟩ : ∃ n : Nat, v 2 = (n : Int) := ⟨(v 2).toNat, by omega⟩
  have rT : ∃ j : Nat, 26596368031521841843535872 + (1 * v 0 + (0)) = (j : Int) ∧ c_gv j (g j) = v 3 := rT
  have eT := t_g22 h nm (by omega) rT (by omega)
  have rF : ∃ j : Nat, 36267774588438875241185280 + (1073741824 * v 1 + (1024 * v 2 + (0))) = (j : Int) ∧ c_gv j (g j) = v 4 := rF
  have eF := t_g30 h 0 nc nv (by omega) (by omega) (by omega) rF (by omega)
  have rW : ∃ j : Nat, 42312403686512021114716160 + (1 * v 0 + (1073741824 * v 1 + (0))) = (j : Int) ∧ c_gv j (g j) = v 5 := rW
  have eW := t_g35 h nm nv (by omega) (by omega) rW (by omega)
  have c := t_kw2 (X := t_tx g) (t_G_ok h) (m := nm) (c := nc) (v := (nv : Int)) (by omega) (by omega) (by omega)
  exact ⟨(by show 0 ≤ (-1) + (1 * v 5 + (0)); omega), (by show 0 ≤ 1 + ((-1) * v 5 + (0)); omega), trivial⟩
-- kw3
theorem t_q132 {g : Nat → Int} (h : t_G g) : t_ok g 3 ([(27805293851136471018242048, [(0, 1)]), (37476700408053504415891456, [(1, 1073741824), (2, 1024)]), (42312403686512021114716160, [(0, 1), (1, 1073741824)])], [(0, [(0, 1)]), (650, [(0, (-1))]), (0, [(1, 1)]), (1099511627775, [(1, (-1))]), (0, [(2, (-1)), (3, 1)]), (0, [(2, 1), (3, (-1))]), (0, [(4, 1)]), (0, [(2, 1)]), (6, [(2, (-1))])], [((-1), [(5, 1)]), (1, [(5, (-1))])]) := by
  refine t_okI fun v hr hp => ?_
  obtain ⟨rT, rF, rW, -⟩ := hr
  obtain ⟨p0, p1, p2, p3, p4, p5, p6, p7, p8, -⟩ := hp
  have p0 : 0 ≤ 0 + (1 * v 0 + (0)) := p0
  have p1 : 0 ≤ 650 + ((-1) * v 0 + (0)) := p1
  have p2 : 0 ≤ 0 + (1 * v 1 + (0)) := p2
  have p3 : 0 ≤ 1099511627775 + ((-1) * v 1 + (0)) := p3
  have p4 : 0 ≤ 0 + ((-1) * v 2 + (1 * v 3 + (0))) := p4
  have p5 : 0 ≤ 0 + (1 * v 2 + ((-1) * v 3 + (0))) := p5
  have p6 : 0 ≤ 0 + (1 * v 4 + (0)) := p6
  have p7 : 0 ≤ 0 + (1 * v 2 + (0)) := p7
  have p8 : 0 ≤ 6 + ((-1) * v 2 + (0)) := p8
  obtain ⟨nm, hm⟩ : ∃ n : Nat, v 0 = (n : Int) := ⟨(v 0).toNat, by omega⟩
  obtain ⟨nv, hv⟩ : ∃ n : Nat, v 1 = (n : Int) := ⟨(v 1).toNat, by omega⟩
  obtain ⟨nc, hc⟩ : ∃ n : Nat, v 2 = (n : Int) := ⟨(v 2).toNat, by omega⟩
  have rT : ∃ j : Nat, 27805293851136471018242048 + (1 * v 0 + (0)) = (j : Int) ∧ c_gv j (g j) = v 3 := rT
  have eT := t_g23 h nm (by omega) rT (by omega)
  have rF : ∃ j : Nat, 37476700408053504415891456 + (1073741824 * v 1 + (1024 * v 2 + (0))) = (j : Int) ∧ c_gv j (g j) = v 4 := rF
  have eF := t_g31 h 0 nc nv (by omega) (by omega) (by omega) rF (by omega)
  have rW : ∃ j : Nat, 42312403686512021114716160 + (1 * v 0 + (1073741824 * v 1 + (0))) = (j : Int) ∧ c_gv j (g j) = v 5 := rW
  have eW := t_g35 h nm nv (by omega) (by omega) rW (by omega)
  have c := t_kw3 (X := t_tx g) (t_G_ok h) (m := nm) (c := nc) (v := (nv : Int)) (by omega) (by omega) (by omega)
  exact ⟨(by show 0 ≤ (-1) + (1 * v 5 + (0)); omega), (by show 0 ≤ 1 + ((-1) * v 5 + (0)); omega), trivial⟩
-- kw0
theorem t_q133 {g : Nat → Int} (h : t_G g) : t_ok g 5 ([(25387442211907212668829696, [(0, 1)]), (26596368031521841843535872, [(0, 1)]), (27805293851136471018242048, [(0, 1)]), (35058848768824246066479104, [(1, 1073741824), (2, 1024)]), (36267774588438875241185280, [(1, 1073741824), (3, 1024)]), (37476700408053504415891456, [(1, 1073741824), (4, 1024)]), (42312403686512021114716160, [(0, 1), (1, 1073741824)])], [(0, [(0, 1)]), (650, [(0, (-1))]), (0, [(1, 1)]), (1099511627775, [(1, (-1))]), (0, [(2, (-1)), (5, 1)]), (0, [(2, 1), (5, (-1))]), (0, [(3, (-1)), (6, 1)]), (0, [(3, 1), (6, (-1))]), (0, [(4, (-1)), (7, 1)]), (0, [(4, 1), (7, (-1))]), (0, [(2, 1)]), (6, [(2, (-1))]), (0, [(3, 1)]), (6, [(3, (-1))]), (0, [(4, 1)]), (6, [(4, (-1))]), ((-1), [(8, (-1))]), ((-1), [(9, (-1))]), ((-1), [(10, (-1))])], [(0, [(11, 1)]), (0, [(11, (-1))])]) := by
  refine t_okI fun v hr hp => ?_
  obtain ⟨rA, rB, rC, rF, rG, rH, rW, -⟩ := hr
  obtain ⟨p0, p1, p2, p3, p4, p5, p6, p7, p8, p9, p10, p11, p12, p13, p14, p15, p16, p17, p18, -⟩ := hp
  have p0 : 0 ≤ 0 + (1 * v 0 + (0)) := p0
  have p1 : 0 ≤ 650 + ((-1) * v 0 + (0)) := p1
  have p2 : 0 ≤ 0 + (1 * v 1 + (0)) := p2
  have p3 : 0 ≤ 1099511627775 + ((-1) * v 1 + (0)) := p3
  have p4 : 0 ≤ 0 + ((-1) * v 2 + (1 * v 5 + (0))) := p4
  have p5 : 0 ≤ 0 + (1 * v 2 + ((-1) * v 5 + (0))) := p5
  have p6 : 0 ≤ 0 + ((-1) * v 3 + (1 * v 6 + (0))) := p6
  have p7 : 0 ≤ 0 + (1 * v 3 + ((-1) * v 6 + (0))) := p7
  have p8 : 0 ≤ 0 + ((-1) * v 4 + (1 * v 7 + (0))) := p8
  have p9 : 0 ≤ 0 + (1 * v 4 + ((-1) * v 7 + (0))) := p9
  have p10 : 0 ≤ 0 + (1 * v 2 + (0)) := p10
  have p11 : 0 ≤ 6 + ((-1) * v 2 + (0)) := p11
  have p12 : 0 ≤ 0 + (1 * v 3 + (0)) := p12
  have p13 : 0 ≤ 6 + ((-1) * v 3 + (0)) := p13
  have p14 : 0 ≤ 0 + (1 * v 4 + (0)) := p14
  have p15 : 0 ≤ 6 + ((-1) * v 4 + (0)) := p15
  have p16 : 0 ≤ (-1) + ((-1) * v 8 + (0)) := p16
  have p17 : 0 ≤ (-1) + ((-1) * v 9 + (0)) := p17
  have p18 : 0 ≤ (-1) + ((-1) * v 10 + (0)) := p18
  obtain ⟨nm, hm⟩ : ∃ n : Nat, v 0 = (n : Int) := ⟨(v 0).toNat, by omega⟩
  obtain ⟨nv, hv⟩ : ∃ n : Nat, v 1 = (n : Int) := ⟨(v 1).toNat, by omega⟩
  obtain ⟨nt, ht⟩ : ∃ n : Nat, v 2 = (n : Int) := ⟨(v 2).toNat, by omega⟩
  obtain ⟨nk, hk⟩ : ∃ n : Nat, v 3 = (n : Int) := ⟨(v 3).toNat, by omega⟩
  obtain ⟨nl, hl⟩ : ∃ n : Nat, v 4 = (n : Int) := ⟨(v 4).toNat, by omega⟩
  have rA : ∃ j : Nat, 25387442211907212668829696 + (1 * v 0 + (0)) = (j : Int) ∧ c_gv j (g j) = v 5 := rA
  have eA := t_g21 h nm (by omega) rA (by omega)
  have rB : ∃ j : Nat, 26596368031521841843535872 + (1 * v 0 + (0)) = (j : Int) ∧ c_gv j (g j) = v 6 := rB
  have eB := t_g22 h nm (by omega) rB (by omega)
  have rC : ∃ j : Nat, 27805293851136471018242048 + (1 * v 0 + (0)) = (j : Int) ∧ c_gv j (g j) = v 7 := rC
  have eC := t_g23 h nm (by omega) rC (by omega)
  have rF : ∃ j : Nat, 35058848768824246066479104 + (1073741824 * v 1 + (1024 * v 2 + (0))) = (j : Int) ∧ c_gv j (g j) = v 8 := rF
  have eF := t_g29 h 0 nt nv (by omega) (by omega) (by omega) rF (by omega)
  have rG : ∃ j : Nat, 36267774588438875241185280 + (1073741824 * v 1 + (1024 * v 3 + (0))) = (j : Int) ∧ c_gv j (g j) = v 9 := rG
  have eG := t_g30 h 0 nk nv (by omega) (by omega) (by omega) rG (by omega)
  have rH : ∃ j : Nat, 37476700408053504415891456 + (1073741824 * v 1 + (1024 * v 4 + (0))) = (j : Int) ∧ c_gv j (g j) = v 10 := rH
  have eH := t_g31 h 0 nl nv (by omega) (by omega) (by omega) rH (by omega)
  have rW : ∃ j : Nat, 42312403686512021114716160 + (1 * v 0 + (1073741824 * v 1 + (0))) = (j : Int) ∧ c_gv j (g j) = v 11 := rW
  have eW := t_g35 h nm nv (by omega) (by omega) rW (by omega)
  have c := t_kw0 (X := t_tx g) (t_G_ok h) (m := nm) (v := (nv : Int)) (a := nt) (b := nk) (c := nl) (by omega) (by omega) (by omega) (by omega) (by omega) (by omega) (by omega)
  exact ⟨(by show 0 ≤ 0 + (1 * v 11 + (0)); omega), (by show 0 ≤ 0 + ((-1) * v 11 + (0)); omega), trivial⟩
-- tkA0
theorem t_q134 {g : Nat → Int} (h : t_G g) : t_ok g 2 ([(24178516392292583494123520, [(0, 1)]), (25387442211907212668829696, [(0, 1)]), (41103477866897391940009984, [(0, 1)])], [(0, [(0, 1)]), (650, [(0, (-1))]), (0, [(1, 1)]), (650, [(1, (-1))]), (0, [(1, (-1)), (2, 1)]), (0, [(1, 1), (2, (-1))]), ((-6), [(3, 1)])], [(1, [(4, 1)]), ((-1), [(4, (-1))])]) := by
  refine t_okI fun v hr hp => ?_
  obtain ⟨rI, rC, rT, -⟩ := hr
  obtain ⟨p0, p1, p2, p3, p4, p5, p6, -⟩ := hp
  have p0 : 0 ≤ 0 + (1 * v 0 + (0)) := p0
  have p1 : 0 ≤ 650 + ((-1) * v 0 + (0)) := p1
  have p2 : 0 ≤ 0 + (1 * v 1 + (0)) := p2
  have p3 : 0 ≤ 650 + ((-1) * v 1 + (0)) := p3
  have p4 : 0 ≤ 0 + ((-1) * v 1 + (1 * v 2 + (0))) := p4
  have p5 : 0 ≤ 0 + (1 * v 1 + ((-1) * v 2 + (0))) := p5
  have p6 : 0 ≤ (-6) + (1 * v 3 + (0)) := p6
  obtain ⟨nm, hm⟩ : ∃ n : Nat, v 0 = (n : Int) := ⟨(v 0).toNat, by omega⟩
  obtain ⟨ni, hi⟩ : ∃ n : Nat, v 1 = (n : Int) := ⟨(v 1).toNat, by omega⟩
  have rI : ∃ j : Nat, 24178516392292583494123520 + (1 * v 0 + (0)) = (j : Int) ∧ c_gv j (g j) = v 2 := rI
  have eI := t_g20 h nm (by omega) rI (by omega)
  have rC : ∃ j : Nat, 25387442211907212668829696 + (1 * v 0 + (0)) = (j : Int) ∧ c_gv j (g j) = v 3 := rC
  have eC := t_g21 h nm (by omega) rC (by omega)
  have rT : ∃ j : Nat, 41103477866897391940009984 + (1 * v 0 + (0)) = (j : Int) ∧ c_gv j (g j) = v 4 := rT
  have eT := t_g34 h nm 0 (by omega) (by omega) rT (by omega)
  obtain ⟨s, hs, rfl⟩ := t_ix_s (X := t_tx g) (m := nm) (i := ni) (by omega)
  rw [t_tk0 hs] at eT
  rw [t_cn_s hs] at eC
  rw [if_neg (fun h9 : t_new (t_tx g) s s.2.1 6 = true => by have h8 := (t_new_iff.mp h9).1; omega)] at eT
  exact ⟨(by show 0 ≤ 1 + (1 * v 4 + (0)); omega), (by show 0 ≤ (-1) + ((-1) * v 4 + (0)); omega), trivial⟩
-- tkB0
theorem t_q135 {g : Nat → Int} (h : t_G g) : t_ok g 2 ([(24178516392292583494123520, [(0, 1)]), (25387442211907212668829696, [(0, 1)]), (41103477866897391940009984, [(0, 1)]), (19342813113834066795298817, [(1, 1)])], [(0, [(0, 1)]), (650, [(0, (-1))]), (0, [(1, 1)]), (650, [(1, (-1))]), (0, [(1, (-1)), (2, 1)]), (0, [(1, 1), (2, (-1))]), (0, [(5, 1)]), (0, [(5, (-1))])], [(1, [(4, 1)]), ((-1), [(4, (-1))])]) := by
  refine t_okI fun v hr hp => ?_
  obtain ⟨rI, rC, rT, rS, -⟩ := hr
  obtain ⟨p0, p1, p2, p3, p4, p5, p6, p7, -⟩ := hp
  have p0 : 0 ≤ 0 + (1 * v 0 + (0)) := p0
  have p1 : 0 ≤ 650 + ((-1) * v 0 + (0)) := p1
  have p2 : 0 ≤ 0 + (1 * v 1 + (0)) := p2
  have p3 : 0 ≤ 650 + ((-1) * v 1 + (0)) := p3
  have p4 : 0 ≤ 0 + ((-1) * v 1 + (1 * v 2 + (0))) := p4
  have p5 : 0 ≤ 0 + (1 * v 1 + ((-1) * v 2 + (0))) := p5
  have p6 : 0 ≤ 0 + (1 * v 5 + (0)) := p6
  have p7 : 0 ≤ 0 + ((-1) * v 5 + (0)) := p7
  obtain ⟨nm, hm⟩ : ∃ n : Nat, v 0 = (n : Int) := ⟨(v 0).toNat, by omega⟩
  obtain ⟨ni, hi⟩ : ∃ n : Nat, v 1 = (n : Int) := ⟨(v 1).toNat, by omega⟩
  have rI : ∃ j : Nat, 24178516392292583494123520 + (1 * v 0 + (0)) = (j : Int) ∧ c_gv j (g j) = v 2 := rI
  have eI := t_g20 h nm (by omega) rI (by omega)
  have rC : ∃ j : Nat, 25387442211907212668829696 + (1 * v 0 + (0)) = (j : Int) ∧ c_gv j (g j) = v 3 := rC
  have eC := t_g21 h nm (by omega) rC (by omega)
  have rT : ∃ j : Nat, 41103477866897391940009984 + (1 * v 0 + (0)) = (j : Int) ∧ c_gv j (g j) = v 4 := rT
  have eT := t_g34 h nm 0 (by omega) (by omega) rT (by omega)
  have rS : ∃ j : Nat, 19342813113834066795298817 + (1 * v 1 + (0)) = (j : Int) ∧ c_gv j (g j) = v 5 := rS
  have eS := t_g16 h (ni+1) (by omega) rS (by omega)
  obtain ⟨s, hs, rfl⟩ := t_ix_s (X := t_tx g) (m := nm) (i := ni) (by omega)
  rw [t_tk0 hs] at eT
  rw [t_cn_s hs] at eC
  have ceS : t_nam (t_tx g) (s.1 + 1) = false := by
    cases h9 : t_nam (t_tx g) (s.1 + 1) with
    | false => rfl
    | true =>
      exfalso
      rw [h9] at eS
      have eS : v 5 = 1 := eS
      omega
  have deS : ¬(t_nam (t_tx g) (s.1 + 1) = true) := by rw [ceS]; exact Bool.false_ne_true
  rw [t_nam_iff] at deS
  rw [if_neg (fun h9 : t_new (t_tx g) s s.2.1 6 = true => by have h8 := (t_new_iff.mp h9).2.1; rw [ceS] at h8; cases h8)] at eT
  exact ⟨(by show 0 ≤ 1 + (1 * v 4 + (0)); omega), (by show 0 ≤ (-1) + ((-1) * v 4 + (0)); omega), trivial⟩
-- tkC0
theorem t_q136 {g : Nat → Int} (h : t_G g) : t_ok g 3 ([(24178516392292583494123520, [(0, 1)]), (25387442211907212668829696, [(0, 1)]), (41103477866897391940009984, [(0, 1)]), (19342813113834066795298817, [(1, 1)]), (12089258196146291747061761, [(1, 1)]), (42312403686512021114716160, [(0, 1), (2, 1073741824)])], [(0, [(0, 1)]), (650, [(0, (-1))]), (0, [(1, 1)]), (650, [(1, (-1))]), (0, [(2, 1)]), (1099511627775, [(2, (-1))]), (0, [(1, (-1)), (3, 1)]), (0, [(1, 1), (3, (-1))]), (0, [(2, (-1)), (7, 1)]), (0, [(2, 1), (7, (-1))]), ((-1), [(8, 1)]), (1, [(8, (-1))])], [(1, [(5, 1)]), ((-1), [(5, (-1))])]) := by
  refine t_okI fun v hr hp => ?_
  obtain ⟨rI, rC, rT, rS, rV, rW, -⟩ := hr
  obtain ⟨p0, p1, p2, p3, p4, p5, p6, p7, p8, p9, p10, p11, -⟩ := hp
  have p0 : 0 ≤ 0 + (1 * v 0 + (0)) := p0
  have p1 : 0 ≤ 650 + ((-1) * v 0 + (0)) := p1
  have p2 : 0 ≤ 0 + (1 * v 1 + (0)) := p2
  have p3 : 0 ≤ 650 + ((-1) * v 1 + (0)) := p3
  have p4 : 0 ≤ 0 + (1 * v 2 + (0)) := p4
  have p5 : 0 ≤ 1099511627775 + ((-1) * v 2 + (0)) := p5
  have p6 : 0 ≤ 0 + ((-1) * v 1 + (1 * v 3 + (0))) := p6
  have p7 : 0 ≤ 0 + (1 * v 1 + ((-1) * v 3 + (0))) := p7
  have p8 : 0 ≤ 0 + ((-1) * v 2 + (1 * v 7 + (0))) := p8
  have p9 : 0 ≤ 0 + (1 * v 2 + ((-1) * v 7 + (0))) := p9
  have p10 : 0 ≤ (-1) + (1 * v 8 + (0)) := p10
  have p11 : 0 ≤ 1 + ((-1) * v 8 + (0)) := p11
  obtain ⟨nm, hm⟩ : ∃ n : Nat, v 0 = (n : Int) := ⟨(v 0).toNat, by omega⟩
  obtain ⟨ni, hi⟩ : ∃ n : Nat, v 1 = (n : Int) := ⟨(v 1).toNat, by omega⟩
  obtain ⟨nv, hv⟩ : ∃ n : Nat, v 2 = (n : Int) := ⟨(v 2).toNat, by omega⟩
  have rI : ∃ j : Nat, 24178516392292583494123520 + (1 * v 0 + (0)) = (j : Int) ∧ c_gv j (g j) = v 3 := rI
  have eI := t_g20 h nm (by omega) rI (by omega)
  have rC : ∃ j : Nat, 25387442211907212668829696 + (1 * v 0 + (0)) = (j : Int) ∧ c_gv j (g j) = v 4 := rC
  have eC := t_g21 h nm (by omega) rC (by omega)
  have rT : ∃ j : Nat, 41103477866897391940009984 + (1 * v 0 + (0)) = (j : Int) ∧ c_gv j (g j) = v 5 := rT
  have eT := t_g34 h nm 0 (by omega) (by omega) rT (by omega)
  have rS : ∃ j : Nat, 19342813113834066795298817 + (1 * v 1 + (0)) = (j : Int) ∧ c_gv j (g j) = v 6 := rS
  have eS := t_g16 h (ni+1) (by omega) rS (by omega)
  have rV : ∃ j : Nat, 12089258196146291747061761 + (1 * v 1 + (0)) = (j : Int) ∧ c_gv j (g j) = v 7 := rV
  have eV := t_g10 h (ni+1) (by omega) rV (by omega)
  have rW : ∃ j : Nat, 42312403686512021114716160 + (1 * v 0 + (1073741824 * v 2 + (0))) = (j : Int) ∧ c_gv j (g j) = v 8 := rW
  have eW := t_g35 h nm nv (by omega) (by omega) rW (by omega)
  obtain ⟨s, hs, rfl⟩ := t_ix_s (X := t_tx g) (m := nm) (i := ni) (by omega)
  rw [t_tk0 hs] at eT
  rw [t_cn_s hs] at eC
  rw [t_kw_s hs] at eW
  have ceW : t_kno s (nv : Int) = true := by
    cases h9 : t_kno s (nv : Int) with
    | true => rfl
    | false =>
      exfalso
      rw [h9] at eW
      have eW : v 8 = 0 := eW
      omega
  have deW := t_kno_iff.mp ceW
  rw [if_neg (fun h9 : t_new (t_tx g) s s.2.1 6 = true => by have h8 := (t_new_iff.mp h9).2.2; rw [show t_v (t_tx g) (s.1 + 1) = (nv : Int) by omega, ceW] at h8; cases h8)] at eT
  exact ⟨(by show 0 ≤ 1 + (1 * v 5 + (0)); omega), (by show 0 ≤ (-1) + ((-1) * v 5 + (0)); omega), trivial⟩
-- tkD0
theorem t_q137 {g : Nat → Int} (h : t_G g) : t_ok g 3 ([(24178516392292583494123520, [(0, 1)]), (25387442211907212668829696, [(0, 1)]), (41103477866897391940009984, [(0, 1)]), (19342813113834066795298817, [(1, 1)]), (12089258196146291747061761, [(1, 1)]), (42312403686512021114716160, [(0, 1), (2, 1073741824)])], [(0, [(0, 1)]), (650, [(0, (-1))]), (0, [(1, 1)]), (650, [(1, (-1))]), (0, [(2, 1)]), (1099511627775, [(2, (-1))]), (0, [(1, (-1)), (3, 1)]), (0, [(1, 1), (3, (-1))]), (5, [(4, (-1))]), ((-1), [(6, 1)]), (1, [(6, (-1))]), (0, [(2, (-1)), (7, 1)]), (0, [(2, 1), (7, (-1))]), (0, [(8, 1)]), (0, [(8, (-1))])], [((-2), [(1, (-1)), (5, 1)]), (2, [(1, 1), (5, (-1))])]) := by
  refine t_okI fun v hr hp => ?_
  obtain ⟨rI, rC, rT, rS, rV, rW, -⟩ := hr
  obtain ⟨p0, p1, p2, p3, p4, p5, p6, p7, p8, p9, p10, p11, p12, p13, p14, -⟩ := hp
  have p0 : 0 ≤ 0 + (1 * v 0 + (0)) := p0
  have p1 : 0 ≤ 650 + ((-1) * v 0 + (0)) := p1
  have p2 : 0 ≤ 0 + (1 * v 1 + (0)) := p2
  have p3 : 0 ≤ 650 + ((-1) * v 1 + (0)) := p3
  have p4 : 0 ≤ 0 + (1 * v 2 + (0)) := p4
  have p5 : 0 ≤ 1099511627775 + ((-1) * v 2 + (0)) := p5
  have p6 : 0 ≤ 0 + ((-1) * v 1 + (1 * v 3 + (0))) := p6
  have p7 : 0 ≤ 0 + (1 * v 1 + ((-1) * v 3 + (0))) := p7
  have p8 : 0 ≤ 5 + ((-1) * v 4 + (0)) := p8
  have p9 : 0 ≤ (-1) + (1 * v 6 + (0)) := p9
  have p10 : 0 ≤ 1 + ((-1) * v 6 + (0)) := p10
  have p11 : 0 ≤ 0 + ((-1) * v 2 + (1 * v 7 + (0))) := p11
  have p12 : 0 ≤ 0 + (1 * v 2 + ((-1) * v 7 + (0))) := p12
  have p13 : 0 ≤ 0 + (1 * v 8 + (0)) := p13
  have p14 : 0 ≤ 0 + ((-1) * v 8 + (0)) := p14
  obtain ⟨nm, hm⟩ : ∃ n : Nat, v 0 = (n : Int) := ⟨(v 0).toNat, by omega⟩
  obtain ⟨ni, hi⟩ : ∃ n : Nat, v 1 = (n : Int) := ⟨(v 1).toNat, by omega⟩
  obtain ⟨nv, hv⟩ : ∃ n : Nat, v 2 = (n : Int) := ⟨(v 2).toNat, by omega⟩
  have rI : ∃ j : Nat, 24178516392292583494123520 + (1 * v 0 + (0)) = (j : Int) ∧ c_gv j (g j) = v 3 := rI
  have eI := t_g20 h nm (by omega) rI (by omega)
  have rC : ∃ j : Nat, 25387442211907212668829696 + (1 * v 0 + (0)) = (j : Int) ∧ c_gv j (g j) = v 4 := rC
  have eC := t_g21 h nm (by omega) rC (by omega)
  have rT : ∃ j : Nat, 41103477866897391940009984 + (1 * v 0 + (0)) = (j : Int) ∧ c_gv j (g j) = v 5 := rT
  have eT := t_g34 h nm 0 (by omega) (by omega) rT (by omega)
  have rS : ∃ j : Nat, 19342813113834066795298817 + (1 * v 1 + (0)) = (j : Int) ∧ c_gv j (g j) = v 6 := rS
  have eS := t_g16 h (ni+1) (by omega) rS (by omega)
  have rV : ∃ j : Nat, 12089258196146291747061761 + (1 * v 1 + (0)) = (j : Int) ∧ c_gv j (g j) = v 7 := rV
  have eV := t_g10 h (ni+1) (by omega) rV (by omega)
  have rW : ∃ j : Nat, 42312403686512021114716160 + (1 * v 0 + (1073741824 * v 2 + (0))) = (j : Int) ∧ c_gv j (g j) = v 8 := rW
  have eW := t_g35 h nm nv (by omega) (by omega) rW (by omega)
  obtain ⟨s, hs, rfl⟩ := t_ix_s (X := t_tx g) (m := nm) (i := ni) (by omega)
  rw [t_tk0 hs] at eT
  rw [t_cn_s hs] at eC
  rw [t_kw_s hs] at eW
  have ceW : t_kno s (nv : Int) = false := by
    cases h9 : t_kno s (nv : Int) with
    | false => rfl
    | true =>
      exfalso
      rw [h9] at eW
      have eW : v 8 = 1 := eW
      omega
  have deW : ¬(t_kno s (nv : Int) = true) := by rw [ceW]; exact Bool.false_ne_true
  rw [t_kno_iff] at deW
  have ceS : t_nam (t_tx g) (s.1 + 1) = true := by
    cases h9 : t_nam (t_tx g) (s.1 + 1) with
    | true => rfl
    | false =>
      exfalso
      rw [h9] at eS
      have eS : v 6 = 0 := eS
      omega
  have deS := t_nam_iff.mp ceS
  rw [if_pos (t_new_iff.mpr ⟨by omega, ceS, by rw [show t_v (t_tx g) (s.1 + 1) = (nv : Int) by omega]; exact ceW⟩)] at eT
  exact ⟨(by show 0 ≤ (-2) + ((-1) * v 1 + (1 * v 5 + (0))); omega), (by show 0 ≤ 2 + (1 * v 1 + ((-1) * v 5 + (0))); omega), trivial⟩
-- tkA1
theorem t_q138 {g : Nat → Int} (h : t_G g) : t_ok g 2 ([(24178516392292583494123520, [(0, 1)]), (26596368031521841843535872, [(0, 1)]), (41103477866897391941058560, [(0, 1)])], [(0, [(0, 1)]), (650, [(0, (-1))]), (0, [(1, 1)]), (650, [(1, (-1))]), (0, [(1, (-1)), (2, 1)]), (0, [(1, 1), (2, (-1))]), ((-6), [(3, 1)])], [(1, [(4, 1)]), ((-1), [(4, (-1))])]) := by
  refine t_okI fun v hr hp => ?_
  obtain ⟨rI, rC, rT, -⟩ := hr
  obtain ⟨p0, p1, p2, p3, p4, p5, p6, -⟩ := hp
  have p0 : 0 ≤ 0 + (1 * v 0 + (0)) := p0
  have p1 : 0 ≤ 650 + ((-1) * v 0 + (0)) := p1
  have p2 : 0 ≤ 0 + (1 * v 1 + (0)) := p2
  have p3 : 0 ≤ 650 + ((-1) * v 1 + (0)) := p3
  have p4 : 0 ≤ 0 + ((-1) * v 1 + (1 * v 2 + (0))) := p4
  have p5 : 0 ≤ 0 + (1 * v 1 + ((-1) * v 2 + (0))) := p5
  have p6 : 0 ≤ (-6) + (1 * v 3 + (0)) := p6
  obtain ⟨nm, hm⟩ : ∃ n : Nat, v 0 = (n : Int) := ⟨(v 0).toNat, by omega⟩
  obtain ⟨ni, hi⟩ : ∃ n : Nat, v 1 = (n : Int) := ⟨(v 1).toNat, by omega⟩
  have rI : ∃ j : Nat, 24178516392292583494123520 + (1 * v 0 + (0)) = (j : Int) ∧ c_gv j (g j) = v 2 := rI
  have eI := t_g20 h nm (by omega) rI (by omega)
  have rC : ∃ j : Nat, 26596368031521841843535872 + (1 * v 0 + (0)) = (j : Int) ∧ c_gv j (g j) = v 3 := rC
  have eC := t_g22 h nm (by omega) rC (by omega)
  have rT : ∃ j : Nat, 41103477866897391941058560 + (1 * v 0 + (0)) = (j : Int) ∧ c_gv j (g j) = v 4 := rT
  have eT := t_g34 h nm 1 (by omega) (by omega) rT (by omega)
  obtain ⟨s, hs, rfl⟩ := t_ix_s (X := t_tx g) (m := nm) (i := ni) (by omega)
  rw [t_tk1 hs] at eT
  rw [t_cn_s hs] at eC
  rw [if_neg (fun h9 : t_new (t_tx g) s s.2.2.1 6 = true => by have h8 := (t_new_iff.mp h9).1; omega)] at eT
  exact ⟨(by show 0 ≤ 1 + (1 * v 4 + (0)); omega), (by show 0 ≤ (-1) + ((-1) * v 4 + (0)); omega), trivial⟩
-- tkB1
theorem t_q139 {g : Nat → Int} (h : t_G g) : t_ok g 2 ([(24178516392292583494123520, [(0, 1)]), (26596368031521841843535872, [(0, 1)]), (41103477866897391941058560, [(0, 1)]), (19342813113834066795298817, [(1, 1)])], [(0, [(0, 1)]), (650, [(0, (-1))]), (0, [(1, 1)]), (650, [(1, (-1))]), (0, [(1, (-1)), (2, 1)]), (0, [(1, 1), (2, (-1))]), (0, [(5, 1)]), (0, [(5, (-1))])], [(1, [(4, 1)]), ((-1), [(4, (-1))])]) := by
  refine t_okI fun v hr hp => ?_
  obtain ⟨rI, rC, rT, rS, -⟩ := hr
  obtain ⟨p0, p1, p2, p3, p4, p5, p6, p7, -⟩ := hp
  have p0 : 0 ≤ 0 + (1 * v 0 + (0)) := p0
  have p1 : 0 ≤ 650 + ((-1) * v 0 + (0)) := p1
  have p2 : 0 ≤ 0 + (1 * v 1 + (0)) := p2
  have p3 : 0 ≤ 650 + ((-1) * v 1 + (0)) := p3
  have p4 : 0 ≤ 0 + ((-1) * v 1 + (1 * v 2 + (0))) := p4
  have p5 : 0 ≤ 0 + (1 * v 1 + ((-1) * v 2 + (0))) := p5
  have p6 : 0 ≤ 0 + (1 * v 5 + (0)) := p6
  have p7 : 0 ≤ 0 + ((-1) * v 5 + (0)) := p7
  obtain ⟨nm, hm⟩ : ∃ n : Nat, v 0 = (n : Int) := ⟨(v 0).toNat, by omega⟩
  obtain ⟨ni, hi⟩ : ∃ n : Nat, v 1 = (n : Int) := ⟨(v 1).toNat, by omega⟩
  have rI : ∃ j : Nat, 24178516392292583494123520 + (1 * v 0 + (0)) = (j : Int) ∧ c_gv j (g j) = v 2 := rI
  have eI := t_g20 h nm (by omega) rI (by omega)
  have rC : ∃ j : Nat, 26596368031521841843535872 + (1 * v 0 + (0)) = (j : Int) ∧ c_gv j (g j) = v 3 := rC
  have eC := t_g22 h nm (by omega) rC (by omega)
  have rT : ∃ j : Nat, 41103477866897391941058560 + (1 * v 0 + (0)) = (j : Int) ∧ c_gv j (g j) = v 4 := rT
  have eT := t_g34 h nm 1 (by omega) (by omega) rT (by omega)
  have rS : ∃ j : Nat, 19342813113834066795298817 + (1 * v 1 + (0)) = (j : Int) ∧ c_gv j (g j) = v 5 := rS
  have eS := t_g16 h (ni+1) (by omega) rS (by omega)
  obtain ⟨s, hs, rfl⟩ := t_ix_s (X := t_tx g) (m := nm) (i := ni) (by omega)
  rw [t_tk1 hs] at eT
  rw [t_cn_s hs] at eC
  have ceS : t_nam (t_tx g) (s.1 + 1) = false := by
    cases h9 : t_nam (t_tx g) (s.1 + 1) with
    | false => rfl
    | true =>
      exfalso
      rw [h9] at eS
      have eS : v 5 = 1 := eS
      omega
  have deS : ¬(t_nam (t_tx g) (s.1 + 1) = true) := by rw [ceS]; exact Bool.false_ne_true
  rw [t_nam_iff] at deS
  rw [if_neg (fun h9 : t_new (t_tx g) s s.2.2.1 6 = true => by have h8 := (t_new_iff.mp h9).2.1; rw [ceS] at h8; cases h8)] at eT
  exact ⟨(by show 0 ≤ 1 + (1 * v 4 + (0)); omega), (by show 0 ≤ (-1) + ((-1) * v 4 + (0)); omega), trivial⟩
-- tkC1
theorem t_q140 {g : Nat → Int} (h : t_G g) : t_ok g 3 ([(24178516392292583494123520, [(0, 1)]), (26596368031521841843535872, [(0, 1)]), (41103477866897391941058560, [(0, 1)]), (19342813113834066795298817, [(1, 1)]), (12089258196146291747061761, [(1, 1)]), (42312403686512021114716160, [(0, 1), (2, 1073741824)])], [(0, [(0, 1)]), (650, [(0, (-1))]), (0, [(1, 1)]), (650, [(1, (-1))]), (0, [(2, 1)]), (1099511627775, [(2, (-1))]), (0, [(1, (-1)), (3, 1)]), (0, [(1, 1), (3, (-1))]), (0, [(2, (-1)), (7, 1)]), (0, [(2, 1), (7, (-1))]), ((-1), [(8, 1)]), (1, [(8, (-1))])], [(1, [(5, 1)]), ((-1), [(5, (-1))])]) := by
  refine t_okI fun v hr hp => ?_
  obtain ⟨rI, rC, rT, rS, rV, rW, -⟩ := hr
  obtain ⟨p0, p1, p2, p3, p4, p5, p6, p7, p8, p9, p10, p11, -⟩ := hp
  have p0 : 0 ≤ 0 + (1 * v 0 + (0)) := p0
  have p1 : 0 ≤ 650 + ((-1) * v 0 + (0)) := p1
  have p2 : 0 ≤ 0 + (1 * v 1 + (0)) := p2
  have p3 : 0 ≤ 650 + ((-1) * v 1 + (0)) := p3
  have p4 : 0 ≤ 0 + (1 * v 2 + (0)) := p4
  have p5 : 0 ≤ 1099511627775 + ((-1) * v 2 + (0)) := p5
  have p6 : 0 ≤ 0 + ((-1) * v 1 + (1 * v 3 + (0))) := p6
  have p7 : 0 ≤ 0 + (1 * v 1 + ((-1) * v 3 + (0))) := p7
  have p8 : 0 ≤ 0 + ((-1) * v 2 + (1 * v 7 + (0))) := p8
  have p9 : 0 ≤ 0 + (1 * v 2 + ((-1) * v 7 + (0))) := p9
  have p10 : 0 ≤ (-1) + (1 * v 8 + (0)) := p10
  have p11 : 0 ≤ 1 + ((-1) * v 8 + (0)) := p11
  obtain ⟨nm, hm⟩ : ∃ n : Nat, v 0 = (n : Int) := ⟨(v 0).toNat, by omega⟩
  obtain ⟨ni, hi⟩ : ∃ n : Nat, v 1 = (n : Int) := ⟨(v 1).toNat, by omega⟩
  obtain ⟨nv, hv⟩ : ∃ n : Nat, v 2 = (n : Int) := ⟨(v 2).toNat, by omega⟩
  have rI : ∃ j : Nat, 24178516392292583494123520 + (1 * v 0 + (0)) = (j : Int) ∧ c_gv j (g j) = v 3 := rI
  have eI := t_g20 h nm (by omega) rI (by omega)
  have rC : ∃ j : Nat, 26596368031521841843535872 + (1 * v 0 + (0)) = (j : Int) ∧ c_gv j (g j) = v 4 := rC
  have eC := t_g22 h nm (by omega) rC (by omega)
  have rT : ∃ j : Nat, 41103477866897391941058560 + (1 * v 0 + (0)) = (j : Int) ∧ c_gv j (g j) = v 5 := rT
  have eT := t_g34 h nm 1 (by omega) (by omega) rT (by omega)
  have rS : ∃ j : Nat, 19342813113834066795298817 + (1 * v 1 + (0)) = (j : Int) ∧ c_gv j (g j) = v 6 := rS
  have eS := t_g16 h (ni+1) (by omega) rS (by omega)
  have rV : ∃ j : Nat, 12089258196146291747061761 + (1 * v 1 + (0)) = (j : Int) ∧ c_gv j (g j) = v 7 := rV
  have eV := t_g10 h (ni+1) (by omega) rV (by omega)
  have rW : ∃ j : Nat, 42312403686512021114716160 + (1 * v 0 + (1073741824 * v 2 + (0))) = (j : Int) ∧ c_gv j (g j) = v 8 := rW
  have eW := t_g35 h nm nv (by omega) (by omega) rW (by omega)
  obtain ⟨s, hs, rfl⟩ := t_ix_s (X := t_tx g) (m := nm) (i := ni) (by omega)
  rw [t_tk1 hs] at eT
  rw [t_cn_s hs] at eC
  rw [t_kw_s hs] at eW
  have ceW : t_kno s (nv : Int) = true := by
    cases h9 : t_kno s (nv : Int) with
    | true => rfl
    | false =>
      exfalso
      rw [h9] at eW
      have eW : v 8 = 0 := eW
      omega
  have deW := t_kno_iff.mp ceW
  rw [if_neg (fun h9 : t_new (t_tx g) s s.2.2.1 6 = true => by have h8 := (t_new_iff.mp h9).2.2; rw [show t_v (t_tx g) (s.1 + 1) = (nv : Int) by omega, ceW] at h8; cases h8)] at eT
  exact ⟨(by show 0 ≤ 1 + (1 * v 5 + (0)); omega), (by show 0 ≤ (-1) + ((-1) * v 5 + (0)); omega), trivial⟩
-- tkD1
theorem t_q141 {g : Nat → Int} (h : t_G g) : t_ok g 3 ([(24178516392292583494123520, [(0, 1)]), (26596368031521841843535872, [(0, 1)]), (41103477866897391941058560, [(0, 1)]), (19342813113834066795298817, [(1, 1)]), (12089258196146291747061761, [(1, 1)]), (42312403686512021114716160, [(0, 1), (2, 1073741824)])], [(0, [(0, 1)]), (650, [(0, (-1))]), (0, [(1, 1)]), (650, [(1, (-1))]), (0, [(2, 1)]), (1099511627775, [(2, (-1))]), (0, [(1, (-1)), (3, 1)]), (0, [(1, 1), (3, (-1))]), (5, [(4, (-1))]), ((-1), [(6, 1)]), (1, [(6, (-1))]), (0, [(2, (-1)), (7, 1)]), (0, [(2, 1), (7, (-1))]), (0, [(8, 1)]), (0, [(8, (-1))])], [((-2), [(1, (-1)), (5, 1)]), (2, [(1, 1), (5, (-1))])]) := by
  refine t_okI fun v hr hp => ?_
  obtain ⟨rI, rC, rT, rS, rV, rW, -⟩ := hr
  obtain ⟨p0, p1, p2, p3, p4, p5, p6, p7, p8, p9, p10, p11, p12, p13, p14, -⟩ := hp
  have p0 : 0 ≤ 0 + (1 * v 0 + (0)) := p0
  have p1 : 0 ≤ 650 + ((-1) * v 0 + (0)) := p1
  have p2 : 0 ≤ 0 + (1 * v 1 + (0)) := p2
  have p3 : 0 ≤ 650 + ((-1) * v 1 + (0)) := p3
  have p4 : 0 ≤ 0 + (1 * v 2 + (0)) := p4
  have p5 : 0 ≤ 1099511627775 + ((-1) * v 2 + (0)) := p5
  have p6 : 0 ≤ 0 + ((-1) * v 1 + (1 * v 3 + (0))) := p6
  have p7 : 0 ≤ 0 + (1 * v 1 + ((-1) * v 3 + (0))) := p7
  have p8 : 0 ≤ 5 + ((-1) * v 4 + (0)) := p8
  have p9 : 0 ≤ (-1) + (1 * v 6 + (0)) := p9
  have p10 : 0 ≤ 1 + ((-1) * v 6 + (0)) := p10
  have p11 : 0 ≤ 0 + ((-1) * v 2 + (1 * v 7 + (0))) := p11
  have p12 : 0 ≤ 0 + (1 * v 2 + ((-1) * v 7 + (0))) := p12
  have p13 : 0 ≤ 0 + (1 * v 8 + (0)) := p13
  have p14 : 0 ≤ 0 + ((-1) * v 8 + (0)) := p14
  obtain ⟨nm, hm⟩ : ∃ n : Nat, v 0 = (n : Int) := ⟨(v 0).toNat, by omega⟩
  obtain ⟨ni, hi⟩ : ∃ n : Nat, v 1 = (n : Int) := ⟨(v 1).toNat, by omega⟩
  obtain ⟨nv, hv⟩ : ∃ n : Nat, v 2 = (n : Int) := ⟨(v 2).toNat, by omega⟩
  have rI : ∃ j : Nat, 24178516392292583494123520 + (1 * v 0 + (0)) = (j : Int) ∧ c_gv j (g j) = v 3 := rI
  have eI := t_g20 h nm (by omega) rI (by omega)
  have rC : ∃ j : Nat, 26596368031521841843535872 + (1 * v 0 + (0)) = (j : Int) ∧ c_gv j (g j) = v 4 := rC
  have eC := t_g22 h nm (by omega) rC (by omega)
  have rT : ∃ j : Nat, 41103477866897391941058560 + (1 * v 0 + (0)) = (j : Int) ∧ c_gv j (g j) = v 5 := rT
  have eT := t_g34 h nm 1 (by omega) (by omega) rT (by omega)
  have rS : ∃ j : Nat, 19342813113834066795298817 + (1 * v 1 + (0)) = (j : Int) ∧ c_gv j (g j) = v 6 := rS
  have eS := t_g16 h (ni+1) (by omega) rS (by omega)
  have rV : ∃ j : Nat, 12089258196146291747061761 + (1 * v 1 + (0)) = (j : Int) ∧ c_gv j (g j) = v 7 := rV
  have eV := t_g10 h (ni+1) (by omega) rV (by omega)
  have rW : ∃ j : Nat, 42312403686512021114716160 + (1 * v 0 + (1073741824 * v 2 + (0))) = (j : Int) ∧ c_gv j (g j) = v 8 := rW
  have eW := t_g35 h nm nv (by omega) (by omega) rW (by omega)
  obtain ⟨s, hs, rfl⟩ := t_ix_s (X := t_tx g) (m := nm) (i := ni) (by omega)
  rw [t_tk1 hs] at eT
  rw [t_cn_s hs] at eC
  rw [t_kw_s hs] at eW
  have ceW : t_kno s (nv : Int) = false := by
    cases h9 : t_kno s (nv : Int) with
    | false => rfl
    | true =>
      exfalso
      rw [h9] at eW
      have eW : v 8 = 1 := eW
      omega
  have deW : ¬(t_kno s (nv : Int) = true) := by rw [ceW]; exact Bool.false_ne_true
  rw [t_kno_iff] at deW
  have ceS : t_nam (t_tx g) (s.1 + 1) = true := by
    cases h9 : t_nam (t_tx g) (s.1 + 1) with
    | true => rfl
    | false =>
      exfalso
      rw [h9] at eS
      have eS : v 6 = 0 := eS
      omega
  have deS := t_nam_iff.mp ceS
  rw [if_pos (t_new_iff.mpr ⟨by omega, ceS, by rw [show t_v (t_tx g) (s.1 + 1) = (nv : Int) by omega]; exact ceW⟩)] at eT
  exact ⟨(by show 0 ≤ (-2) + ((-1) * v 1 + (1 * v 5 + (0))); omega), (by show 0 ≤ 2 + (1 * v 1 + ((-1) * v 5 + (0))); omega), trivial⟩
-- tkA2
theorem t_q142 {g : Nat → Int} (h : t_G g) : t_ok g 2 ([(24178516392292583494123520, [(0, 1)]), (27805293851136471018242048, [(0, 1)]), (41103477866897391942107136, [(0, 1)])], [(0, [(0, 1)]), (650, [(0, (-1))]), (0, [(1, 1)]), (650, [(1, (-1))]), (0, [(1, (-1)), (2, 1)]), (0, [(1, 1), (2, (-1))]), ((-4), [(3, 1)])], [(1, [(4, 1)]), ((-1), [(4, (-1))])]) := by
  refine t_okI fun v hr hp => ?_
  obtain ⟨rI, rC, rT, -⟩ := hr
  obtain ⟨p0, p1, p2, p3, p4, p5, p6, -⟩ := hp
  have p0 : 0 ≤ 0 + (1 * v 0 + (0)) := p0
  have p1 : 0 ≤ 650 + ((-1) * v 0 + (0)) := p1
  have p2 : 0 ≤ 0 + (1 * v 1 + (0)) := p2
  have p3 : 0 ≤ 650 + ((-1) * v 1 + (0)) := p3
  have p4 : 0 ≤ 0 + ((-1) * v 1 + (1 * v 2 + (0))) := p4
  have p5 : 0 ≤ 0 + (1 * v 1 + ((-1) * v 2 + (0))) := p5
  have p6 : 0 ≤ (-4) + (1 * v 3 + (0)) := p6
  obtain ⟨nm, hm⟩ : ∃ n : Nat, v 0 = (n : Int) := ⟨(v 0).toNat, by omega⟩
  obtain ⟨ni, hi⟩ : ∃ n : Nat, v 1 = (n : Int) := ⟨(v 1).toNat, by omega⟩
  have rI : ∃ j : Nat, 24178516392292583494123520 + (1 * v 0 + (0)) = (j : Int) ∧ c_gv j (g j) = v 2 := rI
  have eI := t_g20 h nm (by omega) rI (by omega)
  have rC : ∃ j : Nat, 27805293851136471018242048 + (1 * v 0 + (0)) = (j : Int) ∧ c_gv j (g j) = v 3 := rC
  have eC := t_g23 h nm (by omega) rC (by omega)
  have rT : ∃ j : Nat, 41103477866897391942107136 + (1 * v 0 + (0)) = (j : Int) ∧ c_gv j (g j) = v 4 := rT
  have eT := t_g34 h nm 2 (by omega) (by omega) rT (by omega)
  obtain ⟨s, hs, rfl⟩ := t_ix_s (X := t_tx g) (m := nm) (i := ni) (by omega)
  rw [t_tk2 hs] at eT
  rw [t_cn_s hs] at eC
  rw [if_neg (fun h9 : t_new (t_tx g) s s.2.2.2.1 4 = true => by have h8 := (t_new_iff.mp h9).1; omega)] at eT
  exact ⟨(by show 0 ≤ 1 + (1 * v 4 + (0)); omega), (by show 0 ≤ (-1) + ((-1) * v 4 + (0)); omega), trivial⟩
-- tkB2
theorem t_q143 {g : Nat → Int} (h : t_G g) : t_ok g 2 ([(24178516392292583494123520, [(0, 1)]), (27805293851136471018242048, [(0, 1)]), (41103477866897391942107136, [(0, 1)]), (19342813113834066795298817, [(1, 1)])], [(0, [(0, 1)]), (650, [(0, (-1))]), (0, [(1, 1)]), (650, [(1, (-1))]), (0, [(1, (-1)), (2, 1)]), (0, [(1, 1), (2, (-1))]), (0, [(5, 1)]), (0, [(5, (-1))])], [(1, [(4, 1)]), ((-1), [(4, (-1))])]) := by
  refine t_okI fun v hr hp => ?_
  obtain ⟨rI, rC, rT, rS, -⟩ := hr
  obtain ⟨p0, p1, p2, p3, p4, p5, p6, p7, -⟩ := hp
  have p0 : 0 ≤ 0 + (1 * v 0 + (0)) := p0
  have p1 : 0 ≤ 650 + ((-1) * v 0 + (0)) := p1
  have p2 : 0 ≤ 0 + (1 * v 1 + (0)) := p2
  have p3 : 0 ≤ 650 + ((-1) * v 1 + (0)) := p3
  have p4 : 0 ≤ 0 + ((-1) * v 1 + (1 * v 2 + (0))) := p4
  have p5 : 0 ≤ 0 + (1 * v 1 + ((-1) * v 2 + (0))) := p5
  have p6 : 0 ≤ 0 + (1 * v 5 + (0)) := p6
  have p7 : 0 ≤ 0 + ((-1) * v 5 + (0)) := p7
  obtain ⟨nm, hm⟩ : ∃ n : Nat, v 0 = (n : Int) := ⟨(v 0).toNat, by omega⟩
  obtain ⟨ni, hi⟩ : ∃ n : Nat, v 1 = (n : Int) := ⟨(v 1).toNat, by omega⟩
  have rI : ∃ j : Nat, 24178516392292583494123520 + (1 * v 0 + (0)) = (j : Int) ∧ c_gv j (g j) = v 2 := rI
  have eI := t_g20 h nm (by omega) rI (by omega)
  have rC : ∃ j : Nat, 27805293851136471018242048 + (1 * v 0 + (0)) = (j : Int) ∧ c_gv j (g j) = v 3 := rC
  have eC := t_g23 h nm (by omega) rC (by omega)
  have rT : ∃ j : Nat, 41103477866897391942107136 + (1 * v 0 + (0)) = (j : Int) ∧ c_gv j (g j) = v 4 := rT
  have eT := t_g34 h nm 2 (by omega) (by omega) rT (by omega)
  have rS : ∃ j : Nat, 19342813113834066795298817 + (1 * v 1 + (0)) = (j : Int) ∧ c_gv j (g j) = v 5 := rS
  have eS := t_g16 h (ni+1) (by omega) rS (by omega)
  obtain ⟨s, hs, rfl⟩ := t_ix_s (X := t_tx g) (m := nm) (i := ni) (by omega)
  rw [t_tk2 hs] at eT
  rw [t_cn_s hs] at eC
  have ceS : t_nam (t_tx g) (s.1 + 1) = false := by
    cases h9 : t_nam (t_tx g) (s.1 + 1) with
    | false => rfl
    | true =>
      exfalso
      rw [h9] at eS
      have eS : v 5 = 1 := eS
      omega
  have deS : ¬(t_nam (t_tx g) (s.1 + 1) = true) := by rw [ceS]; exact Bool.false_ne_true
  rw [t_nam_iff] at deS
  rw [if_neg (fun h9 : t_new (t_tx g) s s.2.2.2.1 4 = true => by have h8 := (t_new_iff.mp h9).2.1; rw [ceS] at h8; cases h8)] at eT
  exact ⟨(by show 0 ≤ 1 + (1 * v 4 + (0)); omega), (by show 0 ≤ (-1) + ((-1) * v 4 + (0)); omega), trivial⟩
-- tkC2
theorem t_q144 {g : Nat → Int} (h : t_G g) : t_ok g 3 ([(24178516392292583494123520, [(0, 1)]), (27805293851136471018242048, [(0, 1)]), (41103477866897391942107136, [(0, 1)]), (19342813113834066795298817, [(1, 1)]), (12089258196146291747061761, [(1, 1)]), (42312403686512021114716160, [(0, 1), (2, 1073741824)])], [(0, [(0, 1)]), (650, [(0, (-1))]), (0, [(1, 1)]), (650, [(1, (-1))]), (0, [(2, 1)]), (1099511627775, [(2, (-1))]), (0, [(1, (-1)), (3, 1)]), (0, [(1, 1), (3, (-1))]), (0, [(2, (-1)), (7, 1)]), (0, [(2, 1), (7, (-1))]), ((-1), [(8, 1)]), (1, [(8, (-1))])], [(1, [(5, 1)]), ((-1), [(5, (-1))])]) := by
  refine t_okI fun v hr hp => ?_
  obtain ⟨rI, rC, rT, rS, rV, rW, -⟩ := hr
  obtain ⟨p0, p1, p2, p3, p4, p5, p6, p7, p8, p9, p10, p11, -⟩ := hp
  have p0 : 0 ≤ 0 + (1 * v 0 + (0)) := p0
  have p1 : 0 ≤ 650 + ((-1) * v 0 + (0)) := p1
  have p2 : 0 ≤ 0 + (1 * v 1 + (0)) := p2
  have p3 : 0 ≤ 650 + ((-1) * v 1 + (0)) := p3
  have p4 : 0 ≤ 0 + (1 * v 2 + (0)) := p4
  have p5 : 0 ≤ 1099511627775 + ((-1) * v 2 + (0)) := p5
  have p6 : 0 ≤ 0 + ((-1) * v 1 + (1 * v 3 + (0))) := p6
  have p7 : 0 ≤ 0 + (1 * v 1 + ((-1) * v 3 + (0))) := p7
  have p8 : 0 ≤ 0 + ((-1) * v 2 + (1 * v 7 + (0))) := p8
  have p9 : 0 ≤ 0 + (1 * v 2 + ((-1) * v 7 + (0))) := p9
  have p10 : 0 ≤ (-1) + (1 * v 8 + (0)) := p10
  have p11 : 0 ≤ 1 + ((-1) * v 8 + (0)) := p11
  obtain ⟨nm, hm⟩ : ∃ n : Nat, v 0 = (n : Int) := ⟨(v 0).toNat, by omega⟩
  obtain ⟨ni, hi⟩ : ∃ n : Nat, v 1 = (n : Int) := ⟨(v 1).toNat, by omega⟩
  obtain ⟨nv, hv⟩ : ∃ n : Nat, v 2 = (n : Int) := ⟨(v 2).toNat, by omega⟩
  have rI : ∃ j : Nat, 24178516392292583494123520 + (1 * v 0 + (0)) = (j : Int) ∧ c_gv j (g j) = v 3 := rI
  have eI := t_g20 h nm (by omega) rI (by omega)
  have rC : ∃ j : Nat, 27805293851136471018242048 + (1 * v 0 + (0)) = (j : Int) ∧ c_gv j (g j) = v 4 := rC
  have eC := t_g23 h nm (by omega) rC (by omega)
  have rT : ∃ j : Nat, 41103477866897391942107136 + (1 * v 0 + (0)) = (j : Int) ∧ c_gv j (g j) = v 5 := rT
  have eT := t_g34 h nm 2 (by omega) (by omega) rT (by omega)
  have rS : ∃ j : Nat, 19342813113834066795298817 + (1 * v 1 + (0)) = (j : Int) ∧ c_gv j (g j) = v 6 := rS
  have eS := t_g16 h (ni+1) (by omega) rS (by omega)
  have rV : ∃ j : Nat, 12089258196146291747061761 + (1 * v 1 + (0)) = (j : Int) ∧ c_gv j (g j) = v 7 := rV
  have eV := t_g10 h (ni+1) (by omega) rV (by omega)
  have rW : ∃ j : Nat, 42312403686512021114716160 + (1 * v 0 + (1073741824 * v 2 + (0))) = (j : Int) ∧ c_gv j (g j) = v 8 := rW
  have eW := t_g35 h nm nv (by omega) (by omega) rW (by omega)
  obtain ⟨s, hs, rfl⟩ := t_ix_s (X := t_tx g) (m := nm) (i := ni) (by omega)
  rw [t_tk2 hs] at eT
  rw [t_cn_s hs] at eC
  rw [t_kw_s hs] at eW
  have ceW : t_kno s (nv : Int) = true := by
    cases h9 : t_kno s (nv : Int) with
    | true => rfl
    | false =>
      exfalso
      rw [h9] at eW
      have eW : v 8 = 0 := eW
      omega
  have deW := t_kno_iff.mp ceW
  rw [if_neg (fun h9 : t_new (t_tx g) s s.2.2.2.1 4 = true => by have h8 := (t_new_iff.mp h9).2.2; rw [show t_v (t_tx g) (s.1 + 1) = (nv : Int) by omega, ceW] at h8; cases h8)] at eT
  exact ⟨(by show 0 ≤ 1 + (1 * v 5 + (0)); omega), (by show 0 ≤ (-1) + ((-1) * v 5 + (0)); omega), trivial⟩
-- tkD2
theorem t_q145 {g : Nat → Int} (h : t_G g) : t_ok g 3 ([(24178516392292583494123520, [(0, 1)]), (27805293851136471018242048, [(0, 1)]), (41103477866897391942107136, [(0, 1)]), (19342813113834066795298817, [(1, 1)]), (12089258196146291747061761, [(1, 1)]), (42312403686512021114716160, [(0, 1), (2, 1073741824)])], [(0, [(0, 1)]), (650, [(0, (-1))]), (0, [(1, 1)]), (650, [(1, (-1))]), (0, [(2, 1)]), (1099511627775, [(2, (-1))]), (0, [(1, (-1)), (3, 1)]), (0, [(1, 1), (3, (-1))]), (3, [(4, (-1))]), ((-1), [(6, 1)]), (1, [(6, (-1))]), (0, [(2, (-1)), (7, 1)]), (0, [(2, 1), (7, (-1))]), (0, [(8, 1)]), (0, [(8, (-1))])], [((-2), [(1, (-1)), (5, 1)]), (2, [(1, 1), (5, (-1))])]) := by
  refine t_okI fun v hr hp => ?_
  obtain ⟨rI, rC, rT, rS, rV, rW, -⟩ := hr
  obtain ⟨p0, p1, p2, p3, p4, p5, p6, p7, p8, p9, p10, p11, p12, p13, p14, -⟩ := hp
  have p0 : 0 ≤ 0 + (1 * v 0 + (0)) := p0
  have p1 : 0 ≤ 650 + ((-1) * v 0 + (0)) := p1
  have p2 : 0 ≤ 0 + (1 * v 1 + (0)) := p2
  have p3 : 0 ≤ 650 + ((-1) * v 1 + (0)) := p3
  have p4 : 0 ≤ 0 + (1 * v 2 + (0)) := p4
  have p5 : 0 ≤ 1099511627775 + ((-1) * v 2 + (0)) := p5
  have p6 : 0 ≤ 0 + ((-1) * v 1 + (1 * v 3 + (0))) := p6
  have p7 : 0 ≤ 0 + (1 * v 1 + ((-1) * v 3 + (0))) := p7
  have p8 : 0 ≤ 3 + ((-1) * v 4 + (0)) := p8
  have p9 : 0 ≤ (-1) + (1 * v 6 + (0)) := p9
  have p10 : 0 ≤ 1 + ((-1) * v 6 + (0)) := p10
  have p11 : 0 ≤ 0 + ((-1) * v 2 + (1 * v 7 + (0))) := p11
  have p12 : 0 ≤ 0 + (1 * v 2 + ((-1) * v 7 + (0))) := p12
  have p13 : 0 ≤ 0 + (1 * v 8 + (0)) := p13
  have p14 : 0 ≤ 0 + ((-1) * v 8 + (0)) := p14
  obtain ⟨nm, hm⟩ : ∃ n : Nat, v 0 = (n : Int) := ⟨(v 0).toNat, by omega⟩
  obtain ⟨ni, hi⟩ : ∃ n : Nat, v 1 = (n : Int) := ⟨(v 1).toNat, by omega⟩
  obtain ⟨nv, hv⟩ : ∃ n : Nat, v 2 = (n : Int) := ⟨(v 2).toNat, by omega⟩
  have rI : ∃ j : Nat, 24178516392292583494123520 + (1 * v 0 + (0)) = (j : Int) ∧ c_gv j (g j) = v 3 := rI
  have eI := t_g20 h nm (by omega) rI (by omega)
  have rC : ∃ j : Nat, 27805293851136471018242048 + (1 * v 0 + (0)) = (j : Int) ∧ c_gv j (g j) = v 4 := rC
  have eC := t_g23 h nm (by omega) rC (by omega)
  have rT : ∃ j : Nat, 41103477866897391942107136 + (1 * v 0 + (0)) = (j : Int) ∧ c_gv j (g j) = v 5 := rT
  have eT := t_g34 h nm 2 (by omega) (by omega) rT (by omega)
  have rS : ∃ j : Nat, 19342813113834066795298817 + (1 * v 1 + (0)) = (j : Int) ∧ c_gv j (g j) = v 6 := rS
  have eS := t_g16 h (ni+1) (by omega) rS (by omega)
  have rV : ∃ j : Nat, 12089258196146291747061761 + (1 * v 1 + (0)) = (j : Int) ∧ c_gv j (g j) = v 7 := rV
  have eV := t_g10 h (ni+1) (by omega) rV (by omega)
  have rW : ∃ j : Nat, 42312403686512021114716160 + (1 * v 0 + (1073741824 * v 2 + (0))) = (j : Int) ∧ c_gv j (g j) = v 8 := rW
  have eW := t_g35 h nm nv (by omega) (by omega) rW (by omega)
  obtain ⟨s, hs, rfl⟩ := t_ix_s (X := t_tx g) (m := nm) (i := ni) (by omega)
  rw [t_tk2 hs] at eT
  rw [t_cn_s hs] at eC
  rw [t_kw_s hs] at eW
  have ceW : t_kno s (nv : Int) = false := by
    cases h9 : t_kno s (nv : Int) with
    | false => rfl
    | true =>
      exfalso
      rw [h9] at eW
      have eW : v 8 = 1 := eW
      omega
  have deW : ¬(t_kno s (nv : Int) = true) := by rw [ceW]; exact Bool.false_ne_true
  rw [t_kno_iff] at deW
  have ceS : t_nam (t_tx g) (s.1 + 1) = true := by
    cases h9 : t_nam (t_tx g) (s.1 + 1) with
    | true => rfl
    | false =>
      exfalso
      rw [h9] at eS
      have eS : v 6 = 0 := eS
      omega
  have deS := t_nam_iff.mp ceS
  rw [if_pos (t_new_iff.mpr ⟨by omega, ceS, by rw [show t_v (t_tx g) (s.1 + 1) = (nv : Int) by omega]; exact ceW⟩)] at eT
  exact ⟨(by show 0 ≤ (-2) + ((-1) * v 1 + (1 * v 5 + (0))); omega), (by show 0 ≤ 2 + (1 * v 1 + ((-1) * v 5 + (0))); omega), trivial⟩
-- cgI
theorem t_q146 {g : Nat → Int} (h : t_G g) : t_ok g 2 ([(19342813113834066795298816, [(0, 1)]), (19342813113834066795298816, [(1, 1)])], [(0, [(0, 1)]), (700, [(0, (-1))]), (0, [(0, (-1)), (1, 1)]), (0, [(0, 1), (1, (-1))])], [(0, [(2, 1), (3, (-1))]), (0, [(2, (-1)), (3, 1)])]) := by
  refine t_okI fun v hr hp => ?_
  obtain ⟨rA, rB, -⟩ := hr
  obtain ⟨p0, p1, p2, p3, -⟩ := hp
  have p0 : 0 ≤ 0 + (1 * v 0 + (0)) := p0
  have p1 : 0 ≤ 700 + ((-1) * v 0 + (0)) := p1
  have p2 : 0 ≤ 0 + ((-1) * v 0 + (1 * v 1 + (0))) := p2
  have p3 : 0 ≤ 0 + (1 * v 0 + ((-1) * v 1 + (0))) := p3
  obtain ⟨ni, hi⟩ : ∃ n : Nat, v 0 = (n : Int) := ⟨(v 0).toNat, by omega⟩
  obtain ⟨nj, hj⟩ : ∃ n : Nat, v 1 = (n : Int) := ⟨(v 1).toNat, by omega⟩
  have rA : ∃ j : Nat, 19342813113834066795298816 + (1 * v 0 + (0)) = (j : Int) ∧ c_gv j (g j) = v 2 := rA
  have eA := t_g16 h ni (by omega) rA (by omega)
  have rB : ∃ j : Nat, 19342813113834066795298816 + (1 * v 1 + (0)) = (j : Int) ∧ c_gv j (g j) = v 3 := rB
  have eB := t_g16 h nj (by omega) rB (by omega)
  have c : nj = ni := by omega
  subst c
  exact ⟨(by show 0 ≤ 0 + (1 * v 2 + ((-1) * v 3 + (0))); omega), (by show 0 ≤ 0 + ((-1) * v 2 + (1 * v 3 + (0))); omega), trivial⟩
-- cgV
theorem t_q147 {g : Nat → Int} (h : t_G g) : t_ok g 2 ([(12089258196146291747061760, [(0, 1)]), (12089258196146291747061760, [(1, 1)])], [(0, [(0, 1)]), (700, [(0, (-1))]), (0, [(0, (-1)), (1, 1)]), (0, [(0, 1), (1, (-1))])], [(0, [(2, 1), (3, (-1))]), (0, [(2, (-1)), (3, 1)])]) := by
  refine t_okI fun v hr hp => ?_
  obtain ⟨rA, rB, -⟩ := hr
  obtain ⟨p0, p1, p2, p3, -⟩ := hp
  have p0 : 0 ≤ 0 + (1 * v 0 + (0)) := p0
  have p1 : 0 ≤ 700 + ((-1) * v 0 + (0)) := p1
  have p2 : 0 ≤ 0 + ((-1) * v 0 + (1 * v 1 + (0))) := p2
  have p3 : 0 ≤ 0 + (1 * v 0 + ((-1) * v 1 + (0))) := p3
  obtain ⟨ni, hi⟩ : ∃ n : Nat, v 0 = (n : Int) := ⟨(v 0).toNat, by omega⟩
  obtain ⟨nj, hj⟩ : ∃ n : Nat, v 1 = (n : Int) := ⟨(v 1).toNat, by omega⟩
  have rA : ∃ j : Nat, 12089258196146291747061760 + (1 * v 0 + (0)) = (j : Int) ∧ c_gv j (g j) = v 2 := rA
  have eA := t_g10 h ni (by omega) rA (by omega)
  have rB : ∃ j : Nat, 12089258196146291747061760 + (1 * v 1 + (0)) = (j : Int) ∧ c_gv j (g j) = v 3 := rB
  have eB := t_g10 h nj (by omega) rB (by omega)
  have c : nj = ni := by omega
  subst c
  exact ⟨(by show 0 ≤ 0 + (1 * v 2 + ((-1) * v 3 + (0))); omega), (by show 0 ≤ 0 + ((-1) * v 2 + (1 * v 3 + (0))); omega), trivial⟩
-- ptF0
theorem t_q148 {g : Nat → Int} (h : t_G g) : t_ok g 2 ([(24178516392292583494123520, [(0, 1)]), (13298184015760920921767936, [(1, 1)]), (41103477866897391940009984, [(0, 1)]), (43521329506126650289422336, [(0, 1)])], [(0, [(0, 1)]), (650, [(0, (-1))]), (0, [(1, 1)]), (650, [(1, (-1))]), (0, [(1, (-1)), (2, 1)]), (0, [(1, 1), (2, (-1))]), (0, [(3, 1)]), (0, [(3, (-1))]), (1, [(4, 1)]), ((-1), [(4, (-1))])], [(1, [(5, 1)]), ((-1), [(5, (-1))])]) := by
  refine t_okI fun v hr hp => ?_
  obtain ⟨rI, rY, rT, rP, -⟩ := hr
  obtain ⟨p0, p1, p2, p3, p4, p5, p6, p7, p8, p9, -⟩ := hp
  have p0 : 0 ≤ 0 + (1 * v 0 + (0)) := p0
  have p1 : 0 ≤ 650 + ((-1) * v 0 + (0)) := p1
  have p2 : 0 ≤ 0 + (1 * v 1 + (0)) := p2
  have p3 : 0 ≤ 650 + ((-1) * v 1 + (0)) := p3
  have p4 : 0 ≤ 0 + ((-1) * v 1 + (1 * v 2 + (0))) := p4
  have p5 : 0 ≤ 0 + (1 * v 1 + ((-1) * v 2 + (0))) := p5
  have p6 : 0 ≤ 0 + (1 * v 3 + (0)) := p6
  have p7 : 0 ≤ 0 + ((-1) * v 3 + (0)) := p7
  have p8 : 0 ≤ 1 + (1 * v 4 + (0)) := p8
  have p9 : 0 ≤ (-1) + ((-1) * v 4 + (0)) := p9
  obtain ⟨nm, hm⟩ : ∃ n : Nat, v 0 = (n : Int) := ⟨(v 0).toNat, by omega⟩
  obtain ⟨ni, hi⟩ : ∃ n : Nat, v 1 = (n : Int) := ⟨(v 1).toNat, by omega⟩
  have rI : ∃ j : Nat, 24178516392292583494123520 + (1 * v 0 + (0)) = (j : Int) ∧ c_gv j (g j) = v 2 := rI
  have eI := t_g20 h nm (by omega) rI (by omega)
  have rY : ∃ j : Nat, 13298184015760920921767936 + (1 * v 1 + (0)) = (j : Int) ∧ c_gv j (g j) = v 3 := rY
  have eY := t_g11 h ni (by omega) rY (by omega)
  have rT : ∃ j : Nat, 41103477866897391940009984 + (1 * v 0 + (0)) = (j : Int) ∧ c_gv j (g j) = v 4 := rT
  have eT := t_g34 h nm 0 (by omega) (by omega) rT (by omega)
  have rP : ∃ j : Nat, 43521329506126650289422336 + (1 * v 0 + (0)) = (j : Int) ∧ c_gv j (g j) = v 5 := rP
  have eP := t_g36 h nm (by omega) rP (by omega)
  obtain ⟨s, hs, rfl⟩ := t_ix_s (X := t_tx g) (m := nm) (i := ni) (by omega)
  rw [t_tk0 hs] at eT
  have cp := t_pt_t (X := t_tx g) (s := s) hs (by omega)
  have cn : ¬(t_new (t_tx g) s s.2.1 6 = true) := fun h9 => by
    rw [if_pos h9] at eT
    omega
  rw [if_neg (fun h9 => cn h9.1)] at cp
  exact ⟨(by show 0 ≤ 1 + (1 * v 5 + (0)); omega), (by show 0 ≤ (-1) + ((-1) * v 5 + (0)); omega), trivial⟩
-- ptN0
theorem t_q149 {g : Nat → Int} (h : t_G g) : t_ok g 3 ([(24178516392292583494123520, [(0, 1)]), (13298184015760920921767936, [(1, 1)]), (41103477866897391940009984, [(0, 1)]), (43521329506126650289422336, [(0, 1)]), (20551738933448695970065408, [(2, 1)])], [(0, [(0, 1)]), (650, [(0, (-1))]), (0, [(1, 1)]), (650, [(1, (-1))]), (0, [(1, (-1)), (3, 1)]), (0, [(1, 1), (3, (-1))]), (0, [(4, 1)]), (0, [(4, (-1))]), (0, [(2, (-1)), (5, 1)]), (0, [(2, 1), (5, (-1))]), (0, [(2, 1)]), (650, [(2, (-1))])], [(0, [(6, 1), (7, (-1))]), (0, [(6, (-1)), (7, 1)]), ((-2), [(1, (-1)), (2, 1)]), (2, [(1, 1), (2, (-1))])]) := by
  refine t_okI fun v hr hp => ?_
  obtain ⟨rI, rY, rT, rP, rD, -⟩ := hr
  obtain ⟨p0, p1, p2, p3, p4, p5, p6, p7, p8, p9, p10, p11, -⟩ := hp
  have p0 : 0 ≤ 0 + (1 * v 0 + (0)) := p0
  have p1 : 0 ≤ 650 + ((-1) * v 0 + (0)) := p1
  have p2 : 0 ≤ 0 + (1 * v 1 + (0)) := p2
  have p3 : 0 ≤ 650 + ((-1) * v 1 + (0)) := p3
  have p4 : 0 ≤ 0 + ((-1) * v 1 + (1 * v 3 + (0))) := p4
  have p5 : 0 ≤ 0 + (1 * v 1 + ((-1) * v 3 + (0))) := p5
  have p6 : 0 ≤ 0 + (1 * v 4 + (0)) := p6
  have p7 : 0 ≤ 0 + ((-1) * v 4 + (0)) := p7
  have p8 : 0 ≤ 0 + ((-1) * v 2 + (1 * v 5 + (0))) := p8
  have p9 : 0 ≤ 0 + (1 * v 2 + ((-1) * v 5 + (0))) := p9
  have p10 : 0 ≤ 0 + (1 * v 2 + (0)) := p10
  have p11 : 0 ≤ 650 + ((-1) * v 2 + (0)) := p11
  obtain ⟨nm, hm⟩ : ∃ n : Nat, v 0 = (n : Int) := ⟨(v 0).toNat, by omega⟩
  obtain ⟨ni, hi⟩ : ∃ n : Nat, v 1 = (n : Int) := ⟨(v 1).toNat, by omega⟩
  obtain ⟨ne, he⟩ : ∃ n : Nat, v 2 = (n : Int) := ⟨(v 2).toNat, by omega⟩
  have rI : ∃ j : Nat, 24178516392292583494123520 + (1 * v 0 + (0)) = (j : Int) ∧ c_gv j (g j) = v 3 := rI
  have eI := t_g20 h nm (by omega) rI (by omega)
  have rY : ∃ j : Nat, 13298184015760920921767936 + (1 * v 1 + (0)) = (j : Int) ∧ c_gv j (g j) = v 4 := rY
  have eY := t_g11 h ni (by omega) rY (by omega)
  have rT : ∃ j : Nat, 41103477866897391940009984 + (1 * v 0 + (0)) = (j : Int) ∧ c_gv j (g j) = v 5 := rT
  have eT := t_g34 h nm 0 (by omega) (by omega) rT (by omega)
  have rP : ∃ j : Nat, 43521329506126650289422336 + (1 * v 0 + (0)) = (j : Int) ∧ c_gv j (g j) = v 6 := rP
  have eP := t_g36 h nm (by omega) rP (by omega)
  have rD : ∃ j : Nat, 20551738933448695970065408 + (1 * v 2 + (0)) = (j : Int) ∧ c_gv j (g j) = v 7 := rD
  have eD := t_g17 h ne 59 (by omega) (by omega) rD (by omega)
  obtain ⟨s, hs, rfl⟩ := t_ix_s (X := t_tx g) (m := nm) (i := ni) (by omega)
  rw [t_tk0 hs] at eT
  have cp := t_pt_t (X := t_tx g) (s := s) hs (by omega)
  have cn : t_new (t_tx g) s s.2.1 6 = true := by
    by_cases h9 : t_new (t_tx g) s s.2.1 6 = true
    · exact h9
    · exfalso
      rw [if_neg h9] at eT
      omega
  rw [if_pos cn] at eT
  have ce : ne = s.1 + 2 := by omega
  subst ce
  rw [t_need_is] at eD
  have key : v 6 = v 7 := by
    by_cases h9 : t_k (t_tx g) (s.1 + 2) = 3 ∧ t_v (t_tx g) (s.1 + 2) = 59
    · rw [if_pos ⟨cn, t_sg_iff.mpr h9⟩] at cp
      have eD : v 7 = if t_k (t_tx g) (s.1 + 2) = 3 ∧ t_v (t_tx g) (s.1 + 2) = 59 then ((s.1 + 2 : Nat) : Int) + 1 else -1 := eD
      rw [if_pos h9] at eD
      omega
    · rw [if_neg (fun h8 => h9 (t_sg_iff.mp h8.2))] at cp
      have eD : v 7 = if t_k (t_tx g) (s.1 + 2) = 3 ∧ t_v (t_tx g) (s.1 + 2) = 59 then ((s.1 + 2 : Nat) : Int) + 1 else -1 := eD
      rw [if_neg h9] at eD
      omega
  exact ⟨(by show 0 ≤ 0 + (1 * v 6 + ((-1) * v 7 + (0))); omega), (by show 0 ≤ 0 + ((-1) * v 6 + (1 * v 7 + (0))); omega), (by show 0 ≤ (-2) + ((-1) * v 1 + (1 * v 2 + (0))); omega), (by show 0 ≤ 2 + (1 * v 1 + ((-1) * v 2 + (0))); omega), trivial⟩
-- ptF1
theorem t_q150 {g : Nat → Int} (h : t_G g) : t_ok g 2 ([(24178516392292583494123520, [(0, 1)]), (13298184015760920921767936, [(1, 1)]), (41103477866897391941058560, [(0, 1)]), (43521329506126650289422336, [(0, 1)])], [(0, [(0, 1)]), (650, [(0, (-1))]), (0, [(1, 1)]), (650, [(1, (-1))]), (0, [(1, (-1)), (2, 1)]), (0, [(1, 1), (2, (-1))]), ((-1), [(3, 1)]), (1, [(3, (-1))]), (1, [(4, 1)]), ((-1), [(4, (-1))])], [(1, [(5, 1)]), ((-1), [(5, (-1))])]) := by
  refine t_okI fun v hr hp => ?_
  obtain ⟨rI, rY, rT, rP, -⟩ := hr
  obtain ⟨p0, p1, p2, p3, p4, p5, p6, p7, p8, p9, -⟩ := hp
  have p0 : 0 ≤ 0 + (1 * v 0 + (0)) := p0
  have p1 : 0 ≤ 650 + ((-1) * v 0 + (0)) := p1
  have p2 : 0 ≤ 0 + (1 * v 1 + (0)) := p2
  have p3 : 0 ≤ 650 + ((-1) * v 1 + (0)) := p3
  have p4 : 0 ≤ 0 + ((-1) * v 1 + (1 * v 2 + (0))) := p4
  have p5 : 0 ≤ 0 + (1 * v 1 + ((-1) * v 2 + (0))) := p5
  have p6 : 0 ≤ (-1) + (1 * v 3 + (0)) := p6
  have p7 : 0 ≤ 1 + ((-1) * v 3 + (0)) := p7
  have p8 : 0 ≤ 1 + (1 * v 4 + (0)) := p8
  have p9 : 0 ≤ (-1) + ((-1) * v 4 + (0)) := p9
  obtain ⟨nm, hm⟩ : ∃ n : Nat, v 0 = (n : Int) := ⟨(v 0).toNat, by omega⟩
  obtain ⟨ni, hi⟩ : ∃ n : Nat, v 1 = (n : Int) := ⟨(v 1).toNat, by omega⟩
  have rI : ∃ j : Nat, 24178516392292583494123520 + (1 * v 0 + (0)) = (j : Int) ∧ c_gv j (g j) = v 2 := rI
  have eI := t_g20 h nm (by omega) rI (by omega)
  have rY : ∃ j : Nat, 13298184015760920921767936 + (1 * v 1 + (0)) = (j : Int) ∧ c_gv j (g j) = v 3 := rY
  have eY := t_g11 h ni (by omega) rY (by omega)
  have rT : ∃ j : Nat, 41103477866897391941058560 + (1 * v 0 + (0)) = (j : Int) ∧ c_gv j (g j) = v 4 := rT
  have eT := t_g34 h nm 1 (by omega) (by omega) rT (by omega)
  have rP : ∃ j : Nat, 43521329506126650289422336 + (1 * v 0 + (0)) = (j : Int) ∧ c_gv j (g j) = v 5 := rP
  have eP := t_g36 h nm (by omega) rP (by omega)
  obtain ⟨s, hs, rfl⟩ := t_ix_s (X := t_tx g) (m := nm) (i := ni) (by omega)
  rw [t_tk1 hs] at eT
  have cp := t_pt_k (X := t_tx g) (s := s) hs (by omega)
  have cn : ¬(t_new (t_tx g) s s.2.2.1 6 = true) := fun h9 => by
    rw [if_pos h9] at eT
    omega
  rw [if_neg (fun h9 => cn h9.1)] at cp
  exact ⟨(by show 0 ≤ 1 + (1 * v 5 + (0)); omega), (by show 0 ≤ (-1) + ((-1) * v 5 + (0)); omega), trivial⟩
-- ptN1
theorem t_q151 {g : Nat → Int} (h : t_G g) : t_ok g 3 ([(24178516392292583494123520, [(0, 1)]), (13298184015760920921767936, [(1, 1)]), (41103477866897391941058560, [(0, 1)]), (43521329506126650289422336, [(0, 1)]), (20551738933448695970065408, [(2, 1)])], [(0, [(0, 1)]), (650, [(0, (-1))]), (0, [(1, 1)]), (650, [(1, (-1))]), (0, [(1, (-1)), (3, 1)]), (0, [(1, 1), (3, (-1))]), ((-1), [(4, 1)]), (1, [(4, (-1))]), (0, [(2, (-1)), (5, 1)]), (0, [(2, 1), (5, (-1))]), (0, [(2, 1)]), (650, [(2, (-1))])], [(0, [(6, 1), (7, (-1))]), (0, [(6, (-1)), (7, 1)]), ((-2), [(1, (-1)), (2, 1)]), (2, [(1, 1), (2, (-1))])]) := by
  refine t_okI fun v hr hp => ?_
  obtain ⟨rI, rY, rT, rP, rD, -⟩ := hr
  obtain ⟨p0, p1, p2, p3, p4, p5, p6, p7, p8, p9, p10, p11, -⟩ := hp
  have p0 : 0 ≤ 0 + (1 * v 0 + (0)) := p0
  have p1 : 0 ≤ 650 + ((-1) * v 0 + (0)) := p1
  have p2 : 0 ≤ 0 + (1 * v 1 + (0)) := p2
  have p3 : 0 ≤ 650 + ((-1) * v 1 + (0)) := p3
  have p4 : 0 ≤ 0 + ((-1) * v 1 + (1 * v 3 + (0))) := p4
  have p5 : 0 ≤ 0 + (1 * v 1 + ((-1) * v 3 + (0))) := p5
  have p6 : 0 ≤ (-1) + (1 * v 4 + (0)) := p6
  have p7 : 0 ≤ 1 + ((-1) * v 4 + (0)) := p7
  have p8 : 0 ≤ 0 + ((-1) * v 2 + (1 * v 5 + (0))) := p8
  have p9 : 0 ≤ 0 + (1 * v 2 + ((-1) * v 5 + (0))) := p9
  have p10 : 0 ≤ 0 + (1 * v 2 + (0)) := p10
  have p11 : 0 ≤ 650 + ((-1) * v 2 + (0)) := p11
  obtain ⟨nm, hm⟩ : ∃ n : Nat, v 0 = (n : Int) := ⟨(v 0).toNat, by omega⟩
  obtain ⟨ni, hi⟩ : ∃ n : Nat, v 1 = (n : Int) := ⟨(v 1).toNat, by omega⟩
  obtain ⟨ne, he⟩ : ∃ n : Nat, v 2 = (n : Int) := ⟨(v 2).toNat, by omega⟩
  have rI : ∃ j : Nat, 24178516392292583494123520 + (1 * v 0 + (0)) = (j : Int) ∧ c_gv j (g j) = v 3 := rI
  have eI := t_g20 h nm (by omega) rI (by omega)
  have rY : ∃ j : Nat, 13298184015760920921767936 + (1 * v 1 + (0)) = (j : Int) ∧ c_gv j (g j) = v 4 := rY
  have eY := t_g11 h ni (by omega) rY (by omega)
  have rT : ∃ j : Nat, 41103477866897391941058560 + (1 * v 0 + (0)) = (j : Int) ∧ c_gv j (g j) = v 5 := rT
  have eT := t_g34 h nm 1 (by omega) (by omega) rT (by omega)
  have rP : ∃ j : Nat, 43521329506126650289422336 + (1 * v 0 + (0)) = (j : Int) ∧ c_gv j (g j) = v 6 := rP
  have eP := t_g36 h nm (by omega) rP (by omega)
  have rD : ∃ j : Nat, 20551738933448695970065408 + (1 * v 2 + (0)) = (j : Int) ∧ c_gv j (g j) = v 7 := rD
  have eD := t_g17 h ne 59 (by omega) (by omega) rD (by omega)
  obtain ⟨s, hs, rfl⟩ := t_ix_s (X := t_tx g) (m := nm) (i := ni) (by omega)
  rw [t_tk1 hs] at eT
  have cp := t_pt_k (X := t_tx g) (s := s) hs (by omega)
  have cn : t_new (t_tx g) s s.2.2.1 6 = true := by
    by_cases h9 : t_new (t_tx g) s s.2.2.1 6 = true
    · exact h9
    · exfalso
      rw [if_neg h9] at eT
      omega
  rw [if_pos cn] at eT
  have ce : ne = s.1 + 2 := by omega
  subst ce
  rw [t_need_is] at eD
  have key : v 6 = v 7 := by
    by_cases h9 : t_k (t_tx g) (s.1 + 2) = 3 ∧ t_v (t_tx g) (s.1 + 2) = 59
    · rw [if_pos ⟨cn, t_sg_iff.mpr h9⟩] at cp
      have eD : v 7 = if t_k (t_tx g) (s.1 + 2) = 3 ∧ t_v (t_tx g) (s.1 + 2) = 59 then ((s.1 + 2 : Nat) : Int) + 1 else -1 := eD
      rw [if_pos h9] at eD
      omega
    · rw [if_neg (fun h8 => h9 (t_sg_iff.mp h8.2))] at cp
      have eD : v 7 = if t_k (t_tx g) (s.1 + 2) = 3 ∧ t_v (t_tx g) (s.1 + 2) = 59 then ((s.1 + 2 : Nat) : Int) + 1 else -1 := eD
      rw [if_neg h9] at eD
      omega
  exact ⟨(by show 0 ≤ 0 + (1 * v 6 + ((-1) * v 7 + (0))); omega), (by show 0 ≤ 0 + ((-1) * v 6 + (1 * v 7 + (0))); omega), (by show 0 ≤ (-2) + ((-1) * v 1 + (1 * v 2 + (0))); omega), (by show 0 ≤ 2 + (1 * v 1 + ((-1) * v 2 + (0))); omega), trivial⟩
-- ptF2
theorem t_q152 {g : Nat → Int} (h : t_G g) : t_ok g 2 ([(24178516392292583494123520, [(0, 1)]), (13298184015760920921767936, [(1, 1)]), (41103477866897391942107136, [(0, 1)]), (43521329506126650289422336, [(0, 1)])], [(0, [(0, 1)]), (650, [(0, (-1))]), (0, [(1, 1)]), (650, [(1, (-1))]), (0, [(1, (-1)), (2, 1)]), (0, [(1, 1), (2, (-1))]), ((-3), [(3, 1)]), (3, [(3, (-1))]), (1, [(4, 1)]), ((-1), [(4, (-1))])], [(1, [(5, 1)]), ((-1), [(5, (-1))])]) := by
  refine t_okI fun v hr hp => ?_
  obtain ⟨rI, rY, rT, rP, -⟩ := hr
  obtain ⟨p0, p1, p2, p3, p4, p5, p6, p7, p8, p9, -⟩ := hp
  have p0 : 0 ≤ 0 + (1 * v 0 + (0)) := p0
  have p1 : 0 ≤ 650 + ((-1) * v 0 + (0)) := p1
  have p2 : 0 ≤ 0 + (1 * v 1 + (0)) := p2
  have p3 : 0 ≤ 650 + ((-1) * v 1 + (0)) := p3
  have p4 : 0 ≤ 0 + ((-1) * v 1 + (1 * v 2 + (0))) := p4
  have p5 : 0 ≤ 0 + (1 * v 1 + ((-1) * v 2 + (0))) := p5
  have p6 : 0 ≤ (-3) + (1 * v 3 + (0)) := p6
  have p7 : 0 ≤ 3 + ((-1) * v 3 + (0)) := p7
  have p8 : 0 ≤ 1 + (1 * v 4 + (0)) := p8
  have p9 : 0 ≤ (-1) + ((-1) * v 4 + (0)) := p9
  obtain ⟨nm, hm⟩ : ∃ n : Nat, v 0 = (n : Int) := ⟨(v 0).toNat, by omega⟩
  obtain ⟨ni, hi⟩ : ∃ n : Nat, v 1 = (n : Int) := ⟨(v 1).toNat, by omega⟩
  have rI : ∃ j : Nat, 24178516392292583494123520 + (1 * v 0 + (0)) = (j : Int) ∧ c_gv j (g j) = v 2 := rI
  have eI := t_g20 h nm (by omega) rI (by omega)
  have rY : ∃ j : Nat, 13298184015760920921767936 + (1 * v 1 + (0)) = (j : Int) ∧ c_gv j (g j) = v 3 := rY
  have eY := t_g11 h ni (by omega) rY (by omega)
  have rT : ∃ j : Nat, 41103477866897391942107136 + (1 * v 0 + (0)) = (j : Int) ∧ c_gv j (g j) = v 4 := rT
  have eT := t_g34 h nm 2 (by omega) (by omega) rT (by omega)
  have rP : ∃ j : Nat, 43521329506126650289422336 + (1 * v 0 + (0)) = (j : Int) ∧ c_gv j (g j) = v 5 := rP
  have eP := t_g36 h nm (by omega) rP (by omega)
  obtain ⟨s, hs, rfl⟩ := t_ix_s (X := t_tx g) (m := nm) (i := ni) (by omega)
  rw [t_tk2 hs] at eT
  have cp := t_pt_l (X := t_tx g) (s := s) hs (by omega)
  have cn : ¬(t_new (t_tx g) s s.2.2.2.1 4 = true) := fun h9 => by
    rw [if_pos h9] at eT
    omega
  rw [if_neg (fun h9 => cn h9.1)] at cp
  exact ⟨(by show 0 ≤ 1 + (1 * v 5 + (0)); omega), (by show 0 ≤ (-1) + ((-1) * v 5 + (0)); omega), trivial⟩
-- ptN2
theorem t_q153 {g : Nat → Int} (h : t_G g) : t_ok g 3 ([(24178516392292583494123520, [(0, 1)]), (13298184015760920921767936, [(1, 1)]), (41103477866897391942107136, [(0, 1)]), (43521329506126650289422336, [(0, 1)]), (47148106964970537813540864, [(2, 1)])], [(0, [(0, 1)]), (650, [(0, (-1))]), (0, [(1, 1)]), (650, [(1, (-1))]), (0, [(1, (-1)), (3, 1)]), (0, [(1, 1), (3, (-1))]), ((-3), [(4, 1)]), (3, [(4, (-1))]), (0, [(2, (-1)), (5, 1)]), (0, [(2, 1), (5, (-1))]), (0, [(2, 1)]), (650, [(2, (-1))])], [(0, [(6, 1), (7, (-1))]), (0, [(6, (-1)), (7, 1)]), ((-2), [(1, (-1)), (2, 1)]), (2, [(1, 1), (2, (-1))])]) := by
  refine t_okI fun v hr hp => ?_
  obtain ⟨rI, rY, rT, rP, rD, -⟩ := hr
  obtain ⟨p0, p1, p2, p3, p4, p5, p6, p7, p8, p9, p10, p11, -⟩ := hp
  have p0 : 0 ≤ 0 + (1 * v 0 + (0)) := p0
  have p1 : 0 ≤ 650 + ((-1) * v 0 + (0)) := p1
  have p2 : 0 ≤ 0 + (1 * v 1 + (0)) := p2
  have p3 : 0 ≤ 650 + ((-1) * v 1 + (0)) := p3
  have p4 : 0 ≤ 0 + ((-1) * v 1 + (1 * v 3 + (0))) := p4
  have p5 : 0 ≤ 0 + (1 * v 1 + ((-1) * v 3 + (0))) := p5
  have p6 : 0 ≤ (-3) + (1 * v 4 + (0)) := p6
  have p7 : 0 ≤ 3 + ((-1) * v 4 + (0)) := p7
  have p8 : 0 ≤ 0 + ((-1) * v 2 + (1 * v 5 + (0))) := p8
  have p9 : 0 ≤ 0 + (1 * v 2 + ((-1) * v 5 + (0))) := p9
  have p10 : 0 ≤ 0 + (1 * v 2 + (0)) := p10
  have p11 : 0 ≤ 650 + ((-1) * v 2 + (0)) := p11
  obtain ⟨nm, hm⟩ : ∃ n : Nat, v 0 = (n : Int) := ⟨(v 0).toNat, by omega⟩
  obtain ⟨ni, hi⟩ : ∃ n : Nat, v 1 = (n : Int) := ⟨(v 1).toNat, by omega⟩
  obtain ⟨ne, he⟩ : ∃ n : Nat, v 2 = (n : Int) := ⟨(v 2).toNat, by omega⟩
  have rI : ∃ j : Nat, 24178516392292583494123520 + (1 * v 0 + (0)) = (j : Int) ∧ c_gv j (g j) = v 3 := rI
  have eI := t_g20 h nm (by omega) rI (by omega)
  have rY : ∃ j : Nat, 13298184015760920921767936 + (1 * v 1 + (0)) = (j : Int) ∧ c_gv j (g j) = v 4 := rY
  have eY := t_g11 h ni (by omega) rY (by omega)
  have rT : ∃ j : Nat, 41103477866897391942107136 + (1 * v 0 + (0)) = (j : Int) ∧ c_gv j (g j) = v 5 := rT
  have eT := t_g34 h nm 2 (by omega) (by omega) rT (by omega)
  have rP : ∃ j : Nat, 43521329506126650289422336 + (1 * v 0 + (0)) = (j : Int) ∧ c_gv j (g j) = v 6 := rP
  have eP := t_g36 h nm (by omega) rP (by omega)
  have rD : ∃ j : Nat, 47148106964970537813540864 + (1 * v 2 + (0)) = (j : Int) ∧ c_gv j (g j) = v 7 := rD
  have eD := t_g39 h ne 0 (by omega) (by omega) rD (by omega)
  obtain ⟨s, hs, rfl⟩ := t_ix_s (X := t_tx g) (m := nm) (i := ni) (by omega)
  rw [t_tk2 hs] at eT
  have cp := t_pt_l (X := t_tx g) (s := s) hs (by omega)
  have cn : t_new (t_tx g) s s.2.2.2.1 4 = true := by
    by_cases h9 : t_new (t_tx g) s s.2.2.2.1 4 = true
    · exact h9
    · exfalso
      rw [if_neg h9] at eT
      omega
  rw [if_pos cn] at eT
  have ce : ne = s.1 + 2 := by omega
  subst ce
  have c3 := t_px_in (X := t_tx g) (t_G_ok h) (i := s.1 + 2) 4 0
  rw [if_neg (by omega)] at c3
  unfold t_af at eD
  rw [t_need_is] at eD
  have key : v 6 = v 7 := by
    rcases c3 with c3 | c3
    · rw [if_neg (fun h8 => by have := h8.2.1; omega)] at cp
      rw [if_pos (by omega)] at eD
      omega
    · rw [if_neg (by omega)] at eD
      by_cases h9 : t_k (t_tx g) (t_px (t_tx g) 4 (s.1 + 2) 0).toNat = 3 ∧ t_v (t_tx g) (t_px (t_tx g) 4 (s.1 + 2) 0).toNat = 59
      · rw [if_pos ⟨cn, by omega, t_sg_iff.mpr h9⟩] at cp
        rw [if_pos h9] at eD
        omega
      · rw [if_neg (fun h8 => h9 (t_sg_iff.mp h8.2.2))] at cp
        rw [if_neg h9] at eD
        omega
  exact ⟨(by show 0 ≤ 0 + (1 * v 6 + ((-1) * v 7 + (0))); omega), (by show 0 ≤ 0 + ((-1) * v 6 + (1 * v 7 + (0))); omega), (by show 0 ≤ (-2) + ((-1) * v 1 + (1 * v 2 + (0))); omega), (by show 0 ≤ 2 + (1 * v 1 + ((-1) * v 2 + (0))); omega), trivial⟩
-- ptE0
theorem t_q154 {g : Nat → Int} (h : t_G g) : t_ok g 2 ([(24178516392292583494123520, [(0, 1)]), (13298184015760920921767936, [(1, 1)]), (43521329506126650289422336, [(0, 1)])], [(0, [(0, 1)]), (650, [(0, (-1))]), (0, [(1, 1)]), (650, [(1, (-1))]), (0, [(1, (-1)), (2, 1)]), (0, [(1, 1), (2, (-1))]), ((-1), [(3, (-1))])], [(1, [(4, 1)]), ((-1), [(4, (-1))])]) := by
  refine t_okI fun v hr hp => ?_
  obtain ⟨rI, rY, rP, -⟩ := hr
  obtain ⟨p0, p1, p2, p3, p4, p5, p6, -⟩ := hp
  have p0 : 0 ≤ 0 + (1 * v 0 + (0)) := p0
  have p1 : 0 ≤ 650 + ((-1) * v 0 + (0)) := p1
  have p2 : 0 ≤ 0 + (1 * v 1 + (0)) := p2
  have p3 : 0 ≤ 650 + ((-1) * v 1 + (0)) := p3
  have p4 : 0 ≤ 0 + ((-1) * v 1 + (1 * v 2 + (0))) := p4
  have p5 : 0 ≤ 0 + (1 * v 1 + ((-1) * v 2 + (0))) := p5
  have p6 : 0 ≤ (-1) + ((-1) * v 3 + (0)) := p6
  obtain ⟨nm, hm⟩ : ∃ n : Nat, v 0 = (n : Int) := ⟨(v 0).toNat, by omega⟩
  obtain ⟨ni, hi⟩ : ∃ n : Nat, v 1 = (n : Int) := ⟨(v 1).toNat, by omega⟩
  have rI : ∃ j : Nat, 24178516392292583494123520 + (1 * v 0 + (0)) = (j : Int) ∧ c_gv j (g j) = v 2 := rI
  have eI := t_g20 h nm (by omega) rI (by omega)
  have rY : ∃ j : Nat, 13298184015760920921767936 + (1 * v 1 + (0)) = (j : Int) ∧ c_gv j (g j) = v 3 := rY
  have eY := t_g11 h ni (by omega) rY (by omega)
  have rP : ∃ j : Nat, 43521329506126650289422336 + (1 * v 0 + (0)) = (j : Int) ∧ c_gv j (g j) = v 4 := rP
  have eP := t_g36 h nm (by omega) rP (by omega)
  obtain ⟨s, hs, rfl⟩ := t_ix_s (X := t_tx g) (m := nm) (i := ni) (by omega)
  have cp := t_pt_e (X := t_tx g) hs (by omega)
  exact ⟨(by show 0 ≤ 1 + (1 * v 4 + (0)); omega), (by show 0 ≤ (-1) + ((-1) * v 4 + (0)); omega), trivial⟩
-- ptE1
theorem t_q155 {g : Nat → Int} (h : t_G g) : t_ok g 2 ([(24178516392292583494123520, [(0, 1)]), (13298184015760920921767936, [(1, 1)]), (43521329506126650289422336, [(0, 1)])], [(0, [(0, 1)]), (650, [(0, (-1))]), (0, [(1, 1)]), (650, [(1, (-1))]), (0, [(1, (-1)), (2, 1)]), (0, [(1, 1), (2, (-1))]), ((-4), [(3, 1)])], [(1, [(4, 1)]), ((-1), [(4, (-1))])]) := by
  refine t_okI fun v hr hp => ?_
  obtain ⟨rI, rY, rP, -⟩ := hr
  obtain ⟨p0, p1, p2, p3, p4, p5, p6, -⟩ := hp
  have p0 : 0 ≤ 0 + (1 * v 0 + (0)) := p0
  have p1 : 0 ≤ 650 + ((-1) * v 0 + (0)) := p1
  have p2 : 0 ≤ 0 + (1 * v 1 + (0)) := p2
  have p3 : 0 ≤ 650 + ((-1) * v 1 + (0)) := p3
  have p4 : 0 ≤ 0 + ((-1) * v 1 + (1 * v 2 + (0))) := p4
  have p5 : 0 ≤ 0 + (1 * v 1 + ((-1) * v 2 + (0))) := p5
  have p6 : 0 ≤ (-4) + (1 * v 3 + (0)) := p6
  obtain ⟨nm, hm⟩ : ∃ n : Nat, v 0 = (n : Int) := ⟨(v 0).toNat, by omega⟩
  obtain ⟨ni, hi⟩ : ∃ n : Nat, v 1 = (n : Int) := ⟨(v 1).toNat, by omega⟩
  have rI : ∃ j : Nat, 24178516392292583494123520 + (1 * v 0 + (0)) = (j : Int) ∧ c_gv j (g j) = v 2 := rI
  have eI := t_g20 h nm (by omega) rI (by omega)
  have rY : ∃ j : Nat, 13298184015760920921767936 + (1 * v 1 + (0)) = (j : Int) ∧ c_gv j (g j) = v 3 := rY
  have eY := t_g11 h ni (by omega) rY (by omega)
  have rP : ∃ j : Nat, 43521329506126650289422336 + (1 * v 0 + (0)) = (j : Int) ∧ c_gv j (g j) = v 4 := rP
  have eP := t_g36 h nm (by omega) rP (by omega)
  obtain ⟨s, hs, rfl⟩ := t_ix_s (X := t_tx g) (m := nm) (i := ni) (by omega)
  have cp := t_pt_e (X := t_tx g) hs (by omega)
  exact ⟨(by show 0 ≤ 1 + (1 * v 4 + (0)); omega), (by show 0 ≤ (-1) + ((-1) * v 4 + (0)); omega), trivial⟩
-- pb1
theorem t_q156 {g : Nat → Int} (h : t_G g) : t_ok g 2 ([(24178516392292583494123520, [(0, 1)]), (13298184015760920921767936, [(1, 1)]), (43521329506126650289422336, [(0, 1)]), (29014219670751100192948224, [(0, 1)])], [(0, [(0, 1)]), (650, [(0, (-1))]), (0, [(1, 1)]), (650, [(1, (-1))]), (0, [(1, (-1)), (2, 1)]), (0, [(1, 1), (2, (-1))]), ((-2), [(3, 1)]), (2, [(3, (-1))]), ((-3), [(5, 1)])], [(1, [(4, 1)]), ((-1), [(4, (-1))])]) := by
  refine t_okI fun v hr hp => ?_
  obtain ⟨rI, rY, rP, rB, -⟩ := hr
  obtain ⟨p0, p1, p2, p3, p4, p5, p6, p7, p8, -⟩ := hp
  have p0 : 0 ≤ 0 + (1 * v 0 + (0)) := p0
  have p1 : 0 ≤ 650 + ((-1) * v 0 + (0)) := p1
  have p2 : 0 ≤ 0 + (1 * v 1 + (0)) := p2
  have p3 : 0 ≤ 650 + ((-1) * v 1 + (0)) := p3
  have p4 : 0 ≤ 0 + ((-1) * v 1 + (1 * v 2 + (0))) := p4
  have p5 : 0 ≤ 0 + (1 * v 1 + ((-1) * v 2 + (0))) := p5
  have p6 : 0 ≤ (-2) + (1 * v 3 + (0)) := p6
  have p7 : 0 ≤ 2 + ((-1) * v 3 + (0)) := p7
  have p8 : 0 ≤ (-3) + (1 * v 5 + (0)) := p8
  obtain ⟨nm, hm⟩ : ∃ n : Nat, v 0 = (n : Int) := ⟨(v 0).toNat, by omega⟩
  obtain ⟨ni, hi⟩ : ∃ n : Nat, v 1 = (n : Int) := ⟨(v 1).toNat, by omega⟩
  have rI : ∃ j : Nat, 24178516392292583494123520 + (1 * v 0 + (0)) = (j : Int) ∧ c_gv j (g j) = v 2 := rI
  have eI := t_g20 h nm (by omega) rI (by omega)
  have rY : ∃ j : Nat, 13298184015760920921767936 + (1 * v 1 + (0)) = (j : Int) ∧ c_gv j (g j) = v 3 := rY
  have eY := t_g11 h ni (by omega) rY (by omega)
  have rP : ∃ j : Nat, 43521329506126650289422336 + (1 * v 0 + (0)) = (j : Int) ∧ c_gv j (g j) = v 4 := rP
  have eP := t_g36 h nm (by omega) rP (by omega)
  have rB : ∃ j : Nat, 29014219670751100192948224 + (1 * v 0 + (0)) = (j : Int) ∧ c_gv j (g j) = v 5 := rB
  have eB := t_g24 h nm (by omega) rB (by omega)
  obtain ⟨s, hs, rfl⟩ := t_ix_s (X := t_tx g) (m := nm) (i := ni) (by omega)
  have cp := t_pt_b (X := t_tx g) (s := s) hs (by omega)
  rw [t_cn_s hs] at eB
  rw [if_neg (fun h9 => by have h8 := h9.1; omega)] at cp
  exact ⟨(by show 0 ≤ 1 + (1 * v 4 + (0)); omega), (by show 0 ≤ (-1) + ((-1) * v 4 + (0)); omega), trivial⟩
-- pb2
theorem t_q157 {g : Nat → Int} (h : t_G g) : t_ok g 2 ([(24178516392292583494123520, [(0, 1)]), (13298184015760920921767936, [(1, 1)]), (43521329506126650289422336, [(0, 1)]), (19342813113834066795298817, [(1, 1)])], [(0, [(0, 1)]), (650, [(0, (-1))]), (0, [(1, 1)]), (650, [(1, (-1))]), (0, [(1, (-1)), (2, 1)]), (0, [(1, 1), (2, (-1))]), ((-2), [(3, 1)]), (2, [(3, (-1))]), (0, [(5, 1)]), (0, [(5, (-1))])], [(1, [(4, 1)]), ((-1), [(4, (-1))])]) := by
  refine t_okI fun v hr hp => ?_
  obtain ⟨rI, rY, rP, rS, -⟩ := hr
  obtain ⟨p0, p1, p2, p3, p4, p5, p6, p7, p8, p9, -⟩ := hp
  have p0 : 0 ≤ 0 + (1 * v 0 + (0)) := p0
  have p1 : 0 ≤ 650 + ((-1) * v 0 + (0)) := p1
  have p2 : 0 ≤ 0 + (1 * v 1 + (0)) := p2
  have p3 : 0 ≤ 650 + ((-1) * v 1 + (0)) := p3
  have p4 : 0 ≤ 0 + ((-1) * v 1 + (1 * v 2 + (0))) := p4
  have p5 : 0 ≤ 0 + (1 * v 1 + ((-1) * v 2 + (0))) := p5
  have p6 : 0 ≤ (-2) + (1 * v 3 + (0)) := p6
  have p7 : 0 ≤ 2 + ((-1) * v 3 + (0)) := p7
  have p8 : 0 ≤ 0 + (1 * v 5 + (0)) := p8
  have p9 : 0 ≤ 0 + ((-1) * v 5 + (0)) := p9
  obtain ⟨nm, hm⟩ : ∃ n : Nat, v 0 = (n : Int) := ⟨(v 0).toNat, by omega⟩
  obtain ⟨ni, hi⟩ : ∃ n : Nat, v 1 = (n : Int) := ⟨(v 1).toNat, by omega⟩
  have rI : ∃ j : Nat, 24178516392292583494123520 + (1 * v 0 + (0)) = (j : Int) ∧ c_gv j (g j) = v 2 := rI
  have eI := t_g20 h nm (by omega) rI (by omega)
  have rY : ∃ j : Nat, 13298184015760920921767936 + (1 * v 1 + (0)) = (j : Int) ∧ c_gv j (g j) = v 3 := rY
  have eY := t_g11 h ni (by omega) rY (by omega)
  have rP : ∃ j : Nat, 43521329506126650289422336 + (1 * v 0 + (0)) = (j : Int) ∧ c_gv j (g j) = v 4 := rP
  have eP := t_g36 h nm (by omega) rP (by omega)
  have rS : ∃ j : Nat, 19342813113834066795298817 + (1 * v 1 + (0)) = (j : Int) ∧ c_gv j (g j) = v 5 := rS
  have eS := t_g16 h (ni+1) (by omega) rS (by omega)
  obtain ⟨s, hs, rfl⟩ := t_ix_s (X := t_tx g) (m := nm) (i := ni) (by omega)
  have cp := t_pt_b (X := t_tx g) (s := s) hs (by omega)
  have ceS : t_nam (t_tx g) (s.1 + 1) = false := by
    cases h9 : t_nam (t_tx g) (s.1 + 1) with
    | false => rfl
    | true =>
      exfalso
      rw [h9] at eS
      have eS : v 5 = 1 := eS
      omega
  have deS : ¬(t_nam (t_tx g) (s.1 + 1) = true) := by rw [ceS]; exact Bool.false_ne_true
  rw [t_nam_iff] at deS
  rw [if_neg (fun h9 => by have h8 := h9.2.1; rw [ceS] at h8; cases h8)] at cp
  exact ⟨(by show 0 ≤ 1 + (1 * v 4 + (0)); omega), (by show 0 ≤ (-1) + ((-1) * v 4 + (0)); omega), trivial⟩
-- pb3
theorem t_q158 {g : Nat → Int} (h : t_G g) : t_ok g 4 ([(24178516392292583494123520, [(0, 1)]), (13298184015760920921767936, [(1, 1)]), (43521329506126650289422336, [(0, 1)]), (12089258196146291747061761, [(1, 1)]), (25387442211907212668829696, [(0, 1)]), (35058848768824246066479104, [(2, 1073741824), (3, 1024)])], [(0, [(0, 1)]), (650, [(0, (-1))]), (0, [(1, 1)]), (650, [(1, (-1))]), (0, [(1, (-1)), (4, 1)]), (0, [(1, 1), (4, (-1))]), ((-2), [(5, 1)]), (2, [(5, (-1))]), (0, [(2, 1)]), (1099511627775, [(2, (-1))]), (0, [(3, 1)]), (6, [(3, (-1))]), (0, [(2, (-1)), (7, 1)]), (0, [(2, 1), (7, (-1))]), (0, [(3, (-1)), (8, 1)]), (0, [(3, 1), (8, (-1))]), ((-1), [(9, (-1))])], [(1, [(6, 1)]), ((-1), [(6, (-1))])]) := by
  refine t_okI fun v hr hp => ?_
  obtain ⟨rI, rY, rP, rV, rT, rF, -⟩ := hr
  obtain ⟨p0, p1, p2, p3, p4, p5, p6, p7, p8, p9, p10, p11, p12, p13, p14, p15, p16, -⟩ := hp
  have p0 : 0 ≤ 0 + (1 * v 0 + (0)) := p0
  have p1 : 0 ≤ 650 + ((-1) * v 0 + (0)) := p1
  have p2 : 0 ≤ 0 + (1 * v 1 + (0)) := p2
  have p3 : 0 ≤ 650 + ((-1) * v 1 + (0)) := p3
  have p4 : 0 ≤ 0 + ((-1) * v 1 + (1 * v 4 + (0))) := p4
  have p5 : 0 ≤ 0 + (1 * v 1 + ((-1) * v 4 + (0))) := p5
  have p6 : 0 ≤ (-2) + (1 * v 5 + (0)) := p6
  have p7 : 0 ≤ 2 + ((-1) * v 5 + (0)) := p7
  have p8 : 0 ≤ 0 + (1 * v 2 + (0)) := p8
  have p9 : 0 ≤ 1099511627775 + ((-1) * v 2 + (0)) := p9
  have p10 : 0 ≤ 0 + (1 * v 3 + (0)) := p10
  have p11 : 0 ≤ 6 + ((-1) * v 3 + (0)) := p11
  have p12 : 0 ≤ 0 + ((-1) * v 2 + (1 * v 7 + (0))) := p12
  have p13 : 0 ≤ 0 + (1 * v 2 + ((-1) * v 7 + (0))) := p13
  have p14 : 0 ≤ 0 + ((-1) * v 3 + (1 * v 8 + (0))) := p14
  have p15 : 0 ≤ 0 + (1 * v 3 + ((-1) * v 8 + (0))) := p15
  have p16 : 0 ≤ (-1) + ((-1) * v 9 + (0)) := p16
  obtain ⟨nm, hm⟩ : ∃ n : Nat, v 0 = (n : Int) := ⟨(v 0).toNat, by omega⟩
  obtain ⟨ni, hi⟩ : ∃ n : Nat, v 1 = (n : Int) := ⟨(v 1).toNat, by omega⟩
  obtain ⟨nv, hv⟩ : ∃ n : Nat, v 2 = (n : Int) := ⟨(v 2).toNat, by omega⟩
  obtain ⟨nt, ht⟩ : ∃ n : Nat, v 3 = (n : Int) := ⟨(v 3).toNat, by omega⟩
  have rI : ∃ j : Nat, 24178516392292583494123520 + (1 * v 0 + (0)) = (j : Int) ∧ c_gv j (g j) = v 4 := rI
  have eI := t_g20 h nm (by omega) rI (by omega)
  have rY : ∃ j : Nat, 13298184015760920921767936 + (1 * v 1 + (0)) = (j : Int) ∧ c_gv j (g j) = v 5 := rY
  have eY := t_g11 h ni (by omega) rY (by omega)
  have rP : ∃ j : Nat, 43521329506126650289422336 + (1 * v 0 + (0)) = (j : Int) ∧ c_gv j (g j) = v 6 := rP
  have eP := t_g36 h nm (by omega) rP (by omega)
  have rV : ∃ j : Nat, 12089258196146291747061761 + (1 * v 1 + (0)) = (j : Int) ∧ c_gv j (g j) = v 7 := rV
  have eV := t_g10 h (ni+1) (by omega) rV (by omega)
  have rT : ∃ j : Nat, 25387442211907212668829696 + (1 * v 0 + (0)) = (j : Int) ∧ c_gv j (g j) = v 8 := rT
  have eT := t_g21 h nm (by omega) rT (by omega)
  have rF : ∃ j : Nat, 35058848768824246066479104 + (1073741824 * v 2 + (1024 * v 3 + (0))) = (j : Int) ∧ c_gv j (g j) = v 9 := rF
  have eF := t_g29 h 0 nt nv (by omega) (by omega) (by omega) rF (by omega)
  obtain ⟨s, hs, rfl⟩ := t_ix_s (X := t_tx g) (m := nm) (i := ni) (by omega)
  have cp := t_pt_b (X := t_tx g) (s := s) hs (by omega)
  rw [t_cn_s hs] at eT
  have cx : nt = s.2.1.length := by omega
  subst cx
  rw [t_fd_pre (t_la_pre (t_G_ok h) hs (by omega)).1] at eF
  rw [if_neg (fun h9 => by have h8 := h9.2.2.1; rw [show t_v (t_tx g) (s.1 + 1) = (nv : Int) by omega] at h8; omega)] at cp
  exact ⟨(by show 0 ≤ 1 + (1 * v 6 + (0)); omega), (by show 0 ≤ (-1) + ((-1) * v 6 + (0)); omega), trivial⟩
-- pb4
theorem t_q159 {g : Nat → Int} (h : t_G g) : t_ok g 6 ([(24178516392292583494123520, [(0, 1)]), (13298184015760920921767936, [(1, 1)]), (43521329506126650289422336, [(0, 1)]), (12089258196146291747061761, [(1, 1)]), (25387442211907212668829696, [(0, 1)]), (35058848768824246066479104, [(2, 1073741824), (3, 1024)]), (29014219670751100192948224, [(0, 1)]), (38685626227668133590597632, [(4, 1073741824), (5, 1024)])], [(0, [(0, 1)]), (650, [(0, (-1))]), (0, [(1, 1)]), (650, [(1, (-1))]), (0, [(1, (-1)), (6, 1)]), (0, [(1, 1), (6, (-1))]), ((-2), [(7, 1)]), (2, [(7, (-1))]), (0, [(2, 1)]), (1099511627775, [(2, (-1))]), (0, [(3, 1)]), (6, [(3, (-1))]), (0, [(4, 1)]), (5, [(4, (-1))]), (0, [(5, 1)]), (3, [(5, (-1))]), (0, [(2, (-1)), (9, 1)]), (0, [(2, 1), (9, (-1))]), (0, [(3, (-1)), (10, 1)]), (0, [(3, 1), (10, (-1))]), (0, [(4, (-1)), (11, 1)]), (0, [(4, 1), (11, (-1))]), (0, [(5, (-1)), (12, 1)]), (0, [(5, 1), (12, (-1))]), (0, [(13, 1)])], [(1, [(8, 1)]), ((-1), [(8, (-1))])]) := by
  refine t_okI fun v hr hp => ?_
  obtain ⟨rI, rY, rP, rV, rT, rF, rB, rG, -⟩ := hr
  obtain ⟨p0, p1, p2, p3, p4, p5, p6, p7, p8, p9, p10, p11, p12, p13, p14, p15, p16, p17, p18, p19, p20, p21, p22, p23, p24, -⟩ := hp
  have p0 : 0 ≤ 0 + (1 * v 0 + (0)) := p0
  have p1 : 0 ≤ 650 + ((-1) * v 0 + (0)) := p1
  have p2 : 0 ≤ 0 + (1 * v 1 + (0)) := p2
  have p3 : 0 ≤ 650 + ((-1) * v 1 + (0)) := p3
  have p4 : 0 ≤ 0 + ((-1) * v 1 + (1 * v 6 + (0))) := p4
  have p5 : 0 ≤ 0 + (1 * v 1 + ((-1) * v 6 + (0))) := p5
  have p6 : 0 ≤ (-2) + (1 * v 7 + (0)) := p6
  have p7 : 0 ≤ 2 + ((-1) * v 7 + (0)) := p7
  have p8 : 0 ≤ 0 + (1 * v 2 + (0)) := p8
  have p9 : 0 ≤ 1099511627775 + ((-1) * v 2 + (0)) := p9
  have p10 : 0 ≤ 0 + (1 * v 3 + (0)) := p10
  have p11 : 0 ≤ 6 + ((-1) * v 3 + (0)) := p11
  have p12 : 0 ≤ 0 + (1 * v 4 + (0)) := p12
  have p13 : 0 ≤ 5 + ((-1) * v 4 + (0)) := p13
  have p14 : 0 ≤ 0 + (1 * v 5 + (0)) := p14
  have p15 : 0 ≤ 3 + ((-1) * v 5 + (0)) := p15
  have p16 : 0 ≤ 0 + ((-1) * v 2 + (1 * v 9 + (0))) := p16
  have p17 : 0 ≤ 0 + (1 * v 2 + ((-1) * v 9 + (0))) := p17
  have p18 : 0 ≤ 0 + ((-1) * v 3 + (1 * v 10 + (0))) := p18
  have p19 : 0 ≤ 0 + (1 * v 3 + ((-1) * v 10 + (0))) := p19
  have p20 : 0 ≤ 0 + ((-1) * v 4 + (1 * v 11 + (0))) := p20
  have p21 : 0 ≤ 0 + (1 * v 4 + ((-1) * v 11 + (0))) := p21
  have p22 : 0 ≤ 0 + ((-1) * v 5 + (1 * v 12 + (0))) := p22
  have p23 : 0 ≤ 0 + (1 * v 5 + ((-1) * v 12 + (0))) := p23
  have p24 : 0 ≤ 0 + (1 * v 13 + (0)) := p24
  obtain ⟨nm, hm⟩ : ∃ n : Nat, v 0 = (n : Int) := ⟨(v 0).toNat, by omega⟩
  obtain ⟨ni, hi⟩ : ∃ n : Nat, v 1 = (n : Int) := ⟨(v 1).toNat, by omega⟩
  obtain ⟨nv, hv⟩ : ∃ n : Nat, v 2 = (n : Int) := ⟨(v 2).toNat, by omega⟩
  obtain ⟨nt, ht⟩ : ∃ n : Nat, v 3 = (n : Int) := ⟨(v 3).toNat, by omega⟩
  obtain ⟨nx, hx⟩ : ∃ n : Nat, v 4 = (n : Int) := ⟨(v 4).toNat, by omega⟩
  obtain ⟨nb, hb⟩ : ∃ n : Nat, v 5 = (n : Int) := ⟨(v 5).toNat, by omega⟩
  have rI : ∃ j : Nat, 24178516392292583494123520 + (1 * v 0 + (0)) = (j : Int) ∧ c_gv j (g j) = v 6 := rI
  have eI := t_g20 h nm (by omega) rI (by omega)
  have rY : ∃ j : Nat, 13298184015760920921767936 + (1 * v 1 + (0)) = (j : Int) ∧ c_gv j (g j) = v 7 := rY
  have eY := t_g11 h ni (by omega) rY (by omega)
  have rP : ∃ j : Nat, 43521329506126650289422336 + (1 * v 0 + (0)) = (j : Int) ∧ c_gv j (g j) = v 8 := rP
  have eP := t_g36 h nm (by omega) rP (by omega)
  have rV : ∃ j : Nat, 12089258196146291747061761 + (1 * v 1 + (0)) = (j : Int) ∧ c_gv j (g j) = v 9 := rV
  have eV := t_g10 h (ni+1) (by omega) rV (by omega)
  have rT : ∃ j : Nat, 25387442211907212668829696 + (1 * v 0 + (0)) = (j : Int) ∧ c_gv j (g j) = v 10 := rT
  have eT := t_g21 h nm (by omega) rT (by omega)
  have rF : ∃ j : Nat, 35058848768824246066479104 + (1073741824 * v 2 + (1024 * v 3 + (0))) = (j : Int) ∧ c_gv j (g j) = v 11 := rF
  have eF := t_g29 h 0 nt nv (by omega) (by omega) (by omega) rF (by omega)
  have rB : ∃ j : Nat, 29014219670751100192948224 + (1 * v 0 + (0)) = (j : Int) ∧ c_gv j (g j) = v 12 := rB
  have eB := t_g24 h nm (by omega) rB (by omega)
  have rG : ∃ j : Nat, 38685626227668133590597632 + (1073741824 * v 4 + (1024 * v 5 + (0))) = (j : Int) ∧ c_gv j (g j) = v 13 := rG
  have eG := t_g32 h 0 nb nx (by omega) (by omega) (by omega) rG (by omega)
  obtain ⟨s, hs, rfl⟩ := t_ix_s (X := t_tx g) (m := nm) (i := ni) (by omega)
  have cp := t_pt_b (X := t_tx g) (s := s) hs (by omega)
  rw [t_cn_s hs] at eT
  have cx : nt = s.2.1.length := by omega
  subst cx
  rw [t_fd_pre (t_la_pre (t_G_ok h) hs (by omega)).1] at eF
  rw [t_cn_s hs] at eB
  have cb : nb = s.2.2.2.2.length := by omega
  subst cb
  rw [t_fd_pre (t_la_pre (t_G_ok h) hs (by omega)).2.2.2] at eG
  rw [if_neg (fun h9 => by have h8 := h9.2.2.2.1; rw [show t_v (t_tx g) (s.1 + 1) = (nv : Int) by omega, show t_at0 s.2.1 (nv : Int) 0 = (nx : Int) by omega] at h8; omega)] at cp
  exact ⟨(by show 0 ≤ 1 + (1 * v 8 + (0)); omega), (by show 0 ≤ (-1) + ((-1) * v 8 + (0)); omega), trivial⟩
-- pb5
theorem t_q160 {g : Nat → Int} (h : t_G g) : t_ok g 2 ([(24178516392292583494123520, [(0, 1)]), (13298184015760920921767936, [(1, 1)]), (43521329506126650289422336, [(0, 1)]), (21760664753063325144711170, [(1, 1)])], [(0, [(0, 1)]), (650, [(0, (-1))]), (0, [(1, 1)]), (650, [(1, (-1))]), (0, [(1, (-1)), (2, 1)]), (0, [(1, 1), (2, (-1))]), ((-2), [(3, 1)]), (2, [(3, (-1))]), (1, [(5, 1)]), ((-1), [(5, (-1))])], [(1, [(4, 1)]), ((-1), [(4, (-1))])]) := by
  refine t_okI fun v hr hp => ?_
  obtain ⟨rI, rY, rP, rN, -⟩ := hr
  obtain ⟨p0, p1, p2, p3, p4, p5, p6, p7, p8, p9, -⟩ := hp
  have p0 : 0 ≤ 0 + (1 * v 0 + (0)) := p0
  have p1 : 0 ≤ 650 + ((-1) * v 0 + (0)) := p1
  have p2 : 0 ≤ 0 + (1 * v 1 + (0)) := p2
  have p3 : 0 ≤ 650 + ((-1) * v 1 + (0)) := p3
  have p4 : 0 ≤ 0 + ((-1) * v 1 + (1 * v 2 + (0))) := p4
  have p5 : 0 ≤ 0 + (1 * v 1 + ((-1) * v 2 + (0))) := p5
  have p6 : 0 ≤ (-2) + (1 * v 3 + (0)) := p6
  have p7 : 0 ≤ 2 + ((-1) * v 3 + (0)) := p7
  have p8 : 0 ≤ 1 + (1 * v 5 + (0)) := p8
  have p9 : 0 ≤ (-1) + ((-1) * v 5 + (0)) := p9
  obtain ⟨nm, hm⟩ : ∃ n : Nat, v 0 = (n : Int) := ⟨(v 0).toNat, by omega⟩
  obtain ⟨ni, hi⟩ : ∃ n : Nat, v 1 = (n : Int) := ⟨(v 1).toNat, by omega⟩
  have rI : ∃ j : Nat, 24178516392292583494123520 + (1 * v 0 + (0)) = (j : Int) ∧ c_gv j (g j) = v 2 := rI
  have eI := t_g20 h nm (by omega) rI (by omega)
  have rY : ∃ j : Nat, 13298184015760920921767936 + (1 * v 1 + (0)) = (j : Int) ∧ c_gv j (g j) = v 3 := rY
  have eY := t_g11 h ni (by omega) rY (by omega)
  have rP : ∃ j : Nat, 43521329506126650289422336 + (1 * v 0 + (0)) = (j : Int) ∧ c_gv j (g j) = v 4 := rP
  have eP := t_g36 h nm (by omega) rP (by omega)
  have rN : ∃ j : Nat, 21760664753063325144711170 + (1 * v 1 + (0)) = (j : Int) ∧ c_gv j (g j) = v 5 := rN
  have eN := t_g18 h (ni+2) (by omega) rN (by omega)
  obtain ⟨s, hs, rfl⟩ := t_ix_s (X := t_tx g) (m := nm) (i := ni) (by omega)
  have cp := t_pt_b (X := t_tx g) (s := s) hs (by omega)
  unfold t_nb at eN
  rw [if_neg (fun h9 => by have h7 := h9.2.2.2.2.1; have h8 := h9.2.2.2.2.2.1; rw [if_pos ⟨h7, h8⟩] at eN; omega)] at cp
  exact ⟨(by show 0 ≤ 1 + (1 * v 4 + (0)); omega), (by show 0 ≤ (-1) + ((-1) * v 4 + (0)); omega), trivial⟩
-- pb6
theorem t_q161 {g : Nat → Int} (h : t_G g) : t_ok g 6 ([(24178516392292583494123520, [(0, 1)]), (13298184015760920921767936, [(1, 1)]), (43521329506126650289422336, [(0, 1)]), (12089258196146291747061761, [(1, 1)]), (25387442211907212668829696, [(0, 1)]), (35058848768824246066479104, [(2, 1073741824), (3, 1024)]), (29014219670751100192948224, [(0, 1)]), (38685626227668133590597632, [(4, 1073741824), (5, 1024)]), (19342813113834066795298817, [(1, 1)]), (21760664753063325144711170, [(1, 1)]), (20551738933448695970065411, [(1, 1)])], [(0, [(0, 1)]), (650, [(0, (-1))]), (0, [(1, 1)]), (650, [(1, (-1))]), (0, [(1, (-1)), (6, 1)]), (0, [(1, 1), (6, (-1))]), ((-2), [(7, 1)]), (2, [(7, (-1))]), (0, [(2, 1)]), (1099511627775, [(2, (-1))]), (0, [(3, 1)]), (6, [(3, (-1))]), (0, [(4, 1)]), (5, [(4, (-1))]), (0, [(5, 1)]), (3, [(5, (-1))]), (0, [(2, (-1)), (9, 1)]), (0, [(2, 1), (9, (-1))]), (0, [(3, (-1)), (10, 1)]), (0, [(3, 1), (10, (-1))]), (0, [(4, (-1)), (11, 1)]), (0, [(4, 1), (11, (-1))]), (0, [(5, (-1)), (12, 1)]), (0, [(5, 1), (12, (-1))]), ((-1), [(13, (-1))]), (2, [(5, (-1))]), ((-1), [(14, 1)]), (1, [(14, (-1))]), ((-3), [(1, (-1)), (15, 1)]), (3, [(1, 1), (15, (-1))])], [(0, [(8, 1), (16, (-1))]), (0, [(8, (-1)), (16, 1)])]) := by
  refine t_okI fun v hr hp => ?_
  obtain ⟨rI, rY, rP, rV, rT, rF, rB, rG, rS, rN, rD, -⟩ := hr
  obtain ⟨p0, p1, p2, p3, p4, p5, p6, p7, p8, p9, p10, p11, p12, p13, p14, p15, p16, p17, p18, p19, p20, p21, p22, p23, p24, p25, p26, p27, p28, p29, -⟩ := hp
  have p0 : 0 ≤ 0 + (1 * v 0 + (0)) := p0
  have p1 : 0 ≤ 650 + ((-1) * v 0 + (0)) := p1
  have p2 : 0 ≤ 0 + (1 * v 1 + (0)) := p2
  have p3 : 0 ≤ 650 + ((-1) * v 1 + (0)) := p3
  have p4 : 0 ≤ 0 + ((-1) * v 1 + (1 * v 6 + (0))) := p4
  have p5 : 0 ≤ 0 + (1 * v 1 + ((-1) * v 6 + (0))) := p5
  have p6 : 0 ≤ (-2) + (1 * v 7 + (0)) := p6
  have p7 : 0 ≤ 2 + ((-1) * v 7 + (0)) := p7
  have p8 : 0 ≤ 0 + (1 * v 2 + (0)) := p8
  have p9 : 0 ≤ 1099511627775 + ((-1) * v 2 + (0)) := p9
  have p10 : 0 ≤ 0 + (1 * v 3 + (0)) := p10
  have p11 : 0 ≤ 6 + ((-1) * v 3 + (0)) := p11
  have p12 : 0 ≤ 0 + (1 * v 4 + (0)) := p12
  have p13 : 0 ≤ 5 + ((-1) * v 4 + (0)) := p13
  have p14 : 0 ≤ 0 + (1 * v 5 + (0)) := p14
  have p15 : 0 ≤ 3 + ((-1) * v 5 + (0)) := p15
  have p16 : 0 ≤ 0 + ((-1) * v 2 + (1 * v 9 + (0))) := p16
  have p17 : 0 ≤ 0 + (1 * v 2 + ((-1) * v 9 + (0))) := p17
  have p18 : 0 ≤ 0 + ((-1) * v 3 + (1 * v 10 + (0))) := p18
  have p19 : 0 ≤ 0 + (1 * v 3 + ((-1) * v 10 + (0))) := p19
  have p20 : 0 ≤ 0 + ((-1) * v 4 + (1 * v 11 + (0))) := p20
  have p21 : 0 ≤ 0 + (1 * v 4 + ((-1) * v 11 + (0))) := p21
  have p22 : 0 ≤ 0 + ((-1) * v 5 + (1 * v 12 + (0))) := p22
  have p23 : 0 ≤ 0 + (1 * v 5 + ((-1) * v 12 + (0))) := p23
  have p24 : 0 ≤ (-1) + ((-1) * v 13 + (0)) := p24
  have p25 : 0 ≤ 2 + ((-1) * v 5 + (0)) := p25
  have p26 : 0 ≤ (-1) + (1 * v 14 + (0)) := p26
  have p27 : 0 ≤ 1 + ((-1) * v 14 + (0)) := p27
  have p28 : 0 ≤ (-3) + ((-1) * v 1 + (1 * v 15 + (0))) := p28
  have p29 : 0 ≤ 3 + (1 * v 1 + ((-1) * v 15 + (0))) := p29
  obtain ⟨nm, hm⟩ : ∃ n : Nat, v 0 = (n : Int) := ⟨(v 0).toNat, by omega⟩
  obtain ⟨ni, hi⟩ : ∃ n : Nat, v 1 = (n : Int) := ⟨(v 1).toNat, by omega⟩
  obtain ⟨nv, hv⟩ : ∃ n : Nat, v 2 = (n : Int) := ⟨(v 2).toNat, by omega⟩
  obtain ⟨nt, ht⟩ : ∃ n : Nat, v 3 = (n : Int) := ⟨(v 3).toNat, by omega⟩
  obtain ⟨nx, hx⟩ : ∃ n : Nat, v 4 = (n : Int) := ⟨(v 4).toNat, by omega⟩
  obtain ⟨nb, hb⟩ : ∃ n : Nat, v 5 = (n : Int) := ⟨(v 5).toNat, by omega⟩
  have rI : ∃ j : Nat, 24178516392292583494123520 + (1 * v 0 + (0)) = (j : Int) ∧ c_gv j (g j) = v 6 := rI
  have eI := t_g20 h nm (by omega) rI (by omega)
  have rY : ∃ j : Nat, 13298184015760920921767936 + (1 * v 1 + (0)) = (j : Int) ∧ c_gv j (g j) = v 7 := rY
  have eY := t_g11 h ni (by omega) rY (by omega)
  have rP : ∃ j : Nat, 43521329506126650289422336 + (1 * v 0 + (0)) = (j : Int) ∧ c_gv j (g j) = v 8 := rP
  have eP := t_g36 h nm (by omega) rP (by omega)
  have rV : ∃ j : Nat, 12089258196146291747061761 + (1 * v 1 + (0)) = (j : Int) ∧ c_gv j (g j) = v 9 := rV
  have eV := t_g10 h (ni+1) (by omega) rV (by omega)
  have rT : ∃ j : Nat, 25387442211907212668829696 + (1 * v 0 + (0)) = (j : Int) ∧ c_gv j (g j) = v 10 := rT
  have eT := t_g21 h nm (by omega) rT (by omega)
  have rF : ∃ j : Nat, 35058848768824246066479104 + (1073741824 * v 2 + (1024 * v 3 + (0))) = (j : Int) ∧ c_gv j (g j) = v 11 := rF
  have eF := t_g29 h 0 nt nv (by omega) (by omega) (by omega) rF (by omega)
  have rB : ∃ j : Nat, 29014219670751100192948224 + (1 * v 0 + (0)) = (j : Int) ∧ c_gv j (g j) = v 12 := rB
  have eB := t_g24 h nm (by omega) rB (by omega)
  have rG : ∃ j : Nat, 38685626227668133590597632 + (1073741824 * v 4 + (1024 * v 5 + (0))) = (j : Int) ∧ c_gv j (g j) = v 13 := rG
  have eG := t_g32 h 0 nb nx (by omega) (by omega) (by omega) rG (by omega)
  have rS : ∃ j : Nat, 19342813113834066795298817 + (1 * v 1 + (0)) = (j : Int) ∧ c_gv j (g j) = v 14 := rS
  have eS := t_g16 h (ni+1) (by omega) rS (by omega)
  have rN : ∃ j : Nat, 21760664753063325144711170 + (1 * v 1 + (0)) = (j : Int) ∧ c_gv j (g j) = v 15 := rN
  have eN := t_g18 h (ni+2) (by omega) rN (by omega)
  have rD : ∃ j : Nat, 20551738933448695970065411 + (1 * v 1 + (0)) = (j : Int) ∧ c_gv j (g j) = v 16 := rD
  have eD := t_g17 h (ni+3) 59 (by omega) (by omega) rD (by omega)
  obtain ⟨s, hs, rfl⟩ := t_ix_s (X := t_tx g) (m := nm) (i := ni) (by omega)
  have cp := t_pt_b (X := t_tx g) (s := s) hs (by omega)
  rw [t_cn_s hs] at eT
  have cx : nt = s.2.1.length := by omega
  subst cx
  rw [t_fd_pre (t_la_pre (t_G_ok h) hs (by omega)).1] at eF
  rw [t_cn_s hs] at eB
  have cb : nb = s.2.2.2.2.length := by omega
  subst cb
  rw [t_fd_pre (t_la_pre (t_G_ok h) hs (by omega)).2.2.2] at eG
  have ceS : t_nam (t_tx g) (s.1 + 1) = true := by
    cases h9 : t_nam (t_tx g) (s.1 + 1) with
    | true => rfl
    | false =>
      exfalso
      rw [h9] at eS
      have eS : v 14 = 0 := eS
      omega
  have deS := t_nam_iff.mp ceS
  unfold t_nb at eN
  have cn : t_k (t_tx g) (s.1 + 2) = 2 ∧ t_v (t_tx g) (s.1 + 2) ≤ 11 := by
    by_cases h9 : t_k (t_tx g) (s.1 + 2) = 2 ∧ t_v (t_tx g) (s.1 + 2) ≤ 11
    · exact h9
    · rw [if_neg h9] at eN
      omega
  have ca : t_at0 s.2.1 (t_v (t_tx g) (s.1 + 1)) 0 = (nx : Int) := by
    rw [show t_v (t_tx g) (s.1 + 1) = (nv : Int) by omega]
    omega
  rw [t_need_is] at eD
  have eD : v 16 = if t_k (t_tx g) (s.1 + 3) = 3 ∧ t_v (t_tx g) (s.1 + 3) = 59 then ((s.1 + 3 : Nat) : Int) + 1 else -1 := eD
  have key : v 8 = v 16 := by
    by_cases h9 : t_k (t_tx g) (s.1 + 3) = 3 ∧ t_v (t_tx g) (s.1 + 3) = 59
    · rw [if_pos ⟨by omega, ceS, by omega, by rw [ca]; omega, cn.1, cn.2, t_sg_iff.mpr h9⟩] at cp
      rw [if_pos h9] at eD
      omega
    · rw [if_neg (fun h8 => h9 (t_sg_iff.mp h8.2.2.2.2.2.2))] at cp
      rw [if_neg h9] at eD
      omega
  exact ⟨(by show 0 ≤ 0 + (1 * v 8 + ((-1) * v 16 + (0))); omega), (by show 0 ≤ 0 + ((-1) * v 8 + (1 * v 16 + (0))); omega), trivial⟩
-- ix0
theorem t_q162 {g : Nat → Int} (h : t_G g) : t_ok g 0 ([(24178516392292583494123520, []), (25387442211907212668829696, []), (26596368031521841843535872, []), (27805293851136471018242048, []), (29014219670751100192948224, [])], [], [(0, [(0, 1)]), (0, [(0, (-1))]), (0, [(1, 1)]), (0, [(1, (-1))]), (0, [(2, 1)]), (0, [(2, (-1))]), (0, [(3, 1)]), (0, [(3, (-1))]), (0, [(4, 1)]), (0, [(4, (-1))])]) := by
  refine t_okI fun v hr hp => ?_
  obtain ⟨rI, rA, rB, rC, rD, -⟩ := hr
  have rI : ∃ j : Nat, 24178516392292583494123520 + (0) = (j : Int) ∧ c_gv j (g j) = v 0 := rI
  have eI := t_g20 h 0 (by omega) rI (by omega)
  have rA : ∃ j : Nat, 25387442211907212668829696 + (0) = (j : Int) ∧ c_gv j (g j) = v 1 := rA
  have eA := t_g21 h 0 (by omega) rA (by omega)
  have rB : ∃ j : Nat, 26596368031521841843535872 + (0) = (j : Int) ∧ c_gv j (g j) = v 2 := rB
  have eB := t_g22 h 0 (by omega) rB (by omega)
  have rC : ∃ j : Nat, 27805293851136471018242048 + (0) = (j : Int) ∧ c_gv j (g j) = v 3 := rC
  have eC := t_g23 h 0 (by omega) rC (by omega)
  have rD : ∃ j : Nat, 29014219670751100192948224 + (0) = (j : Int) ∧ c_gv j (g j) = v 4 := rD
  have eD := t_g24 h 0 (by omega) rD (by omega)
  have c1 : t_ix (t_tx g) 0 = 0 := rfl
  have c2 : t_cn (fun s => s.2.1) (t_tx g) 0 = 0 := rfl
  have c3 : t_cn (fun s => s.2.2.1) (t_tx g) 0 = 0 := rfl
  have c4 : t_cn (fun s => s.2.2.2.1) (t_tx g) 0 = 0 := rfl
  have c5 : t_cn (fun s => s.2.2.2.2) (t_tx g) 0 = 0 := rfl
  exact ⟨(by show 0 ≤ 0 + (1 * v 0 + (0)); omega), (by show 0 ≤ 0 + ((-1) * v 0 + (0)); omega), (by show 0 ≤ 0 + (1 * v 1 + (0)); omega), (by show 0 ≤ 0 + ((-1) * v 1 + (0)); omega), (by show 0 ≤ 0 + (1 * v 2 + (0)); omega), (by show 0 ≤ 0 + ((-1) * v 2 + (0)); omega), (by show 0 ≤ 0 + (1 * v 3 + (0)); omega), (by show 0 ≤ 0 + ((-1) * v 3 + (0)); omega), (by show 0 ≤ 0 + (1 * v 4 + (0)); omega), (by show 0 ≤ 0 + ((-1) * v 4 + (0)); omega), trivial⟩
-- ix1
theorem t_q163 {g : Nat → Int} (h : t_G g) : t_ok g 2 ([(24178516392292583494123520, [(0, 1)]), (9671406556917033397649408, [(1, 1)]), (43521329506126650289422336, [(0, 1)]), (24178516392292583494123521, [(0, 1)])], [(0, [(0, 1)]), (650, [(0, (-1))]), (0, [(1, 1)]), (650, [(1, (-1))]), (0, [(1, (-1)), (2, 1)]), (0, [(1, 1), (2, (-1))]), ((-1), [(3, 1)])], [(0, [(4, (-1)), (5, 1)]), (0, [(4, 1), (5, (-1))])]) := by
  refine t_okI fun v hr hp => ?_
  obtain ⟨rI, rK, rP, rJ, -⟩ := hr
  obtain ⟨p0, p1, p2, p3, p4, p5, p6, -⟩ := hp
  have p0 : 0 ≤ 0 + (1 * v 0 + (0)) := p0
  have p1 : 0 ≤ 650 + ((-1) * v 0 + (0)) := p1
  have p2 : 0 ≤ 0 + (1 * v 1 + (0)) := p2
  have p3 : 0 ≤ 650 + ((-1) * v 1 + (0)) := p3
  have p4 : 0 ≤ 0 + ((-1) * v 1 + (1 * v 2 + (0))) := p4
  have p5 : 0 ≤ 0 + (1 * v 1 + ((-1) * v 2 + (0))) := p5
  have p6 : 0 ≤ (-1) + (1 * v 3 + (0)) := p6
  obtain ⟨nm, hm⟩ : ∃ n : Nat, v 0 = (n : Int) := ⟨(v 0).toNat, by omega⟩
  obtain ⟨ni, hi⟩ : ∃ n : Nat, v 1 = (n : Int) := ⟨(v 1).toNat, by omega⟩
  have rI : ∃ j : Nat, 24178516392292583494123520 + (1 * v 0 + (0)) = (j : Int) ∧ c_gv j (g j) = v 2 := rI
  have eI := t_g20 h nm (by omega) rI (by omega)
  have rK : ∃ j : Nat, 9671406556917033397649408 + (1 * v 1 + (0)) = (j : Int) ∧ c_gv j (g j) = v 3 := rK
  have eK := t_g8 h ni (by omega) rK (by omega)
  have rP : ∃ j : Nat, 43521329506126650289422336 + (1 * v 0 + (0)) = (j : Int) ∧ c_gv j (g j) = v 4 := rP
  have eP := t_g36 h nm (by omega) rP (by omega)
  have rJ : ∃ j : Nat, 24178516392292583494123521 + (1 * v 0 + (0)) = (j : Int) ∧ c_gv j (g j) = v 5 := rJ
  have eJ := t_g20 h (nm+1) (by omega) rJ (by omega)
  obtain ⟨s, hs, rfl⟩ := t_ix_s (X := t_tx g) (m := nm) (i := ni) (by omega)
  have c := t_ix_nx (X := t_tx g) hs (by omega)
  exact ⟨(by show 0 ≤ 0 + ((-1) * v 4 + (1 * v 5 + (0))); omega), (by show 0 ≤ 0 + (1 * v 4 + ((-1) * v 5 + (0))); omega), trivial⟩
-- ctt
theorem t_q164 {g : Nat → Int} (h : t_G g) : t_ok g 3 ([(24178516392292583494123520, [(0, 1)]), (13298184015760920921767936, [(1, 1)]), (43521329506126650289422336, [(0, 1)]), (25387442211907212668829696, [(0, 1)]), (26596368031521841843535872, [(0, 1)]), (27805293851136471018242048, [(0, 1)]), (29014219670751100192948224, [(0, 1)]), (25387442211907212668829697, [(0, 1)]), (26596368031521841843535873, [(0, 1)]), (27805293851136471018242049, [(0, 1)]), (29014219670751100192948225, [(0, 1)]), (30223145490365729367654400, [(2, 1)]), (12089258196146291747061761, [(1, 1)])], [(0, [(0, 1)]), (650, [(0, (-1))]), (0, [(1, 1)]), (650, [(1, (-1))]), (0, [(1, (-1)), (3, 1)]), (0, [(1, 1), (3, (-1))]), (0, [(4, 1)]), (0, [(4, (-1))]), (0, [(5, 1)]), (0, [(2, (-1)), (6, 1)]), (0, [(2, 1), (6, (-1))]), (0, [(2, 1)]), (5, [(2, (-1))])], [(0, [(14, 1), (15, (-1))]), (0, [(14, (-1)), (15, 1)]), ((-1), [(6, (-1)), (10, 1)]), (1, [(6, 1), (10, (-1))]), (0, [(7, (-1)), (11, 1)]), (0, [(7, 1), (11, (-1))]), (0, [(8, (-1)), (12, 1)]), (0, [(8, 1), (12, (-1))]), (0, [(9, (-1)), (13, 1)]), (0, [(9, 1), (13, (-1))])]) := by
  refine t_okI fun v hr hp => ?_
  obtain ⟨rI, rY, rP, rA, rB, rC, rD, rE, rF, rG, rH, rN, rV, -⟩ := hr
  obtain ⟨p0, p1, p2, p3, p4, p5, p6, p7, p8, p9, p10, p11, p12, -⟩ := hp
  have p0 : 0 ≤ 0 + (1 * v 0 + (0)) := p0
  have p1 : 0 ≤ 650 + ((-1) * v 0 + (0)) := p1
  have p2 : 0 ≤ 0 + (1 * v 1 + (0)) := p2
  have p3 : 0 ≤ 650 + ((-1) * v 1 + (0)) := p3
  have p4 : 0 ≤ 0 + ((-1) * v 1 + (1 * v 3 + (0))) := p4
  have p5 : 0 ≤ 0 + (1 * v 1 + ((-1) * v 3 + (0))) := p5
  have p6 : 0 ≤ 0 + (1 * v 4 + (0)) := p6
  have p7 : 0 ≤ 0 + ((-1) * v 4 + (0)) := p7
  have p8 : 0 ≤ 0 + (1 * v 5 + (0)) := p8
  have p9 : 0 ≤ 0 + ((-1) * v 2 + (1 * v 6 + (0))) := p9
  have p10 : 0 ≤ 0 + (1 * v 2 + ((-1) * v 6 + (0))) := p10
  have p11 : 0 ≤ 0 + (1 * v 2 + (0)) := p11
  have p12 : 0 ≤ 5 + ((-1) * v 2 + (0)) := p12
  obtain ⟨nm, hm⟩ : ∃ n : Nat, v 0 = (n : Int) := ⟨(v 0).toNat, by omega⟩
  obtain ⟨ni, hi⟩ : ∃ n : Nat, v 1 = (n : Int) := ⟨(v 1).toNat, by omega⟩
  obtain ⟨nt, ht⟩ : ∃ n : Nat, v 2 = (n : Int) := ⟨(v 2).toNat, by omega⟩
  have rI : ∃ j : Nat, 24178516392292583494123520 + (1 * v 0 + (0)) = (j : Int) ∧ c_gv j (g j) = v 3 := rI
  have eI := t_g20 h nm (by omega) rI (by omega)
  have rY : ∃ j : Nat, 13298184015760920921767936 + (1 * v 1 + (0)) = (j : Int) ∧ c_gv j (g j) = v 4 := rY
  have eY := t_g11 h ni (by omega) rY (by omega)
  have rP : ∃ j : Nat, 43521329506126650289422336 + (1 * v 0 + (0)) = (j : Int) ∧ c_gv j (g j) = v 5 := rP
  have eP := t_g36 h nm (by omega) rP (by omega)
  have rA : ∃ j : Nat, 25387442211907212668829696 + (1 * v 0 + (0)) = (j : Int) ∧ c_gv j (g j) = v 6 := rA
  have eA := t_g21 h nm (by omega) rA (by omega)
  have rB : ∃ j : Nat, 26596368031521841843535872 + (1 * v 0 + (0)) = (j : Int) ∧ c_gv j (g j) = v 7 := rB
  have eB := t_g22 h nm (by omega) rB (by omega)
  have rC : ∃ j : Nat, 27805293851136471018242048 + (1 * v 0 + (0)) = (j : Int) ∧ c_gv j (g j) = v 8 := rC
  have eC := t_g23 h nm (by omega) rC (by omega)
  have rD : ∃ j : Nat, 29014219670751100192948224 + (1 * v 0 + (0)) = (j : Int) ∧ c_gv j (g j) = v 9 := rD
  have eD := t_g24 h nm (by omega) rD (by omega)
  have rE : ∃ j : Nat, 25387442211907212668829697 + (1 * v 0 + (0)) = (j : Int) ∧ c_gv j (g j) = v 10 := rE
  have eE := t_g21 h (nm+1) (by omega) rE (by omega)
  have rF : ∃ j : Nat, 26596368031521841843535873 + (1 * v 0 + (0)) = (j : Int) ∧ c_gv j (g j) = v 11 := rF
  have eF := t_g22 h (nm+1) (by omega) rF (by omega)
  have rG : ∃ j : Nat, 27805293851136471018242049 + (1 * v 0 + (0)) = (j : Int) ∧ c_gv j (g j) = v 12 := rG
  have eG := t_g23 h (nm+1) (by omega) rG (by omega)
  have rH : ∃ j : Nat, 29014219670751100192948225 + (1 * v 0 + (0)) = (j : Int) ∧ c_gv j (g j) = v 13 := rH
  have eH := t_g24 h (nm+1) (by omega) rH (by omega)
  have rN : ∃ j : Nat, 30223145490365729367654400 + (1 * v 2 + (0)) = (j : Int) ∧ c_gv j (g j) = v 14 := rN
  have eN := t_g25 h nt (by omega) rN (by omega)
  have rV : ∃ j : Nat, 12089258196146291747061761 + (1 * v 1 + (0)) = (j : Int) ∧ c_gv j (g j) = v 15 := rV
  have eV := t_g10 h (ni+1) (by omega) rV (by omega)
  obtain ⟨s, hs, rfl⟩ := t_ix_s (X := t_tx g) (m := nm) (i := ni) (by omega)
  have ck := t_ky_k (X := t_tx g) (i := s.1) (by omega)
  obtain ⟨s1, hp, h1⟩ := t_nxt (X := t_tx g) hs (by omega) (by omega)
  have hl := t_la_pre (t_G_ok h) h1 (by omega)
  rw [t_cn_s hs] at eA eB eC eD
  rw [t_cn_s h1] at eE eF eG eH
  rcases t_stp_is (t_G_ok h) hp with ⟨y, a1, a2, rfl⟩ | ⟨y, a1, a2, rfl⟩ | ⟨y, a1, rfl⟩ | ⟨y, a1, a2, rfl⟩
  · have bl : v 10 = (s.2.1.length : Int) + 1 := by
      rw [eE]
      show (((s.2.1 ++ [t_v (t_tx g) (s.1 + 1)]).length : Nat) : Int) = _
      rw [List.length_append]
      rfl
    have bk : v 11 = (s.2.2.1.length : Int) := eF
    have bl : v 12 = (s.2.2.2.1.length : Int) := eG
    have bb : v 13 = (s.2.2.2.2.length : Int) := eH
    have hn : (s.2.1 ++ [t_v (t_tx g) (s.1 + 1)]) <+: (t_la (t_tx g) 700).2.1 := hl.1
    have hx : t_nth (t_la (t_tx g) 700).2.1 nt = t_v (t_tx g) (s.1 + 1) := t_nth_some (by
      rw [t_pre_nth hn (by rw [List.length_append]; show nt < s.2.1.length + 1; omega), show nt = s.2.1.length by omega, List.getElem?_append_right (Nat.le_refl _), Nat.sub_self]
      rfl)
    have cb := t_v_bd (X := t_tx g) (s.1 + 1) (t_G_by h)
    rw [hx, t_cl_id (by omega)] at eN
    exact ⟨(by show 0 ≤ 0 + (1 * v 14 + ((-1) * v 15 + (0))); omega), (by show 0 ≤ 0 + ((-1) * v 14 + (1 * v 15 + (0))); omega), (by show 0 ≤ (-1) + ((-1) * v 6 + (1 * v 10 + (0))); omega), (by show 0 ≤ 1 + (1 * v 6 + ((-1) * v 10 + (0))); omega), (by show 0 ≤ 0 + ((-1) * v 7 + (1 * v 11 + (0))); omega), (by show 0 ≤ 0 + (1 * v 7 + ((-1) * v 11 + (0))); omega), (by show 0 ≤ 0 + ((-1) * v 8 + (1 * v 12 + (0))); omega), (by show 0 ≤ 0 + (1 * v 8 + ((-1) * v 12 + (0))); omega), (by show 0 ≤ 0 + ((-1) * v 9 + (1 * v 13 + (0))); omega), (by show 0 ≤ 0 + (1 * v 9 + ((-1) * v 13 + (0))); omega), trivial⟩
  · exfalso
    omega
  · exfalso
    omega
  · exfalso
    omega
-- ctk
theorem t_q165 {g : Nat → Int} (h : t_G g) : t_ok g 3 ([(24178516392292583494123520, [(0, 1)]), (13298184015760920921767936, [(1, 1)]), (43521329506126650289422336, [(0, 1)]), (25387442211907212668829696, [(0, 1)]), (26596368031521841843535872, [(0, 1)]), (27805293851136471018242048, [(0, 1)]), (29014219670751100192948224, [(0, 1)]), (25387442211907212668829697, [(0, 1)]), (26596368031521841843535873, [(0, 1)]), (27805293851136471018242049, [(0, 1)]), (29014219670751100192948225, [(0, 1)]), (31432071309980358542360576, [(2, 1)]), (12089258196146291747061761, [(1, 1)])], [(0, [(0, 1)]), (650, [(0, (-1))]), (0, [(1, 1)]), (650, [(1, (-1))]), (0, [(1, (-1)), (3, 1)]), (0, [(1, 1), (3, (-1))]), ((-1), [(4, 1)]), (1, [(4, (-1))]), (0, [(5, 1)]), (0, [(2, (-1)), (7, 1)]), (0, [(2, 1), (7, (-1))]), (0, [(2, 1)]), (5, [(2, (-1))])], [(0, [(14, 1), (15, (-1))]), (0, [(14, (-1)), (15, 1)]), (0, [(6, (-1)), (10, 1)]), (0, [(6, 1), (10, (-1))]), ((-1), [(7, (-1)), (11, 1)]), (1, [(7, 1), (11, (-1))]), (0, [(8, (-1)), (12, 1)]), (0, [(8, 1), (12, (-1))]), (0, [(9, (-1)), (13, 1)]), (0, [(9, 1), (13, (-1))])]) := by
  refine t_okI fun v hr hp => ?_
  obtain ⟨rI, rY, rP, rA, rB, rC, rD, rE, rF, rG, rH, rN, rV, -⟩ := hr
  obtain ⟨p0, p1, p2, p3, p4, p5, p6, p7, p8, p9, p10, p11, p12, -⟩ := hp
  have p0 : 0 ≤ 0 + (1 * v 0 + (0)) := p0
  have p1 : 0 ≤ 650 + ((-1) * v 0 + (0)) := p1
  have p2 : 0 ≤ 0 + (1 * v 1 + (0)) := p2
  have p3 : 0 ≤ 650 + ((-1) * v 1 + (0)) := p3
  have p4 : 0 ≤ 0 + ((-1) * v 1 + (1 * v 3 + (0))) := p4
  have p5 : 0 ≤ 0 + (1 * v 1 + ((-1) * v 3 + (0))) := p5
  have p6 : 0 ≤ (-1) + (1 * v 4 + (0)) := p6
  have p7 : 0 ≤ 1 + ((-1) * v 4 + (0)) := p7
  have p8 : 0 ≤ 0 + (1 * v 5 + (0)) := p8
  have p9 : 0 ≤ 0 + ((-1) * v 2 + (1 * v 7 + (0))) := p9
  have p10 : 0 ≤ 0 + (1 * v 2 + ((-1) * v 7 + (0))) := p10
  have p11 : 0 ≤ 0 + (1 * v 2 + (0)) := p11
  have p12 : 0 ≤ 5 + ((-1) * v 2 + (0)) := p12
  obtain ⟨nm, hm⟩ : ∃ n : Nat, v 0 = (n : Int) := ⟨(v 0).toNat, by omega⟩
  obtain ⟨ni, hi⟩ : ∃ n : Nat, v 1 = (n : Int) := ⟨(v 1).toNat, by omega⟩
  obtain ⟨nt, ht⟩ : ∃ n : Nat, v 2 = (n : Int) := ⟨(v 2).toNat, by omega⟩
  have rI : ∃ j : Nat, 24178516392292583494123520 + (1 * v 0 + (0)) = (j : Int) ∧ c_gv j (g j) = v 3 := rI
  have eI := t_g20 h nm (by omega) rI (by omega)
  have rY : ∃ j : Nat, 13298184015760920921767936 + (1 * v 1 + (0)) = (j : Int) ∧ c_gv j (g j) = v 4 := rY
  have eY := t_g11 h ni (by omega) rY (by omega)
  have rP : ∃ j : Nat, 43521329506126650289422336 + (1 * v 0 + (0)) = (j : Int) ∧ c_gv j (g j) = v 5 := rP
  have eP := t_g36 h nm (by omega) rP (by omega)
  have rA : ∃ j : Nat, 25387442211907212668829696 + (1 * v 0 + (0)) = (j : Int) ∧ c_gv j (g j) = v 6 := rA
  have eA := t_g21 h nm (by omega) rA (by omega)
  have rB : ∃ j : Nat, 26596368031521841843535872 + (1 * v 0 + (0)) = (j : Int) ∧ c_gv j (g j) = v 7 := rB
  have eB := t_g22 h nm (by omega) rB (by omega)
  have rC : ∃ j : Nat, 27805293851136471018242048 + (1 * v 0 + (0)) = (j : Int) ∧ c_gv j (g j) = v 8 := rC
  have eC := t_g23 h nm (by omega) rC (by omega)
  have rD : ∃ j : Nat, 29014219670751100192948224 + (1 * v 0 + (0)) = (j : Int) ∧ c_gv j (g j) = v 9 := rD
  have eD := t_g24 h nm (by omega) rD (by omega)
  have rE : ∃ j : Nat, 25387442211907212668829697 + (1 * v 0 + (0)) = (j : Int) ∧ c_gv j (g j) = v 10 := rE
  have eE := t_g21 h (nm+1) (by omega) rE (by omega)
  have rF : ∃ j : Nat, 26596368031521841843535873 + (1 * v 0 + (0)) = (j : Int) ∧ c_gv j (g j) = v 11 := rF
  have eF := t_g22 h (nm+1) (by omega) rF (by omega)
  have rG : ∃ j : Nat, 27805293851136471018242049 + (1 * v 0 + (0)) = (j : Int) ∧ c_gv j (g j) = v 12 := rG
  have eG := t_g23 h (nm+1) (by omega) rG (by omega)
  have rH : ∃ j : Nat, 29014219670751100192948225 + (1 * v 0 + (0)) = (j : Int) ∧ c_gv j (g j) = v 13 := rH
  have eH := t_g24 h (nm+1) (by omega) rH (by omega)
  have rN : ∃ j : Nat, 31432071309980358542360576 + (1 * v 2 + (0)) = (j : Int) ∧ c_gv j (g j) = v 14 := rN
  have eN := t_g26 h nt (by omega) rN (by omega)
  have rV : ∃ j : Nat, 12089258196146291747061761 + (1 * v 1 + (0)) = (j : Int) ∧ c_gv j (g j) = v 15 := rV
  have eV := t_g10 h (ni+1) (by omega) rV (by omega)
  obtain ⟨s, hs, rfl⟩ := t_ix_s (X := t_tx g) (m := nm) (i := ni) (by omega)
  have ck := t_ky_k (X := t_tx g) (i := s.1) (by omega)
  obtain ⟨s1, hp, h1⟩ := t_nxt (X := t_tx g) hs (by omega) (by omega)
  have hl := t_la_pre (t_G_ok h) h1 (by omega)
  rw [t_cn_s hs] at eA eB eC eD
  rw [t_cn_s h1] at eE eF eG eH
  rcases t_stp_is (t_G_ok h) hp with ⟨y, a1, a2, rfl⟩ | ⟨y, a1, a2, rfl⟩ | ⟨y, a1, rfl⟩ | ⟨y, a1, a2, rfl⟩
  · exfalso
    omega
  · have bl : v 11 = (s.2.2.1.length : Int) + 1 := by
      rw [eF]
      show (((s.2.2.1 ++ [t_v (t_tx g) (s.1 + 1)]).length : Nat) : Int) = _
      rw [List.length_append]
      rfl
    have bt : v 10 = (s.2.1.length : Int) := eE
    have bl : v 12 = (s.2.2.2.1.length : Int) := eG
    have bb : v 13 = (s.2.2.2.2.length : Int) := eH
    have hn : (s.2.2.1 ++ [t_v (t_tx g) (s.1 + 1)]) <+: (t_la (t_tx g) 700).2.2.1 := hl.2.1
    have hx : t_nth (t_la (t_tx g) 700).2.2.1 nt = t_v (t_tx g) (s.1 + 1) := t_nth_some (by
      rw [t_pre_nth hn (by rw [List.length_append]; show nt < s.2.2.1.length + 1; omega), show nt = s.2.2.1.length by omega, List.getElem?_append_right (Nat.le_refl _), Nat.sub_self]
      rfl)
    have cb := t_v_bd (X := t_tx g) (s.1 + 1) (t_G_by h)
    rw [hx, t_cl_id (by omega)] at eN
    exact ⟨(by show 0 ≤ 0 + (1 * v 14 + ((-1) * v 15 + (0))); omega), (by show 0 ≤ 0 + ((-1) * v 14 + (1 * v 15 + (0))); omega), (by show 0 ≤ 0 + ((-1) * v 6 + (1 * v 10 + (0))); omega), (by show 0 ≤ 0 + (1 * v 6 + ((-1) * v 10 + (0))); omega), (by show 0 ≤ (-1) + ((-1) * v 7 + (1 * v 11 + (0))); omega), (by show 0 ≤ 1 + (1 * v 7 + ((-1) * v 11 + (0))); omega), (by show 0 ≤ 0 + ((-1) * v 8 + (1 * v 12 + (0))); omega), (by show 0 ≤ 0 + (1 * v 8 + ((-1) * v 12 + (0))); omega), (by show 0 ≤ 0 + ((-1) * v 9 + (1 * v 13 + (0))); omega), (by show 0 ≤ 0 + (1 * v 9 + ((-1) * v 13 + (0))); omega), trivial⟩
  · exfalso
    omega
  · exfalso
    omega
-- ctl
theorem t_q166 {g : Nat → Int} (h : t_G g) : t_ok g 3 ([(24178516392292583494123520, [(0, 1)]), (13298184015760920921767936, [(1, 1)]), (43521329506126650289422336, [(0, 1)]), (25387442211907212668829696, [(0, 1)]), (26596368031521841843535872, [(0, 1)]), (27805293851136471018242048, [(0, 1)]), (29014219670751100192948224, [(0, 1)]), (25387442211907212668829697, [(0, 1)]), (26596368031521841843535873, [(0, 1)]), (27805293851136471018242049, [(0, 1)]), (29014219670751100192948225, [(0, 1)]), (32640997129594987717066752, [(2, 1)]), (12089258196146291747061761, [(1, 1)])], [(0, [(0, 1)]), (650, [(0, (-1))]), (0, [(1, 1)]), (650, [(1, (-1))]), (0, [(1, (-1)), (3, 1)]), (0, [(1, 1), (3, (-1))]), ((-3), [(4, 1)]), (3, [(4, (-1))]), (0, [(5, 1)]), (0, [(2, (-1)), (8, 1)]), (0, [(2, 1), (8, (-1))]), (0, [(2, 1)]), (5, [(2, (-1))])], [(0, [(14, 1), (15, (-1))]), (0, [(14, (-1)), (15, 1)]), (0, [(6, (-1)), (10, 1)]), (0, [(6, 1), (10, (-1))]), (0, [(7, (-1)), (11, 1)]), (0, [(7, 1), (11, (-1))]), ((-1), [(8, (-1)), (12, 1)]), (1, [(8, 1), (12, (-1))]), (0, [(9, (-1)), (13, 1)]), (0, [(9, 1), (13, (-1))])]) := by
  refine t_okI fun v hr hp => ?_
  obtain ⟨rI, rY, rP, rA, rB, rC, rD, rE, rF, rG, rH, rN, rV, -⟩ := hr
  obtain ⟨p0, p1, p2, p3, p4, p5, p6, p7, p8, p9, p10, p11, p12, -⟩ := hp
  have p0 : 0 ≤ 0 + (1 * v 0 + (0)) := p0
  have p1 : 0 ≤ 650 + ((-1) * v 0 + (0)) := p1
  have p2 : 0 ≤ 0 + (1 * v 1 + (0)) := p2
  have p3 : 0 ≤ 650 + ((-1) * v 1 + (0)) := p3
  have p4 : 0 ≤ 0 + ((-1) * v 1 + (1 * v 3 + (0))) := p4
  have p5 : 0 ≤ 0 + (1 * v 1 + ((-1) * v 3 + (0))) := p5
  have p6 : 0 ≤ (-3) + (1 * v 4 + (0)) := p6
  have p7 : 0 ≤ 3 + ((-1) * v 4 + (0)) := p7
  have p8 : 0 ≤ 0 + (1 * v 5 + (0)) := p8
  have p9 : 0 ≤ 0 + ((-1) * v 2 + (1 * v 8 + (0))) := p9
  have p10 : 0 ≤ 0 + (1 * v 2 + ((-1) * v 8 + (0))) := p10
  have p11 : 0 ≤ 0 + (1 * v 2 + (0)) := p11
  have p12 : 0 ≤ 5 + ((-1) * v 2 + (0)) := p12
  obtain ⟨nm, hm⟩ : ∃ n : Nat, v 0 = (n : Int) := ⟨(v 0).toNat, by omega⟩
  obtain ⟨ni, hi⟩ : ∃ n : Nat, v 1 = (n : Int) := ⟨(v 1).toNat, by omega⟩
  obtain ⟨nt, ht⟩ : ∃ n : Nat, v 2 = (n : Int) := ⟨(v 2).toNat, by omega⟩
  have rI : ∃ j : Nat, 24178516392292583494123520 + (1 * v 0 + (0)) = (j : Int) ∧ c_gv j (g j) = v 3 := rI
  have eI := t_g20 h nm (by omega) rI (by omega)
  have rY : ∃ j : Nat, 13298184015760920921767936 + (1 * v 1 + (0)) = (j : Int) ∧ c_gv j (g j) = v 4 := rY
  have eY := t_g11 h ni (by omega) rY (by omega)
  have rP : ∃ j : Nat, 43521329506126650289422336 + (1 * v 0 + (0)) = (j : Int) ∧ c_gv j (g j) = v 5 := rP
  have eP := t_g36 h nm (by omega) rP (by omega)
  have rA : ∃ j : Nat, 25387442211907212668829696 + (1 * v 0 + (0)) = (j : Int) ∧ c_gv j (g j) = v 6 := rA
  have eA := t_g21 h nm (by omega) rA (by omega)
  have rB : ∃ j : Nat, 26596368031521841843535872 + (1 * v 0 + (0)) = (j : Int) ∧ c_gv j (g j) = v 7 := rB
  have eB := t_g22 h nm (by omega) rB (by omega)
  have rC : ∃ j : Nat, 27805293851136471018242048 + (1 * v 0 + (0)) = (j : Int) ∧ c_gv j (g j) = v 8 := rC
  have eC := t_g23 h nm (by omega) rC (by omega)
  have rD : ∃ j : Nat, 29014219670751100192948224 + (1 * v 0 + (0)) = (j : Int) ∧ c_gv j (g j) = v 9 := rD
  have eD := t_g24 h nm (by omega) rD (by omega)
  have rE : ∃ j : Nat, 25387442211907212668829697 + (1 * v 0 + (0)) = (j : Int) ∧ c_gv j (g j) = v 10 := rE
  have eE := t_g21 h (nm+1) (by omega) rE (by omega)
  have rF : ∃ j : Nat, 26596368031521841843535873 + (1 * v 0 + (0)) = (j : Int) ∧ c_gv j (g j) = v 11 := rF
  have eF := t_g22 h (nm+1) (by omega) rF (by omega)
  have rG : ∃ j : Nat, 27805293851136471018242049 + (1 * v 0 + (0)) = (j : Int) ∧ c_gv j (g j) = v 12 := rG
  have eG := t_g23 h (nm+1) (by omega) rG (by omega)
  have rH : ∃ j : Nat, 29014219670751100192948225 + (1 * v 0 + (0)) = (j : Int) ∧ c_gv j (g j) = v 13 := rH
  have eH := t_g24 h (nm+1) (by omega) rH (by omega)
  have rN : ∃ j : Nat, 32640997129594987717066752 + (1 * v 2 + (0)) = (j : Int) ∧ c_gv j (g j) = v 14 := rN
  have eN := t_g27 h nt (by omega) rN (by omega)
  have rV : ∃ j : Nat, 12089258196146291747061761 + (1 * v 1 + (0)) = (j : Int) ∧ c_gv j (g j) = v 15 := rV
  have eV := t_g10 h (ni+1) (by omega) rV (by omega)
  obtain ⟨s, hs, rfl⟩ := t_ix_s (X := t_tx g) (m := nm) (i := ni) (by omega)
  have ck := t_ky_k (X := t_tx g) (i := s.1) (by omega)
  obtain ⟨s1, hp, h1⟩ := t_nxt (X := t_tx g) hs (by omega) (by omega)
  have hl := t_la_pre (t_G_ok h) h1 (by omega)
  rw [t_cn_s hs] at eA eB eC eD
  rw [t_cn_s h1] at eE eF eG eH
  rcases t_stp_is (t_G_ok h) hp with ⟨y, a1, a2, rfl⟩ | ⟨y, a1, a2, rfl⟩ | ⟨y, a1, rfl⟩ | ⟨y, a1, a2, rfl⟩
  · exfalso
    omega
  · exfalso
    omega
  · exfalso
    omega
  · have bl : v 12 = (s.2.2.2.1.length : Int) + 1 := by
      rw [eG]
      show (((s.2.2.2.1 ++ [t_v (t_tx g) (s.1 + 1)]).length : Nat) : Int) = _
      rw [List.length_append]
      rfl
    have bt : v 10 = (s.2.1.length : Int) := eE
    have bk : v 11 = (s.2.2.1.length : Int) := eF
    have bb : v 13 = (s.2.2.2.2.length : Int) := eH
    have hn : (s.2.2.2.1 ++ [t_v (t_tx g) (s.1 + 1)]) <+: (t_la (t_tx g) 700).2.2.2.1 := hl.2.2.1
    have hx : t_nth (t_la (t_tx g) 700).2.2.2.1 nt = t_v (t_tx g) (s.1 + 1) := t_nth_some (by
      rw [t_pre_nth hn (by rw [List.length_append]; show nt < s.2.2.2.1.length + 1; omega), show nt = s.2.2.2.1.length by omega, List.getElem?_append_right (Nat.le_refl _), Nat.sub_self]
      rfl)
    have cb := t_v_bd (X := t_tx g) (s.1 + 1) (t_G_by h)
    rw [hx, t_cl_id (by omega)] at eN
    exact ⟨(by show 0 ≤ 0 + (1 * v 14 + ((-1) * v 15 + (0))); omega), (by show 0 ≤ 0 + ((-1) * v 14 + (1 * v 15 + (0))); omega), (by show 0 ≤ 0 + ((-1) * v 6 + (1 * v 10 + (0))); omega), (by show 0 ≤ 0 + (1 * v 6 + ((-1) * v 10 + (0))); omega), (by show 0 ≤ 0 + ((-1) * v 7 + (1 * v 11 + (0))); omega), (by show 0 ≤ 0 + (1 * v 7 + ((-1) * v 11 + (0))); omega), (by show 0 ≤ (-1) + ((-1) * v 8 + (1 * v 12 + (0))); omega), (by show 0 ≤ 1 + (1 * v 8 + ((-1) * v 12 + (0))); omega), (by show 0 ≤ 0 + ((-1) * v 9 + (1 * v 13 + (0))); omega), (by show 0 ≤ 0 + (1 * v 9 + ((-1) * v 13 + (0))); omega), trivial⟩
-- ctb
theorem t_q167 {g : Nat → Int} (h : t_G g) : t_ok g 4 ([(24178516392292583494123520, [(0, 1)]), (13298184015760920921767936, [(1, 1)]), (43521329506126650289422336, [(0, 1)]), (25387442211907212668829696, [(0, 1)]), (26596368031521841843535872, [(0, 1)]), (27805293851136471018242048, [(0, 1)]), (29014219670751100192948224, [(0, 1)]), (25387442211907212668829697, [(0, 1)]), (26596368031521841843535873, [(0, 1)]), (27805293851136471018242049, [(0, 1)]), (29014219670751100192948225, [(0, 1)]), (33849922949209616891772928, [(2, 1)]), (12089258196146291747061761, [(1, 1)]), (35058848768824246066479104, [(3, 1024), (16, 1073741824)])], [(0, [(0, 1)]), (650, [(0, (-1))]), (0, [(1, 1)]), (650, [(1, (-1))]), (0, [(3, 1)]), (6, [(3, (-1))]), (0, [(16, 1)]), (1099511627775, [(16, (-1))]), (0, [(1, (-1)), (4, 1)]), (0, [(1, 1), (4, (-1))]), ((-2), [(5, 1)]), (2, [(5, (-1))]), (0, [(6, 1)]), (0, [(2, (-1)), (10, 1)]), (0, [(2, 1), (10, (-1))]), (0, [(2, 1)]), (2, [(2, (-1))]), (0, [(3, (-1)), (7, 1)]), (0, [(3, 1), (7, (-1))])], [(0, [(15, 1), (17, (-1))]), (0, [(15, (-1)), (17, 1)]), (0, [(7, (-1)), (11, 1)]), (0, [(7, 1), (11, (-1))]), (0, [(8, (-1)), (12, 1)]), (0, [(8, 1), (12, (-1))]), (0, [(9, (-1)), (13, 1)]), (0, [(9, 1), (13, (-1))]), ((-1), [(10, (-1)), (14, 1)]), (1, [(10, 1), (14, (-1))])]) := by
  refine t_okI fun v hr hp => ?_
  obtain ⟨rI, rY, rP, rA, rB, rC, rD, rE, rF, rG, rH, rN, rV, rX, -⟩ := hr
  obtain ⟨p0, p1, p2, p3, p4, p5, p6, p7, p8, p9, p10, p11, p12, p13, p14, p15, p16, p17, p18, -⟩ := hp
  have p0 : 0 ≤ 0 + (1 * v 0 + (0)) := p0
  have p1 : 0 ≤ 650 + ((-1) * v 0 + (0)) := p1
  have p2 : 0 ≤ 0 + (1 * v 1 + (0)) := p2
  have p3 : 0 ≤ 650 + ((-1) * v 1 + (0)) := p3
  have p4 : 0 ≤ 0 + (1 * v 3 + (0)) := p4
  have p5 : 0 ≤ 6 + ((-1) * v 3 + (0)) := p5
  have p6 : 0 ≤ 0 + (1 * v 16 + (0)) := p6
  have p7 : 0 ≤ 1099511627775 + ((-1) * v 16 + (0)) := p7
  have p8 : 0 ≤ 0 + ((-1) * v 1 + (1 * v 4 + (0))) := p8
  have p9 : 0 ≤ 0 + (1 * v 1 + ((-1) * v 4 + (0))) := p9
  have p10 : 0 ≤ (-2) + (1 * v 5 + (0)) := p10
  have p11 : 0 ≤ 2 + ((-1) * v 5 + (0)) := p11
  have p12 : 0 ≤ 0 + (1 * v 6 + (0)) := p12
  have p13 : 0 ≤ 0 + ((-1) * v 2 + (1 * v 10 + (0))) := p13
  have p14 : 0 ≤ 0 + (1 * v 2 + ((-1) * v 10 + (0))) := p14
  have p15 : 0 ≤ 0 + (1 * v 2 + (0)) := p15
  have p16 : 0 ≤ 2 + ((-1) * v 2 + (0)) := p16
  have p17 : 0 ≤ 0 + ((-1) * v 3 + (1 * v 7 + (0))) := p17
  have p18 : 0 ≤ 0 + (1 * v 3 + ((-1) * v 7 + (0))) := p18
  obtain ⟨nm, hm⟩ : ∃ n : Nat, v 0 = (n : Int) := ⟨(v 0).toNat, by omega⟩
  obtain ⟨ni, hi⟩ : ∃ n : Nat, v 1 = (n : Int) := ⟨(v 1).toNat, by omega⟩
  obtain ⟨nb, hb⟩ : ∃ n : Nat, v 2 = (n : Int) := ⟨(v 2).toNat, by omega⟩
  obtain ⟨nt, ht⟩ : ∃ n : Nat, v 3 = (n : Int) := ⟨(v 3).toNat, by omega⟩
  have rI : ∃ j : Nat, 24178516392292583494123520 + (1 * v 0 + (0)) = (j : Int) ∧ c_gv j (g j) = v 4 := rI
  have eI := t_g20 h nm (by omega) rI (by omega)
  have rY : ∃ j : Nat, 13298184015760920921767936 + (1 * v 1 + (0)) = (j : Int) ∧ c_gv j (g j) = v 5 := rY
  have eY := t_g11 h ni (by omega) rY (by omega)
  have rP : ∃ j : Nat, 43521329506126650289422336 + (1 * v 0 + (0)) = (j : Int) ∧ c_gv j (g j) = v 6 := rP
  have eP := t_g36 h nm (by omega) rP (by omega)
  have rA : ∃ j : Nat, 25387442211907212668829696 + (1 * v 0 + (0)) = (j : Int) ∧ c_gv j (g j) = v 7 := rA
  have eA := t_g21 h nm (by omega) rA (by omega)
  have rB : ∃ j : Nat, 26596368031521841843535872 + (1 * v 0 + (0)) = (j : Int) ∧ c_gv j (g j) = v 8 := rB
  have eB := t_g22 h nm (by omega) rB (by omega)
  have rC : ∃ j : Nat, 27805293851136471018242048 + (1 * v 0 + (0)) = (j : Int) ∧ c_gv j (g j) = v 9 := rC
  have eC := t_g23 h nm (by omega) rC (by omega)
  have rD : ∃ j : Nat, 29014219670751100192948224 + (1 * v 0 + (0)) = (j : Int) ∧ c_gv j (g j) = v 10 := rD
  have eD := t_g24 h nm (by omega) rD (by omega)
  have rE : ∃ j : Nat, 25387442211907212668829697 + (1 * v 0 + (0)) = (j : Int) ∧ c_gv j (g j) = v 11 := rE
  have eE := t_g21 h (nm+1) (by omega) rE (by omega)
  have rF : ∃ j : Nat, 26596368031521841843535873 + (1 * v 0 + (0)) = (j : Int) ∧ c_gv j (g j) = v 12 := rF
  have eF := t_g22 h (nm+1) (by omega) rF (by omega)
  have rG : ∃ j : Nat, 27805293851136471018242049 + (1 * v 0 + (0)) = (j : Int) ∧ c_gv j (g j) = v 13 := rG
  have eG := t_g23 h (nm+1) (by omega) rG (by omega)
  have rH : ∃ j : Nat, 29014219670751100192948225 + (1 * v 0 + (0)) = (j : Int) ∧ c_gv j (g j) = v 14 := rH
  have eH := t_g24 h (nm+1) (by omega) rH (by omega)
  have rN : ∃ j : Nat, 33849922949209616891772928 + (1 * v 2 + (0)) = (j : Int) ∧ c_gv j (g j) = v 15 := rN
  have eN := t_g28 h nb (by omega) rN (by omega)
  have rV : ∃ j : Nat, 12089258196146291747061761 + (1 * v 1 + (0)) = (j : Int) ∧ c_gv j (g j) = v 16 := rV
  have eV := t_g10 h (ni+1) (by omega) rV (by omega)
  have rX : ∃ j : Nat, 35058848768824246066479104 + (1024 * v 3 + (1073741824 * v 16 + (0))) = (j : Int) ∧ c_gv j (g j) = v 17 := rX
  obtain ⟨nV, hV⟩ : ∃ n : Nat, v 16 = (n : Int) := ⟨(v 16).toNat, by omega⟩
  have eX := t_g29 h 0 nt nV (by omega) (by omega) (by omega) rX (by omega)
  obtain ⟨s, hs, rfl⟩ := t_ix_s (X := t_tx g) (m := nm) (i := ni) (by omega)
  have ck := t_ky_k (X := t_tx g) (i := s.1) (by omega)
  obtain ⟨s1, hp, h1⟩ := t_nxt (X := t_tx g) hs (by omega) (by omega)
  have hl := t_la_pre (t_G_ok h) h1 (by omega)
  rw [t_cn_s hs] at eA eB eC eD
  rw [t_cn_s h1] at eE eF eG eH
  rcases t_stp_is (t_G_ok h) hp with ⟨y, a1, a2, rfl⟩ | ⟨y, a1, a2, rfl⟩ | ⟨y, a1, rfl⟩ | ⟨y, a1, a2, rfl⟩
  · exfalso
    omega
  · exfalso
    omega
  · have bl : v 14 = (s.2.2.2.2.length : Int) + 1 := by
      rw [eH]
      show (((s.2.2.2.2 ++ [t_at0 s.2.1 (t_v (t_tx g) (s.1 + 1)) 0]).length : Nat) : Int) = _
      rw [List.length_append]
      rfl
    have bt : v 11 = (s.2.1.length : Int) := eE
    have bk : v 12 = (s.2.2.1.length : Int) := eF
    have bl : v 13 = (s.2.2.2.1.length : Int) := eG
    have hn : (s.2.2.2.2 ++ [t_at0 s.2.1 (t_v (t_tx g) (s.1 + 1)) 0]) <+: (t_la (t_tx g) 700).2.2.2.2 := hl.2.2.2
    have hx : t_nth (t_la (t_tx g) 700).2.2.2.2 nb = t_at0 s.2.1 (t_v (t_tx g) (s.1 + 1)) 0 := t_nth_some (by
      rw [t_pre_nth hn (by rw [List.length_append]; show nb < s.2.2.2.2.length + 1; omega), show nb = s.2.2.2.2.length by omega, List.getElem?_append_right (Nat.le_refl _), Nat.sub_self]
      rfl)
    have cx : nt = s.2.1.length := by omega
    rw [cx] at eX
    rw [t_fd_pre (t_la_pre (t_G_ok h) hs (by omega)).1, show (nV : Int) = t_v (t_tx g) (s.1 + 1) by omega] at eX
    have cb := t_at_bd s.2.1 (t_v (t_tx g) (s.1 + 1)) 0
    have cs := t_st_bd (t_G_ok h) nm s hs
    rw [hx, t_cl_id (by omega)] at eN
    exact ⟨(by show 0 ≤ 0 + (1 * v 15 + ((-1) * v 17 + (0))); omega), (by show 0 ≤ 0 + ((-1) * v 15 + (1 * v 17 + (0))); omega), (by show 0 ≤ 0 + ((-1) * v 7 + (1 * v 11 + (0))); omega), (by show 0 ≤ 0 + (1 * v 7 + ((-1) * v 11 + (0))); omega), (by show 0 ≤ 0 + ((-1) * v 8 + (1 * v 12 + (0))); omega), (by show 0 ≤ 0 + (1 * v 8 + ((-1) * v 12 + (0))); omega), (by show 0 ≤ 0 + ((-1) * v 9 + (1 * v 13 + (0))); omega), (by show 0 ≤ 0 + (1 * v 9 + ((-1) * v 13 + (0))); omega), (by show 0 ≤ (-1) + ((-1) * v 10 + (1 * v 14 + (0))); omega), (by show 0 ≤ 1 + (1 * v 10 + ((-1) * v 14 + (0))); omega), trivial⟩
  · exfalso
    omega
-- ansE
theorem t_q168 {g : Nat → Int} (h : t_G g) : t_ok g 2 ([(24178516392292583494123520, [(0, 1)]), (9671406556917033397649408, [(1, 1)]), (25387442211907212668829696, [(0, 1)]), (39894552047282762765303808, [])], [(0, [(0, 1)]), (650, [(0, (-1))]), (0, [(1, 1)]), (650, [(1, (-1))]), (0, [(1, (-1)), (2, 1)]), (0, [(1, 1), (2, (-1))]), (0, [(3, 1)]), (0, [(3, (-1))])], [(0, [(4, (-1)), (5, 1)]), (0, [(4, 1), (5, (-1))])]) := by
  refine t_okI fun v hr hp => ?_
  obtain ⟨rI, rK, rA, rZ, -⟩ := hr
  obtain ⟨p0, p1, p2, p3, p4, p5, p6, p7, -⟩ := hp
  have p0 : 0 ≤ 0 + (1 * v 0 + (0)) := p0
  have p1 : 0 ≤ 650 + ((-1) * v 0 + (0)) := p1
  have p2 : 0 ≤ 0 + (1 * v 1 + (0)) := p2
  have p3 : 0 ≤ 650 + ((-1) * v 1 + (0)) := p3
  have p4 : 0 ≤ 0 + ((-1) * v 1 + (1 * v 2 + (0))) := p4
  have p5 : 0 ≤ 0 + (1 * v 1 + ((-1) * v 2 + (0))) := p5
  have p6 : 0 ≤ 0 + (1 * v 3 + (0)) := p6
  have p7 : 0 ≤ 0 + ((-1) * v 3 + (0)) := p7
  obtain ⟨nm, hm⟩ : ∃ n : Nat, v 0 = (n : Int) := ⟨(v 0).toNat, by omega⟩
  obtain ⟨ni, hi⟩ : ∃ n : Nat, v 1 = (n : Int) := ⟨(v 1).toNat, by omega⟩
  have rI : ∃ j : Nat, 24178516392292583494123520 + (1 * v 0 + (0)) = (j : Int) ∧ c_gv j (g j) = v 2 := rI
  have eI := t_g20 h nm (by omega) rI (by omega)
  have rK : ∃ j : Nat, 9671406556917033397649408 + (1 * v 1 + (0)) = (j : Int) ∧ c_gv j (g j) = v 3 := rK
  have eK := t_g8 h ni (by omega) rK (by omega)
  have rA : ∃ j : Nat, 25387442211907212668829696 + (1 * v 0 + (0)) = (j : Int) ∧ c_gv j (g j) = v 4 := rA
  have eA := t_g21 h nm (by omega) rA (by omega)
  have rZ : ∃ j : Nat, 39894552047282762765303808 + (0) = (j : Int) ∧ c_gv j (g j) = v 5 := rZ
  have eZ := t_g33 h   rZ (by omega)
  obtain ⟨s, hs, rfl⟩ := t_ix_s (X := t_tx g) (m := nm) (i := ni) (by omega)
  have c := t_ans_E (X := t_tx g) hs (by omega) (by omega)
  rw [t_cn_s hs] at eA
  exact ⟨(by show 0 ≤ 0 + ((-1) * v 4 + (1 * v 5 + (0))); omega), (by show 0 ≤ 0 + (1 * v 4 + ((-1) * v 5 + (0))); omega), trivial⟩
-- ansF
theorem t_q169 {g : Nat → Int} (h : t_G g) : t_ok g 2 ([(24178516392292583494123520, [(0, 1)]), (9671406556917033397649408, [(1, 1)]), (43521329506126650289422336, [(0, 1)]), (39894552047282762765303808, [])], [(0, [(0, 1)]), (650, [(0, (-1))]), (0, [(1, 1)]), (650, [(1, (-1))]), (0, [(1, (-1)), (2, 1)]), (0, [(1, 1), (2, (-1))]), ((-1), [(3, 1)]), (1, [(4, 1)]), ((-1), [(4, (-1))])], [(1, [(5, 1)]), ((-1), [(5, (-1))])]) := by
  refine t_okI fun v hr hp => ?_
  obtain ⟨rI, rK, rP, rZ, -⟩ := hr
  obtain ⟨p0, p1, p2, p3, p4, p5, p6, p7, p8, -⟩ := hp
  have p0 : 0 ≤ 0 + (1 * v 0 + (0)) := p0
  have p1 : 0 ≤ 650 + ((-1) * v 0 + (0)) := p1
  have p2 : 0 ≤ 0 + (1 * v 1 + (0)) := p2
  have p3 : 0 ≤ 650 + ((-1) * v 1 + (0)) := p3
  have p4 : 0 ≤ 0 + ((-1) * v 1 + (1 * v 2 + (0))) := p4
  have p5 : 0 ≤ 0 + (1 * v 1 + ((-1) * v 2 + (0))) := p5
  have p6 : 0 ≤ (-1) + (1 * v 3 + (0)) := p6
  have p7 : 0 ≤ 1 + (1 * v 4 + (0)) := p7
  have p8 : 0 ≤ (-1) + ((-1) * v 4 + (0)) := p8
  obtain ⟨nm, hm⟩ : ∃ n : Nat, v 0 = (n : Int) := ⟨(v 0).toNat, by omega⟩
  obtain ⟨ni, hi⟩ : ∃ n : Nat, v 1 = (n : Int) := ⟨(v 1).toNat, by omega⟩
  have rI : ∃ j : Nat, 24178516392292583494123520 + (1 * v 0 + (0)) = (j : Int) ∧ c_gv j (g j) = v 2 := rI
  have eI := t_g20 h nm (by omega) rI (by omega)
  have rK : ∃ j : Nat, 9671406556917033397649408 + (1 * v 1 + (0)) = (j : Int) ∧ c_gv j (g j) = v 3 := rK
  have eK := t_g8 h ni (by omega) rK (by omega)
  have rP : ∃ j : Nat, 43521329506126650289422336 + (1 * v 0 + (0)) = (j : Int) ∧ c_gv j (g j) = v 4 := rP
  have eP := t_g36 h nm (by omega) rP (by omega)
  have rZ : ∃ j : Nat, 39894552047282762765303808 + (0) = (j : Int) ∧ c_gv j (g j) = v 5 := rZ
  have eZ := t_g33 h   rZ (by omega)
  obtain ⟨s, hs, rfl⟩ := t_ix_s (X := t_tx g) (m := nm) (i := ni) (by omega)
  have c := t_ans_F (X := t_tx g) hs (by omega) (t_pt_n hs (by omega)) (by omega)
  exact ⟨(by show 0 ≤ 1 + (1 * v 5 + (0)); omega), (by show 0 ≤ (-1) + ((-1) * v 5 + (0)); omega), trivial⟩
-- cgF
theorem t_q170 {g : Nat → Int} (h : t_G g) : t_ok g 3 ([(35058848768824246066479104, [(0, 1024), (1, 1073741824)]), (35058848768824246066479104, [(0, 1024), (2, 1073741824)])], [(0, [(0, 1)]), (6, [(0, (-1))]), (0, [(1, 1)]), (1099511627775, [(1, (-1))]), (0, [(1, (-1)), (2, 1)]), (0, [(1, 1), (2, (-1))])], [(0, [(3, 1), (4, (-1))]), (0, [(3, (-1)), (4, 1)])]) := by
  refine t_okI fun v hr hp => ?_
  obtain ⟨rA, rB, -⟩ := hr
  obtain ⟨p0, p1, p2, p3, p4, p5, -⟩ := hp
  have p0 : 0 ≤ 0 + (1 * v 0 + (0)) := p0
  have p1 : 0 ≤ 6 + ((-1) * v 0 + (0)) := p1
  have p2 : 0 ≤ 0 + (1 * v 1 + (0)) := p2
  have p3 : 0 ≤ 1099511627775 + ((-1) * v 1 + (0)) := p3
  have p4 : 0 ≤ 0 + ((-1) * v 1 + (1 * v 2 + (0))) := p4
  have p5 : 0 ≤ 0 + (1 * v 1 + ((-1) * v 2 + (0))) := p5
  obtain ⟨nt, ht⟩ : ∃ n : Nat, v 0 = (n : Int) := ⟨(v 0).toNat, by omega⟩
  obtain ⟨nu, hu⟩ : ∃ n : Nat, v 1 = (n : Int) := ⟨(v 1).toNat, by omega⟩
  obtain ⟨nv, hv⟩ : ∃ n : Nat, v 2 = (n : Int) := ⟨(v 2).toNat, by omega⟩
  have rA : ∃ j : Nat, 35058848768824246066479104 + (1024 * v 0 + (1073741824 * v 1 + (0))) = (j : Int) ∧ c_gv j (g j) = v 3 := rA
  have eA := t_g29 h 0 nt nu (by omega) (by omega) (by omega) rA (by omega)
  have rB : ∃ j : Nat, 35058848768824246066479104 + (1024 * v 0 + (1073741824 * v 2 + (0))) = (j : Int) ∧ c_gv j (g j) = v 4 := rB
  have eB := t_g29 h 0 nt nv (by omega) (by omega) (by omega) rB (by omega)
  have c : nv = nu := by omega
  subst c
  exact ⟨(by show 0 ≤ 0 + (1 * v 3 + ((-1) * v 4 + (0))); omega), (by show 0 ≤ 0 + ((-1) * v 3 + (1 * v 4 + (0))); omega), trivial⟩
-- cgN
theorem t_q171 {g : Nat → Int} (h : t_G g) : t_ok g 2 ([(21760664753063325144711168, [(0, 1)]), (21760664753063325144711168, [(1, 1)])], [(0, [(0, 1)]), (700, [(0, (-1))]), (0, [(0, (-1)), (1, 1)]), (0, [(0, 1), (1, (-1))])], [(0, [(2, 1), (3, (-1))]), (0, [(2, (-1)), (3, 1)])]) := by
  refine t_okI fun v hr hp => ?_
  obtain ⟨rA, rB, -⟩ := hr
  obtain ⟨p0, p1, p2, p3, -⟩ := hp
  have p0 : 0 ≤ 0 + (1 * v 0 + (0)) := p0
  have p1 : 0 ≤ 700 + ((-1) * v 0 + (0)) := p1
  have p2 : 0 ≤ 0 + ((-1) * v 0 + (1 * v 1 + (0))) := p2
  have p3 : 0 ≤ 0 + (1 * v 0 + ((-1) * v 1 + (0))) := p3
  obtain ⟨ni, hi⟩ : ∃ n : Nat, v 0 = (n : Int) := ⟨(v 0).toNat, by omega⟩
  obtain ⟨nj, hj⟩ : ∃ n : Nat, v 1 = (n : Int) := ⟨(v 1).toNat, by omega⟩
  have rA : ∃ j : Nat, 21760664753063325144711168 + (1 * v 0 + (0)) = (j : Int) ∧ c_gv j (g j) = v 2 := rA
  have eA := t_g18 h ni (by omega) rA (by omega)
  have rB : ∃ j : Nat, 21760664753063325144711168 + (1 * v 1 + (0)) = (j : Int) ∧ c_gv j (g j) = v 3 := rB
  have eB := t_g18 h nj (by omega) rB (by omega)
  have c : nj = ni := by omega
  subst c
  exact ⟨(by show 0 ≤ 0 + (1 * v 2 + ((-1) * v 3 + (0))); omega), (by show 0 ≤ 0 + ((-1) * v 2 + (1 * v 3 + (0))); omega), trivial⟩
-- cgD
theorem t_q172 {g : Nat → Int} (h : t_G g) : t_ok g 2 ([(20551738933448695970065408, [(0, 1)]), (20551738933448695970065408, [(1, 1)])], [(0, [(0, 1)]), (700, [(0, (-1))]), (0, [(0, (-1)), (1, 1)]), (0, [(0, 1), (1, (-1))])], [(0, [(2, 1), (3, (-1))]), (0, [(2, (-1)), (3, 1)])]) := by
  refine t_okI fun v hr hp => ?_
  obtain ⟨rA, rB, -⟩ := hr
  obtain ⟨p0, p1, p2, p3, -⟩ := hp
  have p0 : 0 ≤ 0 + (1 * v 0 + (0)) := p0
  have p1 : 0 ≤ 700 + ((-1) * v 0 + (0)) := p1
  have p2 : 0 ≤ 0 + ((-1) * v 0 + (1 * v 1 + (0))) := p2
  have p3 : 0 ≤ 0 + (1 * v 0 + ((-1) * v 1 + (0))) := p3
  obtain ⟨ni, hi⟩ : ∃ n : Nat, v 0 = (n : Int) := ⟨(v 0).toNat, by omega⟩
  obtain ⟨nj, hj⟩ : ∃ n : Nat, v 1 = (n : Int) := ⟨(v 1).toNat, by omega⟩
  have rA : ∃ j : Nat, 20551738933448695970065408 + (1 * v 0 + (0)) = (j : Int) ∧ c_gv j (g j) = v 2 := rA
  have eA := t_g17 h ni 59 (by omega) (by omega) rA (by omega)
  have rB : ∃ j : Nat, 20551738933448695970065408 + (1 * v 1 + (0)) = (j : Int) ∧ c_gv j (g j) = v 3 := rB
  have eB := t_g17 h nj 59 (by omega) (by omega) rB (by omega)
  have c : nj = ni := by omega
  subst c
  exact ⟨(by show 0 ≤ 0 + (1 * v 2 + ((-1) * v 3 + (0))); omega), (by show 0 ≤ 0 + ((-1) * v 2 + (1 * v 3 + (0))); omega), trivial⟩
-- ptG
theorem t_q173 {g : Nat → Int} (h : t_G g) : t_ok g 3 ([(24178516392292583494123520, [(0, 1)]), (43521329506126650289422336, [(0, 1)])], [(0, [(0, 1)]), (650, [(0, (-1))]), (0, [(2, (-1)), (4, 1)]), (0, [(2, 1), (4, (-1))]), (0, [(2, 1)]), (0, [(1, (-1)), (3, 1)]), (0, [(1, 1), (3, (-1))])], [((-3), [(1, (-1)), (2, 1)])]) := by
  refine t_okI fun v hr hp => ?_
  obtain ⟨rI, rP, -⟩ := hr
  obtain ⟨p0, p1, p2, p3, p4, p5, p6, -⟩ := hp
  have p0 : 0 ≤ 0 + (1 * v 0 + (0)) := p0
  have p1 : 0 ≤ 650 + ((-1) * v 0 + (0)) := p1
  have p2 : 0 ≤ 0 + ((-1) * v 2 + (1 * v 4 + (0))) := p2
  have p3 : 0 ≤ 0 + (1 * v 2 + ((-1) * v 4 + (0))) := p3
  have p4 : 0 ≤ 0 + (1 * v 2 + (0)) := p4
  have p5 : 0 ≤ 0 + ((-1) * v 1 + (1 * v 3 + (0))) := p5
  have p6 : 0 ≤ 0 + (1 * v 1 + ((-1) * v 3 + (0))) := p6
  obtain ⟨nm, hm⟩ : ∃ n : Nat, v 0 = (n : Int) := ⟨(v 0).toNat, by omega⟩
  obtain ⟨ni, hi⟩ : ∃ n : Nat, v 1 = (n : Int) := ⟨(v 1).toNat, by omega⟩
  obtain ⟨nn, hn⟩ : ∃ n : Nat, v 2 = (n : Int) := ⟨(v 2).toNat, by omega⟩
  have rI : ∃ j : Nat, 24178516392292583494123520 + (1 * v 0 + (0)) = (j : Int) ∧ c_gv j (g j) = v 3 := rI
  have eI := t_g20 h nm (by omega) rI (by omega)
  have rP : ∃ j : Nat, 43521329506126650289422336 + (1 * v 0 + (0)) = (j : Int) ∧ c_gv j (g j) = v 4 := rP
  have eP := t_g36 h nm (by omega) rP (by omega)
  obtain ⟨s, hs, h2⟩ := t_pt_some (X := t_tx g) (m := nm) (by omega)
  obtain ⟨s1, hp, h3⟩ := h2
  have c := t_stp_pre (t_G_ok h) hp
  have c2 : t_ix (t_tx g) nm = (s.1 : Int) := by
    unfold t_ix
    rw [hs]
  exact ⟨(by show 0 ≤ (-3) + ((-1) * v 1 + (1 * v 2 + (0))); omega), trivial⟩
-- k600
theorem t_q174 {g : Nat → Int} (h : t_G g) : t_ok g 1 ([(9671406556917033397649408, [(0, 1)])], [((-600), [(0, 1)]), (700, [(0, (-1))])], [(0, [(1, 1)]), (0, [(1, (-1))])]) := by
  refine t_okI fun v hr hp => ?_
  obtain ⟨rK, -⟩ := hr
  obtain ⟨p0, p1, -⟩ := hp
  have p0 : 0 ≤ (-600) + (1 * v 0 + (0)) := p0
  have p1 : 0 ≤ 700 + ((-1) * v 0 + (0)) := p1
  obtain ⟨ni, hi⟩ : ∃ n : Nat, v 0 = (n : Int) := ⟨(v 0).toNat, by omega⟩
  have rK : ∃ j : Nat, 9671406556917033397649408 + (1 * v 0 + (0)) = (j : Int) ∧ c_gv j (g j) = v 1 := rK
  have eK := t_g8 h ni (by omega) rK (by omega)
  have c := t_k600 (t_G_ok h) (i := ni) (by omega)
  exact ⟨(by show 0 ≤ 0 + (1 * v 1 + (0)); omega), (by show 0 ≤ 0 + ((-1) * v 1 + (0)); omega), trivial⟩
-- ts0
theorem t_q175 {g : Nat → Int} (h : t_G g) : t_ok g 1 ([(9671406556917033397649408, [(0, 1)]), (12089258196146291747061760, [(0, 1)]), (51983810243429054512365568, [(0, 1)]), (53192736063043683687071744, [(0, 1)]), (54401661882658312861777920, [(0, 1)]), (55610587702272942036484096, [(0, 1)]), (56819513521887571211190272, [(0, 1)]), (58028439341502200385896448, [(0, 1)])], [(0, [(0, 1)]), (700, [(0, (-1))]), (0, [(1, 1)]), (0, [(1, (-1))])], [(0, [(3, 1)]), (0, [(3, (-1))]), ((-8589934592), [(4, 1)]), (8589934592, [(4, (-1))]), (0, [(5, 1)]), (0, [(5, (-1))]), ((-1), [(6, 1)]), (1, [(6, (-1))]), (0, [(7, 1)]), (0, [(7, (-1))]), (0, [(8, 1)]), (0, [(8, (-1))])]) := by
  refine t_okI fun v hr hp => ?_
  obtain ⟨rK, rV, rA, rB, rC, rD, rL, rF, -⟩ := hr
  obtain ⟨p0, p1, p2, p3, -⟩ := hp
  have p0 : 0 ≤ 0 + (1 * v 0 + (0)) := p0
  have p1 : 0 ≤ 700 + ((-1) * v 0 + (0)) := p1
  have p2 : 0 ≤ 0 + (1 * v 1 + (0)) := p2
  have p3 : 0 ≤ 0 + ((-1) * v 1 + (0)) := p3
  obtain ⟨ni, hi⟩ : ∃ n : Nat, v 0 = (n : Int) := ⟨(v 0).toNat, by omega⟩
  have rK : ∃ j : Nat, 9671406556917033397649408 + (1 * v 0 + (0)) = (j : Int) ∧ c_gv j (g j) = v 1 := rK
  have eK := t_g8 h ni (by omega) rK (by omega)
  have rV : ∃ j : Nat, 12089258196146291747061760 + (1 * v 0 + (0)) = (j : Int) ∧ c_gv j (g j) = v 2 := rV
  have eV := t_g10 h ni (by omega) rV (by omega)
  have rA : ∃ j : Nat, 51983810243429054512365568 + (1 * v 0 + (0)) = (j : Int) ∧ c_gv j (g j) = v 3 := rA
  have eA := t_g43 h ni (by omega) rA (by omega)
  have rB : ∃ j : Nat, 53192736063043683687071744 + (1 * v 0 + (0)) = (j : Int) ∧ c_gv j (g j) = v 4 := rB
  have eB := t_g44 h ni (by omega) rB (by omega)
  have rC : ∃ j : Nat, 54401661882658312861777920 + (1 * v 0 + (0)) = (j : Int) ∧ c_gv j (g j) = v 5 := rC
  have eC := t_g45 h ni (by omega) rC (by omega)
  have rD : ∃ j : Nat, 55610587702272942036484096 + (1 * v 0 + (0)) = (j : Int) ∧ c_gv j (g j) = v 6 := rD
  have eD := t_g46 h ni (by omega) rD (by omega)
  have rL : ∃ j : Nat, 56819513521887571211190272 + (1 * v 0 + (0)) = (j : Int) ∧ c_gv j (g j) = v 7 := rL
  have eL := t_g47 h ni (by omega) rL (by omega)
  have rF : ∃ j : Nat, 58028439341502200385896448 + (1 * v 0 + (0)) = (j : Int) ∧ c_gv j (g j) = v 8 := rF
  have eF := t_g48 h ni (by omega) rF (by omega)
  unfold t_vn at eA
  rw [if_neg (by omega)] at eA
  unfold t_dn at eB
  rw [if_neg (by omega)] at eB
  unfold t_vw at eC
  rw [if_neg (by omega)] at eC
  unfold t_dw at eD
  rw [if_neg (by omega)] at eD
  unfold t_ll at eL
  rw [if_neg (by omega)] at eL
  unfold t_d4 at eF
  rw [if_neg (by omega)] at eF
  exact ⟨(by show 0 ≤ 0 + (1 * v 3 + (0)); omega), (by show 0 ≤ 0 + ((-1) * v 3 + (0)); omega), (by show 0 ≤ (-8589934592) + (1 * v 4 + (0)); omega), (by show 0 ≤ 8589934592 + ((-1) * v 4 + (0)); omega), (by show 0 ≤ 0 + (1 * v 5 + (0)); omega), (by show 0 ≤ 0 + ((-1) * v 5 + (0)); omega), (by show 0 ≤ (-1) + (1 * v 6 + (0)); omega), (by show 0 ≤ 1 + ((-1) * v 6 + (0)); omega), (by show 0 ≤ 0 + (1 * v 7 + (0)); omega), (by show 0 ≤ 0 + ((-1) * v 7 + (0)); omega), (by show 0 ≤ 0 + (1 * v 8 + (0)); omega), (by show 0 ≤ 0 + ((-1) * v 8 + (0)); omega), trivial⟩
-- ts1a
theorem t_q176 {g : Nat → Int} (h : t_G g) : t_ok g 1 ([(9671406556917033397649408, [(0, 1)]), (12089258196146291747061760, [(0, 1)]), (51983810243429054512365568, [(0, 1)]), (53192736063043683687071744, [(0, 1)]), (54401661882658312861777920, [(0, 1)]), (55610587702272942036484096, [(0, 1)]), (56819513521887571211190272, [(0, 1)]), (58028439341502200385896448, [(0, 1)]), (8462480737302404222943232, [(0, 1)]), (10880332376531662572355585, [(0, 1)])], [(0, [(0, 1)]), (700, [(0, (-1))]), ((-1), [(1, 1)]), (1, [(1, (-1))]), ((-1), [(2, 1)])], [((-8589934592), [(4, 1)]), (8589934592, [(4, (-1))]), (0, [(3, 1)]), (0, [(3, (-1))]), (0, [(2, (-1)), (5, 1)]), (0, [(2, 1), (5, (-1))]), (0, [(6, 1)]), (0, [(6, (-1))]), (0, [(7, 1), (9, 1), (10, (-1))]), (0, [(7, (-1)), (9, (-1)), (10, 1)]), (8, [(7, (-1))]), (0, [(8, 1)]), (0, [(8, (-1))])]) := by
  refine t_okI fun v hr hp => ?_
  obtain ⟨rK, rV, rA, rB, rC, rD, rL, rF, rP, rE, -⟩ := hr
  obtain ⟨p0, p1, p2, p3, p4, -⟩ := hp
  have p0 : 0 ≤ 0 + (1 * v 0 + (0)) := p0
  have p1 : 0 ≤ 700 + ((-1) * v 0 + (0)) := p1
  have p2 : 0 ≤ (-1) + (1 * v 1 + (0)) := p2
  have p3 : 0 ≤ 1 + ((-1) * v 1 + (0)) := p3
  have p4 : 0 ≤ (-1) + (1 * v 2 + (0)) := p4
  obtain ⟨ni, hi⟩ : ∃ n : Nat, v 0 = (n : Int) := ⟨(v 0).toNat, by omega⟩
  have rK : ∃ j : Nat, 9671406556917033397649408 + (1 * v 0 + (0)) = (j : Int) ∧ c_gv j (g j) = v 1 := rK
  have eK := t_g8 h ni (by omega) rK (by omega)
  have rV : ∃ j : Nat, 12089258196146291747061760 + (1 * v 0 + (0)) = (j : Int) ∧ c_gv j (g j) = v 2 := rV
  have eV := t_g10 h ni (by omega) rV (by omega)
  have rA : ∃ j : Nat, 51983810243429054512365568 + (1 * v 0 + (0)) = (j : Int) ∧ c_gv j (g j) = v 3 := rA
  have eA := t_g43 h ni (by omega) rA (by omega)
  have rB : ∃ j : Nat, 53192736063043683687071744 + (1 * v 0 + (0)) = (j : Int) ∧ c_gv j (g j) = v 4 := rB
  have eB := t_g44 h ni (by omega) rB (by omega)
  have rC : ∃ j : Nat, 54401661882658312861777920 + (1 * v 0 + (0)) = (j : Int) ∧ c_gv j (g j) = v 5 := rC
  have eC := t_g45 h ni (by omega) rC (by omega)
  have rD : ∃ j : Nat, 55610587702272942036484096 + (1 * v 0 + (0)) = (j : Int) ∧ c_gv j (g j) = v 6 := rD
  have eD := t_g46 h ni (by omega) rD (by omega)
  have rL : ∃ j : Nat, 56819513521887571211190272 + (1 * v 0 + (0)) = (j : Int) ∧ c_gv j (g j) = v 7 := rL
  have eL := t_g47 h ni (by omega) rL (by omega)
  have rF : ∃ j : Nat, 58028439341502200385896448 + (1 * v 0 + (0)) = (j : Int) ∧ c_gv j (g j) = v 8 := rF
  have eF := t_g48 h ni (by omega) rF (by omega)
  have rP : ∃ j : Nat, 8462480737302404222943232 + (1 * v 0 + (0)) = (j : Int) ∧ c_gv j (g j) = v 9 := rP
  have eP := t_g7 h ni (by omega) rP (by omega)
  have rE : ∃ j : Nat, 10880332376531662572355585 + (1 * v 0 + (0)) = (j : Int) ∧ c_gv j (g j) = v 10 := rE
  have eE := t_g9 h (ni+1) (by omega) rE (by omega)
  unfold t_vn at eA
  rw [if_neg (by omega)] at eA
  unfold t_dn at eB
  rw [if_neg (by omega)] at eB
  unfold t_vw at eC
  rw [if_pos (by omega), if_neg (by omega)] at eC
  unfold t_dw at eD
  rw [if_pos (by omega)] at eD
  unfold t_ll at eL
  rw [if_pos (by omega)] at eL
  unfold t_d4 at eF
  rw [if_neg (by omega)] at eF
  have cv := t_v_bd (X := t_tx g) ni (t_G_by h)
  exact ⟨(by show 0 ≤ (-8589934592) + (1 * v 4 + (0)); omega), (by show 0 ≤ 8589934592 + ((-1) * v 4 + (0)); omega), (by show 0 ≤ 0 + (1 * v 3 + (0)); omega), (by show 0 ≤ 0 + ((-1) * v 3 + (0)); omega), (by show 0 ≤ 0 + ((-1) * v 2 + (1 * v 5 + (0))); omega), (by show 0 ≤ 0 + (1 * v 2 + ((-1) * v 5 + (0))); omega), (by show 0 ≤ 0 + (1 * v 6 + (0)); omega), (by show 0 ≤ 0 + ((-1) * v 6 + (0)); omega), (by show 0 ≤ 0 + (1 * v 7 + (1 * v 9 + ((-1) * v 10 + (0)))); omega), (by show 0 ≤ 0 + ((-1) * v 7 + ((-1) * v 9 + (1 * v 10 + (0)))); omega), (by show 0 ≤ 8 + ((-1) * v 7 + (0)); omega), (by show 0 ≤ 0 + (1 * v 8 + (0)); omega), (by show 0 ≤ 0 + ((-1) * v 8 + (0)); omega), trivial⟩
-- ts1b
theorem t_q177 {g : Nat → Int} (h : t_G g) : t_ok g 1 ([(9671406556917033397649408, [(0, 1)]), (12089258196146291747061760, [(0, 1)]), (51983810243429054512365568, [(0, 1)]), (53192736063043683687071744, [(0, 1)]), (54401661882658312861777920, [(0, 1)]), (55610587702272942036484096, [(0, 1)]), (56819513521887571211190272, [(0, 1)]), (58028439341502200385896448, [(0, 1)]), (8462480737302404222943232, [(0, 1)]), (10880332376531662572355585, [(0, 1)])], [(0, [(0, 1)]), (700, [(0, (-1))]), ((-1), [(1, 1)]), (1, [(1, (-1))]), (0, [(2, 1)]), (0, [(2, (-1))])], [((-8589934592), [(4, 1)]), (8589934592, [(4, (-1))]), (0, [(3, 1)]), (0, [(3, (-1))]), (1, [(5, 1)]), ((-1), [(5, (-1))]), (0, [(6, 1)]), (0, [(6, (-1))]), (0, [(7, 1), (9, 1), (10, (-1))]), (0, [(7, (-1)), (9, (-1)), (10, 1)]), ((-9), [(7, 1)]), (0, [(8, 1)]), (0, [(8, (-1))])]) := by
  refine t_okI fun v hr hp => ?_
  obtain ⟨rK, rV, rA, rB, rC, rD, rL, rF, rP, rE, -⟩ := hr
  obtain ⟨p0, p1, p2, p3, p4, p5, -⟩ := hp
  have p0 : 0 ≤ 0 + (1 * v 0 + (0)) := p0
  have p1 : 0 ≤ 700 + ((-1) * v 0 + (0)) := p1
  have p2 : 0 ≤ (-1) + (1 * v 1 + (0)) := p2
  have p3 : 0 ≤ 1 + ((-1) * v 1 + (0)) := p3
  have p4 : 0 ≤ 0 + (1 * v 2 + (0)) := p4
  have p5 : 0 ≤ 0 + ((-1) * v 2 + (0)) := p5
  obtain ⟨ni, hi⟩ : ∃ n : Nat, v 0 = (n : Int) := ⟨(v 0).toNat, by omega⟩
  have rK : ∃ j : Nat, 9671406556917033397649408 + (1 * v 0 + (0)) = (j : Int) ∧ c_gv j (g j) = v 1 := rK
  have eK := t_g8 h ni (by omega) rK (by omega)
  have rV : ∃ j : Nat, 12089258196146291747061760 + (1 * v 0 + (0)) = (j : Int) ∧ c_gv j (g j) = v 2 := rV
  have eV := t_g10 h ni (by omega) rV (by omega)
  have rA : ∃ j : Nat, 51983810243429054512365568 + (1 * v 0 + (0)) = (j : Int) ∧ c_gv j (g j) = v 3 := rA
  have eA := t_g43 h ni (by omega) rA (by omega)
  have rB : ∃ j : Nat, 53192736063043683687071744 + (1 * v 0 + (0)) = (j : Int) ∧ c_gv j (g j) = v 4 := rB
  have eB := t_g44 h ni (by omega) rB (by omega)
  have rC : ∃ j : Nat, 54401661882658312861777920 + (1 * v 0 + (0)) = (j : Int) ∧ c_gv j (g j) = v 5 := rC
  have eC := t_g45 h ni (by omega) rC (by omega)
  have rD : ∃ j : Nat, 55610587702272942036484096 + (1 * v 0 + (0)) = (j : Int) ∧ c_gv j (g j) = v 6 := rD
  have eD := t_g46 h ni (by omega) rD (by omega)
  have rL : ∃ j : Nat, 56819513521887571211190272 + (1 * v 0 + (0)) = (j : Int) ∧ c_gv j (g j) = v 7 := rL
  have eL := t_g47 h ni (by omega) rL (by omega)
  have rF : ∃ j : Nat, 58028439341502200385896448 + (1 * v 0 + (0)) = (j : Int) ∧ c_gv j (g j) = v 8 := rF
  have eF := t_g48 h ni (by omega) rF (by omega)
  have rP : ∃ j : Nat, 8462480737302404222943232 + (1 * v 0 + (0)) = (j : Int) ∧ c_gv j (g j) = v 9 := rP
  have eP := t_g7 h ni (by omega) rP (by omega)
  have rE : ∃ j : Nat, 10880332376531662572355585 + (1 * v 0 + (0)) = (j : Int) ∧ c_gv j (g j) = v 10 := rE
  have eE := t_g9 h (ni+1) (by omega) rE (by omega)
  unfold t_vn at eA
  rw [if_neg (by omega)] at eA
  unfold t_dn at eB
  rw [if_neg (by omega)] at eB
  unfold t_vw at eC
  rw [if_pos (by omega), if_pos (by omega)] at eC
  unfold t_dw at eD
  rw [if_pos (by omega)] at eD
  unfold t_ll at eL
  rw [if_pos (by omega)] at eL
  unfold t_d4 at eF
  rw [if_neg (by omega)] at eF
  have cv := t_v_bd (X := t_tx g) ni (t_G_by h)
  exact ⟨(by show 0 ≤ (-8589934592) + (1 * v 4 + (0)); omega), (by show 0 ≤ 8589934592 + ((-1) * v 4 + (0)); omega), (by show 0 ≤ 0 + (1 * v 3 + (0)); omega), (by show 0 ≤ 0 + ((-1) * v 3 + (0)); omega), (by show 0 ≤ 1 + (1 * v 5 + (0)); omega), (by show 0 ≤ (-1) + ((-1) * v 5 + (0)); omega), (by show 0 ≤ 0 + (1 * v 6 + (0)); omega), (by show 0 ≤ 0 + ((-1) * v 6 + (0)); omega), (by show 0 ≤ 0 + (1 * v 7 + (1 * v 9 + ((-1) * v 10 + (0)))); omega), (by show 0 ≤ 0 + ((-1) * v 7 + ((-1) * v 9 + (1 * v 10 + (0)))); omega), (by show 0 ≤ (-9) + (1 * v 7 + (0)); omega), (by show 0 ≤ 0 + (1 * v 8 + (0)); omega), (by show 0 ≤ 0 + ((-1) * v 8 + (0)); omega), trivial⟩
-- ts2
theorem t_q178 {g : Nat → Int} (h : t_G g) : t_ok g 1 ([(9671406556917033397649408, [(0, 1)]), (12089258196146291747061760, [(0, 1)]), (51983810243429054512365568, [(0, 1)]), (53192736063043683687071744, [(0, 1)]), (54401661882658312861777920, [(0, 1)]), (55610587702272942036484096, [(0, 1)]), (56819513521887571211190272, [(0, 1)]), (58028439341502200385896448, [(0, 1)])], [(0, [(0, 1)]), (700, [(0, (-1))]), ((-2), [(1, 1)]), (2, [(1, (-1))])], [(0, [(2, (-1)), (3, 1)]), (0, [(2, 1), (3, (-1))]), (0, [(4, 1)]), (0, [(4, (-1))]), (0, [(5, 1)]), (0, [(5, (-1))]), ((-1), [(6, 1)]), (1, [(6, (-1))]), (0, [(7, 1)]), (0, [(7, (-1))]), (0, [(8, 1)]), (0, [(8, (-1))])]) := by
  refine t_okI fun v hr hp => ?_
  obtain ⟨rK, rV, rA, rB, rC, rD, rL, rF, -⟩ := hr
  obtain ⟨p0, p1, p2, p3, -⟩ := hp
  have p0 : 0 ≤ 0 + (1 * v 0 + (0)) := p0
  have p1 : 0 ≤ 700 + ((-1) * v 0 + (0)) := p1
  have p2 : 0 ≤ (-2) + (1 * v 1 + (0)) := p2
  have p3 : 0 ≤ 2 + ((-1) * v 1 + (0)) := p3
  obtain ⟨ni, hi⟩ : ∃ n : Nat, v 0 = (n : Int) := ⟨(v 0).toNat, by omega⟩
  have rK : ∃ j : Nat, 9671406556917033397649408 + (1 * v 0 + (0)) = (j : Int) ∧ c_gv j (g j) = v 1 := rK
  have eK := t_g8 h ni (by omega) rK (by omega)
  have rV : ∃ j : Nat, 12089258196146291747061760 + (1 * v 0 + (0)) = (j : Int) ∧ c_gv j (g j) = v 2 := rV
  have eV := t_g10 h ni (by omega) rV (by omega)
  have rA : ∃ j : Nat, 51983810243429054512365568 + (1 * v 0 + (0)) = (j : Int) ∧ c_gv j (g j) = v 3 := rA
  have eA := t_g43 h ni (by omega) rA (by omega)
  have rB : ∃ j : Nat, 53192736063043683687071744 + (1 * v 0 + (0)) = (j : Int) ∧ c_gv j (g j) = v 4 := rB
  have eB := t_g44 h ni (by omega) rB (by omega)
  have rC : ∃ j : Nat, 54401661882658312861777920 + (1 * v 0 + (0)) = (j : Int) ∧ c_gv j (g j) = v 5 := rC
  have eC := t_g45 h ni (by omega) rC (by omega)
  have rD : ∃ j : Nat, 55610587702272942036484096 + (1 * v 0 + (0)) = (j : Int) ∧ c_gv j (g j) = v 6 := rD
  have eD := t_g46 h ni (by omega) rD (by omega)
  have rL : ∃ j : Nat, 56819513521887571211190272 + (1 * v 0 + (0)) = (j : Int) ∧ c_gv j (g j) = v 7 := rL
  have eL := t_g47 h ni (by omega) rL (by omega)
  have rF : ∃ j : Nat, 58028439341502200385896448 + (1 * v 0 + (0)) = (j : Int) ∧ c_gv j (g j) = v 8 := rF
  have eF := t_g48 h ni (by omega) rF (by omega)
  unfold t_vn at eA
  rw [if_pos (by omega)] at eA
  unfold t_dn at eB
  rw [if_pos (by omega)] at eB
  unfold t_vw at eC
  rw [if_neg (by omega)] at eC
  unfold t_dw at eD
  rw [if_neg (by omega)] at eD
  unfold t_ll at eL
  rw [if_neg (by omega)] at eL
  unfold t_d4 at eF
  rw [if_neg (by omega)] at eF
  exact ⟨(by show 0 ≤ 0 + ((-1) * v 2 + (1 * v 3 + (0))); omega), (by show 0 ≤ 0 + (1 * v 2 + ((-1) * v 3 + (0))); omega), (by show 0 ≤ 0 + (1 * v 4 + (0)); omega), (by show 0 ≤ 0 + ((-1) * v 4 + (0)); omega), (by show 0 ≤ 0 + (1 * v 5 + (0)); omega), (by show 0 ≤ 0 + ((-1) * v 5 + (0)); omega), (by show 0 ≤ (-1) + (1 * v 6 + (0)); omega), (by show 0 ≤ 1 + ((-1) * v 6 + (0)); omega), (by show 0 ≤ 0 + (1 * v 7 + (0)); omega), (by show 0 ≤ 0 + ((-1) * v 7 + (0)); omega), (by show 0 ≤ 0 + (1 * v 8 + (0)); omega), (by show 0 ≤ 0 + ((-1) * v 8 + (0)); omega), trivial⟩
-- ts3
theorem t_q179 {g : Nat → Int} (h : t_G g) : t_ok g 1 ([(9671406556917033397649408, [(0, 1)]), (12089258196146291747061760, [(0, 1)]), (51983810243429054512365568, [(0, 1)]), (53192736063043683687071744, [(0, 1)]), (54401661882658312861777920, [(0, 1)]), (55610587702272942036484096, [(0, 1)]), (56819513521887571211190272, [(0, 1)]), (58028439341502200385896448, [(0, 1)])], [(0, [(0, 1)]), (700, [(0, (-1))]), ((-3), [(1, 1)]), (3, [(1, (-1))])], [(0, [(2, (-1)), (3, 1)]), (0, [(2, 1), (3, (-1))]), (0, [(4, 1)]), (0, [(4, (-1))]), (0, [(5, 1)]), (0, [(5, (-1))]), ((-1), [(6, 1)]), (1, [(6, (-1))]), (0, [(7, 1)]), (0, [(7, (-1))]), (0, [(8, 1)]), (0, [(8, (-1))])]) := by
  refine t_okI fun v hr hp => ?_
  obtain ⟨rK, rV, rA, rB, rC, rD, rL, rF, -⟩ := hr
  obtain ⟨p0, p1, p2, p3, -⟩ := hp
  have p0 : 0 ≤ 0 + (1 * v 0 + (0)) := p0
  have p1 : 0 ≤ 700 + ((-1) * v 0 + (0)) := p1
  have p2 : 0 ≤ (-3) + (1 * v 1 + (0)) := p2
  have p3 : 0 ≤ 3 + ((-1) * v 1 + (0)) := p3
  obtain ⟨ni, hi⟩ : ∃ n : Nat, v 0 = (n : Int) := ⟨(v 0).toNat, by omega⟩
  have rK : ∃ j : Nat, 9671406556917033397649408 + (1 * v 0 + (0)) = (j : Int) ∧ c_gv j (g j) = v 1 := rK
  have eK := t_g8 h ni (by omega) rK (by omega)
  have rV : ∃ j : Nat, 12089258196146291747061760 + (1 * v 0 + (0)) = (j : Int) ∧ c_gv j (g j) = v 2 := rV
  have eV := t_g10 h ni (by omega) rV (by omega)
  have rA : ∃ j : Nat, 51983810243429054512365568 + (1 * v 0 + (0)) = (j : Int) ∧ c_gv j (g j) = v 3 := rA
  have eA := t_g43 h ni (by omega) rA (by omega)
  have rB : ∃ j : Nat, 53192736063043683687071744 + (1 * v 0 + (0)) = (j : Int) ∧ c_gv j (g j) = v 4 := rB
  have eB := t_g44 h ni (by omega) rB (by omega)
  have rC : ∃ j : Nat, 54401661882658312861777920 + (1 * v 0 + (0)) = (j : Int) ∧ c_gv j (g j) = v 5 := rC
  have eC := t_g45 h ni (by omega) rC (by omega)
  have rD : ∃ j : Nat, 55610587702272942036484096 + (1 * v 0 + (0)) = (j : Int) ∧ c_gv j (g j) = v 6 := rD
  have eD := t_g46 h ni (by omega) rD (by omega)
  have rL : ∃ j : Nat, 56819513521887571211190272 + (1 * v 0 + (0)) = (j : Int) ∧ c_gv j (g j) = v 7 := rL
  have eL := t_g47 h ni (by omega) rL (by omega)
  have rF : ∃ j : Nat, 58028439341502200385896448 + (1 * v 0 + (0)) = (j : Int) ∧ c_gv j (g j) = v 8 := rF
  have eF := t_g48 h ni (by omega) rF (by omega)
  unfold t_vn at eA
  rw [if_pos (by omega)] at eA
  unfold t_dn at eB
  rw [if_pos (by omega)] at eB
  unfold t_vw at eC
  rw [if_neg (by omega)] at eC
  unfold t_dw at eD
  rw [if_neg (by omega)] at eD
  unfold t_ll at eL
  rw [if_neg (by omega)] at eL
  unfold t_d4 at eF
  rw [if_neg (by omega)] at eF
  exact ⟨(by show 0 ≤ 0 + ((-1) * v 2 + (1 * v 3 + (0))); omega), (by show 0 ≤ 0 + (1 * v 2 + ((-1) * v 3 + (0))); omega), (by show 0 ≤ 0 + (1 * v 4 + (0)); omega), (by show 0 ≤ 0 + ((-1) * v 4 + (0)); omega), (by show 0 ≤ 0 + (1 * v 5 + (0)); omega), (by show 0 ≤ 0 + ((-1) * v 5 + (0)); omega), (by show 0 ≤ (-1) + (1 * v 6 + (0)); omega), (by show 0 ≤ 1 + ((-1) * v 6 + (0)); omega), (by show 0 ≤ 0 + (1 * v 7 + (0)); omega), (by show 0 ≤ 0 + ((-1) * v 7 + (0)); omega), (by show 0 ≤ 0 + (1 * v 8 + (0)); omega), (by show 0 ≤ 0 + ((-1) * v 8 + (0)); omega), trivial⟩
-- ts4
theorem t_q180 {g : Nat → Int} (h : t_G g) : t_ok g 1 ([(9671406556917033397649408, [(0, 1)]), (12089258196146291747061760, [(0, 1)]), (51983810243429054512365568, [(0, 1)]), (53192736063043683687071744, [(0, 1)]), (54401661882658312861777920, [(0, 1)]), (55610587702272942036484096, [(0, 1)]), (56819513521887571211190272, [(0, 1)]), (58028439341502200385896448, [(0, 1)])], [(0, [(0, 1)]), (700, [(0, (-1))]), ((-4), [(1, 1)]), (4, [(1, (-1))])], [(0, [(3, 1)]), (0, [(3, (-1))]), ((-8589934592), [(4, 1)]), (8589934592, [(4, (-1))]), (0, [(5, 1)]), (0, [(5, (-1))]), ((-1), [(6, 1)]), (1, [(6, (-1))]), (0, [(7, 1)]), (0, [(7, (-1))]), ((-1000), [(8, 1)]), (1000, [(8, (-1))])]) := by
  refine t_okI fun v hr hp => ?_
  obtain ⟨rK, rV, rA, rB, rC, rD, rL, rF, -⟩ := hr
  obtain ⟨p0, p1, p2, p3, -⟩ := hp
  have p0 : 0 ≤ 0 + (1 * v 0 + (0)) := p0
  have p1 : 0 ≤ 700 + ((-1) * v 0 + (0)) := p1
  have p2 : 0 ≤ (-4) + (1 * v 1 + (0)) := p2
  have p3 : 0 ≤ 4 + ((-1) * v 1 + (0)) := p3
  obtain ⟨ni, hi⟩ : ∃ n : Nat, v 0 = (n : Int) := ⟨(v 0).toNat, by omega⟩
  have rK : ∃ j : Nat, 9671406556917033397649408 + (1 * v 0 + (0)) = (j : Int) ∧ c_gv j (g j) = v 1 := rK
  have eK := t_g8 h ni (by omega) rK (by omega)
  have rV : ∃ j : Nat, 12089258196146291747061760 + (1 * v 0 + (0)) = (j : Int) ∧ c_gv j (g j) = v 2 := rV
  have eV := t_g10 h ni (by omega) rV (by omega)
  have rA : ∃ j : Nat, 51983810243429054512365568 + (1 * v 0 + (0)) = (j : Int) ∧ c_gv j (g j) = v 3 := rA
  have eA := t_g43 h ni (by omega) rA (by omega)
  have rB : ∃ j : Nat, 53192736063043683687071744 + (1 * v 0 + (0)) = (j : Int) ∧ c_gv j (g j) = v 4 := rB
  have eB := t_g44 h ni (by omega) rB (by omega)
  have rC : ∃ j : Nat, 54401661882658312861777920 + (1 * v 0 + (0)) = (j : Int) ∧ c_gv j (g j) = v 5 := rC
  have eC := t_g45 h ni (by omega) rC (by omega)
  have rD : ∃ j : Nat, 55610587702272942036484096 + (1 * v 0 + (0)) = (j : Int) ∧ c_gv j (g j) = v 6 := rD
  have eD := t_g46 h ni (by omega) rD (by omega)
  have rL : ∃ j : Nat, 56819513521887571211190272 + (1 * v 0 + (0)) = (j : Int) ∧ c_gv j (g j) = v 7 := rL
  have eL := t_g47 h ni (by omega) rL (by omega)
  have rF : ∃ j : Nat, 58028439341502200385896448 + (1 * v 0 + (0)) = (j : Int) ∧ c_gv j (g j) = v 8 := rF
  have eF := t_g48 h ni (by omega) rF (by omega)
  unfold t_vn at eA
  rw [if_neg (by omega)] at eA
  unfold t_dn at eB
  rw [if_neg (by omega)] at eB
  unfold t_vw at eC
  rw [if_neg (by omega)] at eC
  unfold t_dw at eD
  rw [if_neg (by omega)] at eD
  unfold t_ll at eL
  rw [if_neg (by omega)] at eL
  unfold t_d4 at eF
  rw [if_pos (by omega)] at eF
  exact ⟨(by show 0 ≤ 0 + (1 * v 3 + (0)); omega), (by show 0 ≤ 0 + ((-1) * v 3 + (0)); omega), (by show 0 ≤ (-8589934592) + (1 * v 4 + (0)); omega), (by show 0 ≤ 8589934592 + ((-1) * v 4 + (0)); omega), (by show 0 ≤ 0 + (1 * v 5 + (0)); omega), (by show 0 ≤ 0 + ((-1) * v 5 + (0)); omega), (by show 0 ≤ (-1) + (1 * v 6 + (0)); omega), (by show 0 ≤ 1 + ((-1) * v 6 + (0)); omega), (by show 0 ≤ 0 + (1 * v 7 + (0)); omega), (by show 0 ≤ 0 + ((-1) * v 7 + (0)); omega), (by show 0 ≤ (-1000) + (1 * v 8 + (0)); omega), (by show 0 ≤ 1000 + ((-1) * v 8 + (0)); omega), trivial⟩
-- epB
theorem t_q181 {g : Nat → Int} (h : t_G g) : t_ok g 2 ([(10880332376531662572355584, [(0, 1)]), (1208925819614629174707199, [])], [(0, [(0, 1)]), (700, [(0, (-1))]), (0, [(1, (-1)), (2, 1)]), (0, [(1, 1), (2, (-1))])], [(0, [(1, 1)]), (0, [(1, (-1)), (3, 1)])]) := by
  refine t_okI fun v hr hp => ?_
  obtain ⟨rE, rN, -⟩ := hr
  obtain ⟨p0, p1, p2, p3, -⟩ := hp
  have p0 : 0 ≤ 0 + (1 * v 0 + (0)) := p0
  have p1 : 0 ≤ 700 + ((-1) * v 0 + (0)) := p1
  have p2 : 0 ≤ 0 + ((-1) * v 1 + (1 * v 2 + (0))) := p2
  have p3 : 0 ≤ 0 + (1 * v 1 + ((-1) * v 2 + (0))) := p3
  obtain ⟨ni, hi⟩ : ∃ n : Nat, v 0 = (n : Int) := ⟨(v 0).toNat, by omega⟩
  obtain ⟨ne, he⟩ : ∃ n : Nat, v 1 = (n : Int) := ⟨(v 1).toNat, by omega⟩
  have rE : ∃ j : Nat, 10880332376531662572355584 + (1 * v 0 + (0)) = (j : Int) ∧ c_gv j (g j) = v 2 := rE
  have eE := t_g9 h ni (by omega) rE (by omega)
  have rN : ∃ j : Nat, 1208925819614629174707199 + (0) = (j : Int) ∧ c_gv j (g j) = v 3 := rN
  have eN := t_rdN h rN (by omega)
  have c := t_ep_le (X := t_tx g) ni
  exact ⟨(by show 0 ≤ 0 + (1 * v 1 + (0)); omega), (by show 0 ≤ 0 + ((-1) * v 1 + (1 * v 3 + (0))); omega), trivial⟩
-- ik0a
theorem t_q182 {g : Nat → Int} (h : t_G g) : t_ok g 1 ([(9671406556917033397649408, [(0, 1)]), (12089258196146291747061760, [(0, 1)]), (22969590572677954319417344, [(0, 1)])], [(0, [(0, 1)]), (700, [(0, (-1))]), ((-1), [(1, 1)]), (1, [(1, (-1))]), ((-671470), [(2, 1)]), (671470, [(2, (-1))])], [((-1), [(3, 1)]), (1, [(3, (-1))])]) := by
  refine t_okI fun v hr hp => ?_
  obtain ⟨rK, rV, rS, -⟩ := hr
  obtain ⟨p0, p1, p2, p3, p4, p5, -⟩ := hp
  have p0 : 0 ≤ 0 + (1 * v 0 + (0)) := p0
  have p1 : 0 ≤ 700 + ((-1) * v 0 + (0)) := p1
  have p2 : 0 ≤ (-1) + (1 * v 1 + (0)) := p2
  have p3 : 0 ≤ 1 + ((-1) * v 1 + (0)) := p3
  have p4 : 0 ≤ (-671470) + (1 * v 2 + (0)) := p4
  have p5 : 0 ≤ 671470 + ((-1) * v 2 + (0)) := p5
  obtain ⟨ni, hi⟩ : ∃ n : Nat, v 0 = (n : Int) := ⟨(v 0).toNat, by omega⟩
  have rK : ∃ j : Nat, 9671406556917033397649408 + (1 * v 0 + (0)) = (j : Int) ∧ c_gv j (g j) = v 1 := rK
  have eK := t_g8 h ni (by omega) rK (by omega)
  have rV : ∃ j : Nat, 12089258196146291747061760 + (1 * v 0 + (0)) = (j : Int) ∧ c_gv j (g j) = v 2 := rV
  have eV := t_g10 h ni (by omega) rV (by omega)
  have rS : ∃ j : Nat, 22969590572677954319417344 + (1 * v 0 + (0)) = (j : Int) ∧ c_gv j (g j) = v 3 := rS
  have eS := t_g19 h ni 0 (by omega) (by omega) rS (by omega)
  have c : t_ky (t_tx g) ni = 0 := by
    unfold t_ky
    rw [if_pos (by omega), show t_v (t_tx g) ni = 671470 by omega]
    decide
  unfold t_isk at eS
  rw [if_pos c] at eS
  exact ⟨(by show 0 ≤ (-1) + (1 * v 3 + (0)); omega), (by show 0 ≤ 1 + ((-1) * v 3 + (0)); omega), trivial⟩
-- ik0b
theorem t_q183 {g : Nat → Int} (h : t_G g) : t_ok g 1 ([(9671406556917033397649408, [(0, 1)]), (12089258196146291747061760, [(0, 1)]), (22969590572677954319417344, [(0, 1)])], [(0, [(0, 1)]), (700, [(0, (-1))]), (0, [(1, (-1))])], [(0, [(3, 1)]), (0, [(3, (-1))])]) := by
  refine t_okI fun v hr hp => ?_
  obtain ⟨rK, rV, rS, -⟩ := hr
  obtain ⟨p0, p1, p2, -⟩ := hp
  have p0 : 0 ≤ 0 + (1 * v 0 + (0)) := p0
  have p1 : 0 ≤ 700 + ((-1) * v 0 + (0)) := p1
  have p2 : 0 ≤ 0 + ((-1) * v 1 + (0)) := p2
  obtain ⟨ni, hi⟩ : ∃ n : Nat, v 0 = (n : Int) := ⟨(v 0).toNat, by omega⟩
  have rK : ∃ j : Nat, 9671406556917033397649408 + (1 * v 0 + (0)) = (j : Int) ∧ c_gv j (g j) = v 1 := rK
  have eK := t_g8 h ni (by omega) rK (by omega)
  have rV : ∃ j : Nat, 12089258196146291747061760 + (1 * v 0 + (0)) = (j : Int) ∧ c_gv j (g j) = v 2 := rV
  have eV := t_g10 h ni (by omega) rV (by omega)
  have rS : ∃ j : Nat, 22969590572677954319417344 + (1 * v 0 + (0)) = (j : Int) ∧ c_gv j (g j) = v 3 := rS
  have eS := t_g19 h ni 0 (by omega) (by omega) rS (by omega)
  have cy : t_ky (t_tx g) ni = -1 := by
    unfold t_ky
    rw [if_neg (by omega)]
  unfold t_isk at eS
  rw [if_neg (by omega)] at eS
  exact ⟨(by show 0 ≤ 0 + (1 * v 3 + (0)); omega), (by show 0 ≤ 0 + ((-1) * v 3 + (0)); omega), trivial⟩
-- ik0c
theorem t_q184 {g : Nat → Int} (h : t_G g) : t_ok g 1 ([(9671406556917033397649408, [(0, 1)]), (12089258196146291747061760, [(0, 1)]), (22969590572677954319417344, [(0, 1)])], [(0, [(0, 1)]), (700, [(0, (-1))]), ((-2), [(1, 1)])], [(0, [(3, 1)]), (0, [(3, (-1))])]) := by
  refine t_okI fun v hr hp => ?_
  obtain ⟨rK, rV, rS, -⟩ := hr
  obtain ⟨p0, p1, p2, -⟩ := hp
  have p0 : 0 ≤ 0 + (1 * v 0 + (0)) := p0
  have p1 : 0 ≤ 700 + ((-1) * v 0 + (0)) := p1
  have p2 : 0 ≤ (-2) + (1 * v 1 + (0)) := p2
  obtain ⟨ni, hi⟩ : ∃ n : Nat, v 0 = (n : Int) := ⟨(v 0).toNat, by omega⟩
  have rK : ∃ j : Nat, 9671406556917033397649408 + (1 * v 0 + (0)) = (j : Int) ∧ c_gv j (g j) = v 1 := rK
  have eK := t_g8 h ni (by omega) rK (by omega)
  have rV : ∃ j : Nat, 12089258196146291747061760 + (1 * v 0 + (0)) = (j : Int) ∧ c_gv j (g j) = v 2 := rV
  have eV := t_g10 h ni (by omega) rV (by omega)
  have rS : ∃ j : Nat, 22969590572677954319417344 + (1 * v 0 + (0)) = (j : Int) ∧ c_gv j (g j) = v 3 := rS
  have eS := t_g19 h ni 0 (by omega) (by omega) rS (by omega)
  have cy : t_ky (t_tx g) ni = -1 := by
    unfold t_ky
    rw [if_neg (by omega)]
  unfold t_isk at eS
  rw [if_neg (by omega)] at eS
  exact ⟨(by show 0 ≤ 0 + (1 * v 3 + (0)); omega), (by show 0 ≤ 0 + ((-1) * v 3 + (0)); omega), trivial⟩
-- ik0d
theorem t_q185 {g : Nat → Int} (h : t_G g) : t_ok g 1 ([(9671406556917033397649408, [(0, 1)]), (12089258196146291747061760, [(0, 1)]), (22969590572677954319417344, [(0, 1)])], [(0, [(0, 1)]), (700, [(0, (-1))]), (671469, [(2, (-1))])], [(0, [(3, 1)]), (0, [(3, (-1))])]) := by
  refine t_okI fun v hr hp => ?_
  obtain ⟨rK, rV, rS, -⟩ := hr
  obtain ⟨p0, p1, p2, -⟩ := hp
  have p0 : 0 ≤ 0 + (1 * v 0 + (0)) := p0
  have p1 : 0 ≤ 700 + ((-1) * v 0 + (0)) := p1
  have p2 : 0 ≤ 671469 + ((-1) * v 2 + (0)) := p2
  obtain ⟨ni, hi⟩ : ∃ n : Nat, v 0 = (n : Int) := ⟨(v 0).toNat, by omega⟩
  have rK : ∃ j : Nat, 9671406556917033397649408 + (1 * v 0 + (0)) = (j : Int) ∧ c_gv j (g j) = v 1 := rK
  have eK := t_g8 h ni (by omega) rK (by omega)
  have rV : ∃ j : Nat, 12089258196146291747061760 + (1 * v 0 + (0)) = (j : Int) ∧ c_gv j (g j) = v 2 := rV
  have eV := t_g10 h ni (by omega) rV (by omega)
  have rS : ∃ j : Nat, 22969590572677954319417344 + (1 * v 0 + (0)) = (j : Int) ∧ c_gv j (g j) = v 3 := rS
  have eS := t_g19 h ni 0 (by omega) (by omega) rS (by omega)
  unfold t_isk at eS
  rw [if_neg (fun h9 => by have h8 := t_ky_v h9; have h8 : some (671470 : Int) = some (t_v (t_tx g) ni) := h8; have h8 := Option.some.inj h8; omega)] at eS
  exact ⟨(by show 0 ≤ 0 + (1 * v 3 + (0)); omega), (by show 0 ≤ 0 + ((-1) * v 3 + (0)); omega), trivial⟩
-- ik0e
theorem t_q186 {g : Nat → Int} (h : t_G g) : t_ok g 1 ([(9671406556917033397649408, [(0, 1)]), (12089258196146291747061760, [(0, 1)]), (22969590572677954319417344, [(0, 1)])], [(0, [(0, 1)]), (700, [(0, (-1))]), ((-671471), [(2, 1)])], [(0, [(3, 1)]), (0, [(3, (-1))])]) := by
  refine t_okI fun v hr hp => ?_
  obtain ⟨rK, rV, rS, -⟩ := hr
  obtain ⟨p0, p1, p2, -⟩ := hp
  have p0 : 0 ≤ 0 + (1 * v 0 + (0)) := p0
  have p1 : 0 ≤ 700 + ((-1) * v 0 + (0)) := p1
  have p2 : 0 ≤ (-671471) + (1 * v 2 + (0)) := p2
  obtain ⟨ni, hi⟩ : ∃ n : Nat, v 0 = (n : Int) := ⟨(v 0).toNat, by omega⟩
  have rK : ∃ j : Nat, 9671406556917033397649408 + (1 * v 0 + (0)) = (j : Int) ∧ c_gv j (g j) = v 1 := rK
  have eK := t_g8 h ni (by omega) rK (by omega)
  have rV : ∃ j : Nat, 12089258196146291747061760 + (1 * v 0 + (0)) = (j : Int) ∧ c_gv j (g j) = v 2 := rV
  have eV := t_g10 h ni (by omega) rV (by omega)
  have rS : ∃ j : Nat, 22969590572677954319417344 + (1 * v 0 + (0)) = (j : Int) ∧ c_gv j (g j) = v 3 := rS
  have eS := t_g19 h ni 0 (by omega) (by omega) rS (by omega)
  unfold t_isk at eS
  rw [if_neg (fun h9 => by have h8 := t_ky_v h9; have h8 : some (671470 : Int) = some (t_v (t_tx g) ni) := h8; have h8 := Option.some.inj h8; omega)] at eS
  exact ⟨(by show 0 ≤ 0 + (1 * v 3 + (0)); omega), (by show 0 ≤ 0 + ((-1) * v 3 + (0)); omega), trivial⟩
-- ky0
theorem t_q187 {g : Nat → Int} (h : t_G g) : t_ok g 1 ([(22969590572677954319417344, [(0, 1)]), (13298184015760920921767936, [(0, 1)]), (9671406556917033397649408, [(0, 1)])], [(0, [(0, 1)]), (700, [(0, (-1))]), ((-1), [(1, 1)])], [(0, [(2, 1)]), (0, [(2, (-1))]), ((-1), [(3, 1)]), (1, [(3, (-1))]), ((-1), [(1, 1)]), (1, [(1, (-1))])]) := by
  refine t_okI fun v hr hp => ?_
  obtain ⟨rS, rY, rK, -⟩ := hr
  obtain ⟨p0, p1, p2, -⟩ := hp
  have p0 : 0 ≤ 0 + (1 * v 0 + (0)) := p0
  have p1 : 0 ≤ 700 + ((-1) * v 0 + (0)) := p1
  have p2 : 0 ≤ (-1) + (1 * v 1 + (0)) := p2
  obtain ⟨ni, hi⟩ : ∃ n : Nat, v 0 = (n : Int) := ⟨(v 0).toNat, by omega⟩
  have rS : ∃ j : Nat, 22969590572677954319417344 + (1 * v 0 + (0)) = (j : Int) ∧ c_gv j (g j) = v 1 := rS
  have eS := t_g19 h ni 0 (by omega) (by omega) rS (by omega)
  have rY : ∃ j : Nat, 13298184015760920921767936 + (1 * v 0 + (0)) = (j : Int) ∧ c_gv j (g j) = v 2 := rY
  have eY := t_g11 h ni (by omega) rY (by omega)
  have rK : ∃ j : Nat, 9671406556917033397649408 + (1 * v 0 + (0)) = (j : Int) ∧ c_gv j (g j) = v 3 := rK
  have eK := t_g8 h ni (by omega) rK (by omega)
  have ceS : t_ky (t_tx g) ni = 0 := by
    unfold t_isk at eS
    by_cases h9 : t_ky (t_tx g) ni = ((0 : Nat) : Int)
    · exact h9
    · rw [if_neg h9] at eS
      omega
  have ck := t_ky_k (X := t_tx g) (i := ni) (by omega)
  unfold t_isk at eS
  rw [if_pos ceS] at eS
  exact ⟨(by show 0 ≤ 0 + (1 * v 2 + (0)); omega), (by show 0 ≤ 0 + ((-1) * v 2 + (0)); omega), (by show 0 ≤ (-1) + (1 * v 3 + (0)); omega), (by show 0 ≤ 1 + ((-1) * v 3 + (0)); omega), (by show 0 ≤ (-1) + (1 * v 1 + (0)); omega), (by show 0 ≤ 1 + ((-1) * v 1 + (0)); omega), trivial⟩
-- ik1a
theorem t_q188 {g : Nat → Int} (h : t_G g) : t_ok g 1 ([(9671406556917033397649408, [(0, 1)]), (12089258196146291747061760, [(0, 1)]), (22969590572677954319418368, [(0, 1)])], [(0, [(0, 1)]), (700, [(0, (-1))]), ((-1), [(1, 1)]), (1, [(1, (-1))]), ((-370116), [(2, 1)]), (370116, [(2, (-1))])], [((-1), [(3, 1)]), (1, [(3, (-1))])]) := by
  refine t_okI fun v hr hp => ?_
  obtain ⟨rK, rV, rS, -⟩ := hr
  obtain ⟨p0, p1, p2, p3, p4, p5, -⟩ := hp
  have p0 : 0 ≤ 0 + (1 * v 0 + (0)) := p0
  have p1 : 0 ≤ 700 + ((-1) * v 0 + (0)) := p1
  have p2 : 0 ≤ (-1) + (1 * v 1 + (0)) := p2
  have p3 : 0 ≤ 1 + ((-1) * v 1 + (0)) := p3
  have p4 : 0 ≤ (-370116) + (1 * v 2 + (0)) := p4
  have p5 : 0 ≤ 370116 + ((-1) * v 2 + (0)) := p5
  obtain ⟨ni, hi⟩ : ∃ n : Nat, v 0 = (n : Int) := ⟨(v 0).toNat, by omega⟩
  have rK : ∃ j : Nat, 9671406556917033397649408 + (1 * v 0 + (0)) = (j : Int) ∧ c_gv j (g j) = v 1 := rK
  have eK := t_g8 h ni (by omega) rK (by omega)
  have rV : ∃ j : Nat, 12089258196146291747061760 + (1 * v 0 + (0)) = (j : Int) ∧ c_gv j (g j) = v 2 := rV
  have eV := t_g10 h ni (by omega) rV (by omega)
  have rS : ∃ j : Nat, 22969590572677954319418368 + (1 * v 0 + (0)) = (j : Int) ∧ c_gv j (g j) = v 3 := rS
  have eS := t_g19 h ni 1 (by omega) (by omega) rS (by omega)
  have c : t_ky (t_tx g) ni = 1 := by
    unfold t_ky
    rw [if_pos (by omega), show t_v (t_tx g) ni = 370116 by omega]
    decide
  unfold t_isk at eS
  rw [if_pos c] at eS
  exact ⟨(by show 0 ≤ (-1) + (1 * v 3 + (0)); omega), (by show 0 ≤ 1 + ((-1) * v 3 + (0)); omega), trivial⟩
-- ik1b
theorem t_q189 {g : Nat → Int} (h : t_G g) : t_ok g 1 ([(9671406556917033397649408, [(0, 1)]), (12089258196146291747061760, [(0, 1)]), (22969590572677954319418368, [(0, 1)])], [(0, [(0, 1)]), (700, [(0, (-1))]), (0, [(1, (-1))])], [(0, [(3, 1)]), (0, [(3, (-1))])]) := by
  refine t_okI fun v hr hp => ?_
  obtain ⟨rK, rV, rS, -⟩ := hr
  obtain ⟨p0, p1, p2, -⟩ := hp
  have p0 : 0 ≤ 0 + (1 * v 0 + (0)) := p0
  have p1 : 0 ≤ 700 + ((-1) * v 0 + (0)) := p1
  have p2 : 0 ≤ 0 + ((-1) * v 1 + (0)) := p2
  obtain ⟨ni, hi⟩ : ∃ n : Nat, v 0 = (n : Int) := ⟨(v 0).toNat, by omega⟩
  have rK : ∃ j : Nat, 9671406556917033397649408 + (1 * v 0 + (0)) = (j : Int) ∧ c_gv j (g j) = v 1 := rK
  have eK := t_g8 h ni (by omega) rK (by omega)
  have rV : ∃ j : Nat, 12089258196146291747061760 + (1 * v 0 + (0)) = (j : Int) ∧ c_gv j (g j) = v 2 := rV
  have eV := t_g10 h ni (by omega) rV (by omega)
  have rS : ∃ j : Nat, 22969590572677954319418368 + (1 * v 0 + (0)) = (j : Int) ∧ c_gv j (g j) = v 3 := rS
  have eS := t_g19 h ni 1 (by omega) (by omega) rS (by omega)
  have cy : t_ky (t_tx g) ni = -1 := by
    unfold t_ky
    rw [if_neg (by omega)]
  unfold t_isk at eS
  rw [if_neg (by omega)] at eS
  exact ⟨(by show 0 ≤ 0 + (1 * v 3 + (0)); omega), (by show 0 ≤ 0 + ((-1) * v 3 + (0)); omega), trivial⟩
-- ik1c
theorem t_q190 {g : Nat → Int} (h : t_G g) : t_ok g 1 ([(9671406556917033397649408, [(0, 1)]), (12089258196146291747061760, [(0, 1)]), (22969590572677954319418368, [(0, 1)])], [(0, [(0, 1)]), (700, [(0, (-1))]), ((-2), [(1, 1)])], [(0, [(3, 1)]), (0, [(3, (-1))])]) := by
  refine t_okI fun v hr hp => ?_
  obtain ⟨rK, rV, rS, -⟩ := hr
  obtain ⟨p0, p1, p2, -⟩ := hp
  have p0 : 0 ≤ 0 + (1 * v 0 + (0)) := p0
  have p1 : 0 ≤ 700 + ((-1) * v 0 + (0)) := p1
  have p2 : 0 ≤ (-2) + (1 * v 1 + (0)) := p2
  obtain ⟨ni, hi⟩ : ∃ n : Nat, v 0 = (n : Int) := ⟨(v 0).toNat, by omega⟩
  have rK : ∃ j : Nat, 9671406556917033397649408 + (1 * v 0 + (0)) = (j : Int) ∧ c_gv j (g j) = v 1 := rK
  have eK := t_g8 h ni (by omega) rK (by omega)
  have rV : ∃ j : Nat, 12089258196146291747061760 + (1 * v 0 + (0)) = (j : Int) ∧ c_gv j (g j) = v 2 := rV
  have eV := t_g10 h ni (by omega) rV (by omega)
  have rS : ∃ j : Nat, 22969590572677954319418368 + (1 * v 0 + (0)) = (j : Int) ∧ c_gv j (g j) = v 3 := rS
  have eS := t_g19 h ni 1 (by omega) (by omega) rS (by omega)
  have cy : t_ky (t_tx g) ni = -1 := by
    unfold t_ky
    rw [if_neg (by omega)]
  unfold t_isk at eS
  rw [if_neg (by omega)] at eS
  exact ⟨(by show 0 ≤ 0 + (1 * v 3 + (0)); omega), (by show 0 ≤ 0 + ((-1) * v 3 + (0)); omega), trivial⟩
-- ik1d
theorem t_q191 {g : Nat → Int} (h : t_G g) : t_ok g 1 ([(9671406556917033397649408, [(0, 1)]), (12089258196146291747061760, [(0, 1)]), (22969590572677954319418368, [(0, 1)])], [(0, [(0, 1)]), (700, [(0, (-1))]), (370115, [(2, (-1))])], [(0, [(3, 1)]), (0, [(3, (-1))])]) := by
  refine t_okI fun v hr hp => ?_
  obtain ⟨rK, rV, rS, -⟩ := hr
  obtain ⟨p0, p1, p2, -⟩ := hp
  have p0 : 0 ≤ 0 + (1 * v 0 + (0)) := p0
  have p1 : 0 ≤ 700 + ((-1) * v 0 + (0)) := p1
  have p2 : 0 ≤ 370115 + ((-1) * v 2 + (0)) := p2
  obtain ⟨ni, hi⟩ : ∃ n : Nat, v 0 = (n : Int) := ⟨(v 0).toNat, by omega⟩
  have rK : ∃ j : Nat, 9671406556917033397649408 + (1 * v 0 + (0)) = (j : Int) ∧ c_gv j (g j) = v 1 := rK
  have eK := t_g8 h ni (by omega) rK (by omega)
  have rV : ∃ j : Nat, 12089258196146291747061760 + (1 * v 0 + (0)) = (j : Int) ∧ c_gv j (g j) = v 2 := rV
  have eV := t_g10 h ni (by omega) rV (by omega)
  have rS : ∃ j : Nat, 22969590572677954319418368 + (1 * v 0 + (0)) = (j : Int) ∧ c_gv j (g j) = v 3 := rS
  have eS := t_g19 h ni 1 (by omega) (by omega) rS (by omega)
  unfold t_isk at eS
  rw [if_neg (fun h9 => by have h8 := t_ky_v h9; have h8 : some (370116 : Int) = some (t_v (t_tx g) ni) := h8; have h8 := Option.some.inj h8; omega)] at eS
  exact ⟨(by show 0 ≤ 0 + (1 * v 3 + (0)); omega), (by show 0 ≤ 0 + ((-1) * v 3 + (0)); omega), trivial⟩
-- ik1e
theorem t_q192 {g : Nat → Int} (h : t_G g) : t_ok g 1 ([(9671406556917033397649408, [(0, 1)]), (12089258196146291747061760, [(0, 1)]), (22969590572677954319418368, [(0, 1)])], [(0, [(0, 1)]), (700, [(0, (-1))]), ((-370117), [(2, 1)])], [(0, [(3, 1)]), (0, [(3, (-1))])]) := by
  refine t_okI fun v hr hp => ?_
  obtain ⟨rK, rV, rS, -⟩ := hr
  obtain ⟨p0, p1, p2, -⟩ := hp
  have p0 : 0 ≤ 0 + (1 * v 0 + (0)) := p0
  have p1 : 0 ≤ 700 + ((-1) * v 0 + (0)) := p1
  have p2 : 0 ≤ (-370117) + (1 * v 2 + (0)) := p2
  obtain ⟨ni, hi⟩ : ∃ n : Nat, v 0 = (n : Int) := ⟨(v 0).toNat, by omega⟩
  have rK : ∃ j : Nat, 9671406556917033397649408 + (1 * v 0 + (0)) = (j : Int) ∧ c_gv j (g j) = v 1 := rK
  have eK := t_g8 h ni (by omega) rK (by omega)
  have rV : ∃ j : Nat, 12089258196146291747061760 + (1 * v 0 + (0)) = (j : Int) ∧ c_gv j (g j) = v 2 := rV
  have eV := t_g10 h ni (by omega) rV (by omega)
  have rS : ∃ j : Nat, 22969590572677954319418368 + (1 * v 0 + (0)) = (j : Int) ∧ c_gv j (g j) = v 3 := rS
  have eS := t_g19 h ni 1 (by omega) (by omega) rS (by omega)
  unfold t_isk at eS
  rw [if_neg (fun h9 => by have h8 := t_ky_v h9; have h8 : some (370116 : Int) = some (t_v (t_tx g) ni) := h8; have h8 := Option.some.inj h8; omega)] at eS
  exact ⟨(by show 0 ≤ 0 + (1 * v 3 + (0)); omega), (by show 0 ≤ 0 + ((-1) * v 3 + (0)); omega), trivial⟩
-- ky1
theorem t_q193 {g : Nat → Int} (h : t_G g) : t_ok g 1 ([(22969590572677954319418368, [(0, 1)]), (13298184015760920921767936, [(0, 1)]), (9671406556917033397649408, [(0, 1)])], [(0, [(0, 1)]), (700, [(0, (-1))]), ((-1), [(1, 1)])], [((-1), [(2, 1)]), (1, [(2, (-1))]), ((-1), [(3, 1)]), (1, [(3, (-1))]), ((-1), [(1, 1)]), (1, [(1, (-1))])]) := by
  refine t_okI fun v hr hp => ?_
  obtain ⟨rS, rY, rK, -⟩ := hr
  obtain ⟨p0, p1, p2, -⟩ := hp
  have p0 : 0 ≤ 0 + (1 * v 0 + (0)) := p0
  have p1 : 0 ≤ 700 + ((-1) * v 0 + (0)) := p1
  have p2 : 0 ≤ (-1) + (1 * v 1 + (0)) := p2
  obtain ⟨ni, hi⟩ : ∃ n : Nat, v 0 = (n : Int) := ⟨(v 0).toNat, by omega⟩
  have rS : ∃ j : Nat, 22969590572677954319418368 + (1 * v 0 + (0)) = (j : Int) ∧ c_gv j (g j) = v 1 := rS
  have eS := t_g19 h ni 1 (by omega) (by omega) rS (by omega)
  have rY : ∃ j : Nat, 13298184015760920921767936 + (1 * v 0 + (0)) = (j : Int) ∧ c_gv j (g j) = v 2 := rY
  have eY := t_g11 h ni (by omega) rY (by omega)
  have rK : ∃ j : Nat, 9671406556917033397649408 + (1 * v 0 + (0)) = (j : Int) ∧ c_gv j (g j) = v 3 := rK
  have eK := t_g8 h ni (by omega) rK (by omega)
  have ceS : t_ky (t_tx g) ni = 1 := by
    unfold t_isk at eS
    by_cases h9 : t_ky (t_tx g) ni = ((1 : Nat) : Int)
    · exact h9
    · rw [if_neg h9] at eS
      omega
  have ck := t_ky_k (X := t_tx g) (i := ni) (by omega)
  unfold t_isk at eS
  rw [if_pos ceS] at eS
  exact ⟨(by show 0 ≤ (-1) + (1 * v 2 + (0)); omega), (by show 0 ≤ 1 + ((-1) * v 2 + (0)); omega), (by show 0 ≤ (-1) + (1 * v 3 + (0)); omega), (by show 0 ≤ 1 + ((-1) * v 3 + (0)); omega), (by show 0 ≤ (-1) + (1 * v 1 + (0)); omega), (by show 0 ≤ 1 + ((-1) * v 1 + (0)); omega), trivial⟩
-- ik2a
theorem t_q194 {g : Nat → Int} (h : t_G g) : t_ok g 1 ([(9671406556917033397649408, [(0, 1)]), (12089258196146291747061760, [(0, 1)]), (22969590572677954319419392, [(0, 1)])], [(0, [(0, 1)]), (700, [(0, (-1))]), ((-1), [(1, 1)]), (1, [(1, (-1))]), ((-80948), [(2, 1)]), (80948, [(2, (-1))])], [((-1), [(3, 1)]), (1, [(3, (-1))])]) := by
  refine t_okI fun v hr hp => ?_
  obtain ⟨rK, rV, rS, -⟩ := hr
  obtain ⟨p0, p1, p2, p3, p4, p5, -⟩ := hp
  have p0 : 0 ≤ 0 + (1 * v 0 + (0)) := p0
  have p1 : 0 ≤ 700 + ((-1) * v 0 + (0)) := p1
  have p2 : 0 ≤ (-1) + (1 * v 1 + (0)) := p2
  have p3 : 0 ≤ 1 + ((-1) * v 1 + (0)) := p3
  have p4 : 0 ≤ (-80948) + (1 * v 2 + (0)) := p4
  have p5 : 0 ≤ 80948 + ((-1) * v 2 + (0)) := p5
  obtain ⟨ni, hi⟩ : ∃ n : Nat, v 0 = (n : Int) := ⟨(v 0).toNat, by omega⟩
  have rK : ∃ j : Nat, 9671406556917033397649408 + (1 * v 0 + (0)) = (j : Int) ∧ c_gv j (g j) = v 1 := rK
  have eK := t_g8 h ni (by omega) rK (by omega)
  have rV : ∃ j : Nat, 12089258196146291747061760 + (1 * v 0 + (0)) = (j : Int) ∧ c_gv j (g j) = v 2 := rV
  have eV := t_g10 h ni (by omega) rV (by omega)
  have rS : ∃ j : Nat, 22969590572677954319419392 + (1 * v 0 + (0)) = (j : Int) ∧ c_gv j (g j) = v 3 := rS
  have eS := t_g19 h ni 2 (by omega) (by omega) rS (by omega)
  have c : t_ky (t_tx g) ni = 2 := by
    unfold t_ky
    rw [if_pos (by omega), show t_v (t_tx g) ni = 80948 by omega]
    decide
  unfold t_isk at eS
  rw [if_pos c] at eS
  exact ⟨(by show 0 ≤ (-1) + (1 * v 3 + (0)); omega), (by show 0 ≤ 1 + ((-1) * v 3 + (0)); omega), trivial⟩
