/-! rules on the tables, each with its proof (printed by gen_rul.py) -/
-- ik2b
theorem t_q195 {g : Nat → Int} (h : t_G g) : t_ok g 1 ([(9671406556917033397649408, [(0, 1)]), (12089258196146291747061760, [(0, 1)]), (22969590572677954319419392, [(0, 1)])], [(0, [(0, 1)]), (700, [(0, (-1))]), (0, [(1, (-1))])], [(0, [(3, 1)]), (0, [(3, (-1))])]) := by
  refine t_okI fun v hr hp => ?_
  obtain ⟨rK, rV, rS, -⟩ := hr
  obtain ⟨p0, p1, p2, -⟩ := hp
  have p0 : 0 ≤ 0 + (1 * v 0 + (0)) := p0
  have p1 : 0 ≤ 700 + ((-1) * v 0 + (0)) := p1
  have p2 : 0 ≤ 0 + ((-1) * v 1 + (0)) := p2
  obtain ⟨ni, hi⟩ : ∃ n : Nat, v 0 = (n : Int) := ⟨(v 0).toNat, by omega⟩
  have rK : ∃ j : Nat, 9671406556917033397649408 + (1 * v 0 + (0)) = (j : Int) ∧ c_gv j (g j) = v 1 := rK
  have eK := t_g8 h ni (by omega) rK (by omega)
  have rV : ∃ j : Nat, 12089258196146291747061760 + (1 * v 0 + (0)) = (j : Int) ∧ c_gv j (g j) = v 2 := rV
  have eV := t_g10 h ni (by omega) rV (by omega)
  have rS : ∃ j : Nat, 22969590572677954319419392 + (1 * v 0 + (0)) = (j : Int) ∧ c_gv j (g j) = v 3 := rS
  have eS := t_g19 h ni 2 (by omega) (by omega) rS (by omega)
  have cy : t_ky (t_tx g) ni = -1 := by
    unfold t_ky
    rw [if_neg (by omega)]
  unfold t_isk at eS
  rw [if_neg (by omega)] at eS
  exact ⟨(by show 0 ≤ 0 + (1 * v 3 + (0)); omega), (by show 0 ≤ 0 + ((-1) * v 3 + (0)); omega), trivial⟩
-- ik2c
theorem t_q196 {g : Nat → Int} (h : t_G g) : t_ok g 1 ([(9671406556917033397649408, [(0, 1)]), (12089258196146291747061760, [(0, 1)]), (22969590572677954319419392, [(0, 1)])], [(0, [(0, 1)]), (700, [(0, (-1))]), ((-2), [(1, 1)])], [(0, [(3, 1)]), (0, [(3, (-1))])]) := by
  refine t_okI fun v hr hp => ?_
  obtain ⟨rK, rV, rS, -⟩ := hr
  obtain ⟨p0, p1, p2, -⟩ := hp
  have p0 : 0 ≤ 0 + (1 * v 0 + (0)) := p0
  have p1 : 0 ≤ 700 + ((-1) * v 0 + (0)) := p1
  have p2 : 0 ≤ (-2) + (1 * v 1 + (0)) := p2
  obtain ⟨ni, hi⟩ : ∃ n : Nat, v 0 = (n : Int) := ⟨(v 0).toNat, by omega⟩
  have rK : ∃ j : Nat, 9671406556917033397649408 + (1 * v 0 + (0)) = (j : Int) ∧ c_gv j (g j) = v 1 := rK
  have eK := t_g8 h ni (by omega) rK (by omega)
  have rV : ∃ j : Nat, 12089258196146291747061760 + (1 * v 0 + (0)) = (j : Int) ∧ c_gv j (g j) = v 2 := rV
  have eV := t_g10 h ni (by omega) rV (by omega)
  have rS : ∃ j : Nat, 22969590572677954319419392 + (1 * v 0 + (0)) = (j : Int) ∧ c_gv j (g j) = v 3 := rS
  have eS := t_g19 h ni 2 (by omega) (by omega) rS (by omega)
  have cy : t_ky (t_tx g) ni = -1 := by
    unfold t_ky
    rw [if_neg (by omega)]
  unfold t_isk at eS
  rw [if_neg (by omega)] at eS
  exact ⟨(by show 0 ≤ 0 + (1 * v 3 + (0)); omega), (by show 0 ≤ 0 + ((-1) * v 3 + (0)); omega), trivial⟩
-- ik2d
theorem t_q197 {g : Nat → Int} (h : t_G g) : t_ok g 1 ([(9671406556917033397649408, [(0, 1)]), (12089258196146291747061760, [(0, 1)]), (22969590572677954319419392, [(0, 1)])], [(0, [(0, 1)]), (700, [(0, (-1))]), (80947, [(2, (-1))])], [(0, [(3, 1)]), (0, [(3, (-1))])]) := by
  refine t_okI fun v hr hp => ?_
  obtain ⟨rK, rV, rS, -⟩ := hr
  obtain ⟨p0, p1, p2, -⟩ := hp
  have p0 : 0 ≤ 0 + (1 * v 0 + (0)) := p0
  have p1 : 0 ≤ 700 + ((-1) * v 0 + (0)) := p1
  have p2 : 0 ≤ 80947 + ((-1) * v 2 + (0)) := p2
  obtain ⟨ni, hi⟩ : ∃ n : Nat, v 0 = (n : Int) := ⟨(v 0).toNat, by omega⟩
  have rK : ∃ j : Nat, 9671406556917033397649408 + (1 * v 0 + (0)) = (j : Int) ∧ c_gv j (g j) = v 1 := rK
  have eK := t_g8 h ni (by omega) rK (by omega)
  have rV : ∃ j : Nat, 12089258196146291747061760 + (1 * v 0 + (0)) = (j : Int) ∧ c_gv j (g j) = v 2 := rV
  have eV := t_g10 h ni (by omega) rV (by omega)
  have rS : ∃ j : Nat, 22969590572677954319419392 + (1 * v 0 + (0)) = (j : Int) ∧ c_gv j (g j) = v 3 := rS
  have eS := t_g19 h ni 2 (by omega) (by omega) rS (by omega)
  unfold t_isk at eS
  rw [if_neg (fun h9 => by have h8 := t_ky_v h9; have h8 : some (80948 : Int) = some (t_v (t_tx g) ni) := h8; have h8 := Option.some.inj h8; omega)] at eS
  exact ⟨(by show 0 ≤ 0 + (1 * v 3 + (0)); omega), (by show 0 ≤ 0 + ((-1) * v 3 + (0)); omega), trivial⟩
-- ik2e
theorem t_q198 {g : Nat → Int} (h : t_G g) : t_ok g 1 ([(9671406556917033397649408, [(0, 1)]), (12089258196146291747061760, [(0, 1)]), (22969590572677954319419392, [(0, 1)])], [(0, [(0, 1)]), (700, [(0, (-1))]), ((-80949), [(2, 1)])], [(0, [(3, 1)]), (0, [(3, (-1))])]) := by
  refine t_okI fun v hr hp => ?_
  obtain ⟨rK, rV, rS, -⟩ := hr
  obtain ⟨p0, p1, p2, -⟩ := hp
  have p0 : 0 ≤ 0 + (1 * v 0 + (0)) := p0
  have p1 : 0 ≤ 700 + ((-1) * v 0 + (0)) := p1
  have p2 : 0 ≤ (-80949) + (1 * v 2 + (0)) := p2
  obtain ⟨ni, hi⟩ : ∃ n : Nat, v 0 = (n : Int) := ⟨(v 0).toNat, by omega⟩
  have rK : ∃ j : Nat, 9671406556917033397649408 + (1 * v 0 + (0)) = (j : Int) ∧ c_gv j (g j) = v 1 := rK
  have eK := t_g8 h ni (by omega) rK (by omega)
  have rV : ∃ j : Nat, 12089258196146291747061760 + (1 * v 0 + (0)) = (j : Int) ∧ c_gv j (g j) = v 2 := rV
  have eV := t_g10 h ni (by omega) rV (by omega)
  have rS : ∃ j : Nat, 22969590572677954319419392 + (1 * v 0 + (0)) = (j : Int) ∧ c_gv j (g j) = v 3 := rS
  have eS := t_g19 h ni 2 (by omega) (by omega) rS (by omega)
  unfold t_isk at eS
  rw [if_neg (fun h9 => by have h8 := t_ky_v h9; have h8 : some (80948 : Int) = some (t_v (t_tx g) ni) := h8; have h8 := Option.some.inj h8; omega)] at eS
  exact ⟨(by show 0 ≤ 0 + (1 * v 3 + (0)); omega), (by show 0 ≤ 0 + ((-1) * v 3 + (0)); omega), trivial⟩
-- ky2
theorem t_q199 {g : Nat → Int} (h : t_G g) : t_ok g 1 ([(22969590572677954319419392, [(0, 1)]), (13298184015760920921767936, [(0, 1)]), (9671406556917033397649408, [(0, 1)])], [(0, [(0, 1)]), (700, [(0, (-1))]), ((-1), [(1, 1)])], [((-2), [(2, 1)]), (2, [(2, (-1))]), ((-1), [(3, 1)]), (1, [(3, (-1))]), ((-1), [(1, 1)]), (1, [(1, (-1))])]) := by
  refine t_okI fun v hr hp => ?_
  obtain ⟨rS, rY, rK, -⟩ := hr
  obtain ⟨p0, p1, p2, -⟩ := hp
  have p0 : 0 ≤ 0 + (1 * v 0 + (0)) := p0
  have p1 : 0 ≤ 700 + ((-1) * v 0 + (0)) := p1
  have p2 : 0 ≤ (-1) + (1 * v 1 + (0)) := p2
  obtain ⟨ni, hi⟩ : ∃ n : Nat, v 0 = (n : Int) := ⟨(v 0).toNat, by omega⟩
  have rS : ∃ j : Nat, 22969590572677954319419392 + (1 * v 0 + (0)) = (j : Int) ∧ c_gv j (g j) = v 1 := rS
  have eS := t_g19 h ni 2 (by omega) (by omega) rS (by omega)
  have rY : ∃ j : Nat, 13298184015760920921767936 + (1 * v 0 + (0)) = (j : Int) ∧ c_gv j (g j) = v 2 := rY
  have eY := t_g11 h ni (by omega) rY (by omega)
  have rK : ∃ j : Nat, 9671406556917033397649408 + (1 * v 0 + (0)) = (j : Int) ∧ c_gv j (g j) = v 3 := rK
  have eK := t_g8 h ni (by omega) rK (by omega)
  have ceS : t_ky (t_tx g) ni = 2 := by
    unfold t_isk at eS
    by_cases h9 : t_ky (t_tx g) ni = ((2 : Nat) : Int)
    · exact h9
    · rw [if_neg h9] at eS
      omega
  have ck := t_ky_k (X := t_tx g) (i := ni) (by omega)
  unfold t_isk at eS
  rw [if_pos (show t_ky (t_tx g) ni = ((2 : Nat) : Int) from ceS)] at eS
  exact ⟨(by show 0 ≤ (-2) + (1 * v 2 + (0)); omega), (by show 0 ≤ 2 + ((-1) * v 2 + (0)); omega), (by show 0 ≤ (-1) + (1 * v 3 + (0)); omega), (by show 0 ≤ 1 + ((-1) * v 3 + (0)); omega), (by show 0 ≤ (-1) + (1 * v 1 + (0)); omega), (by show 0 ≤ 1 + ((-1) * v 1 + (0)); omega), trivial⟩
-- ik3a
theorem t_q200 {g : Nat → Int} (h : t_G g) : t_ok g 1 ([(9671406556917033397649408, [(0, 1)]), (12089258196146291747061760, [(0, 1)]), (22969590572677954319420416, [(0, 1)])], [(0, [(0, 1)]), (700, [(0, (-1))]), ((-1), [(1, 1)]), (1, [(1, (-1))]), ((-12343), [(2, 1)]), (12343, [(2, (-1))])], [((-1), [(3, 1)]), (1, [(3, (-1))])]) := by
  refine t_okI fun v hr hp => ?_
  obtain ⟨rK, rV, rS, -⟩ := hr
  obtain ⟨p0, p1, p2, p3, p4, p5, -⟩ := hp
  have p0 : 0 ≤ 0 + (1 * v 0 + (0)) := p0
  have p1 : 0 ≤ 700 + ((-1) * v 0 + (0)) := p1
  have p2 : 0 ≤ (-1) + (1 * v 1 + (0)) := p2
  have p3 : 0 ≤ 1 + ((-1) * v 1 + (0)) := p3
  have p4 : 0 ≤ (-12343) + (1 * v 2 + (0)) := p4
  have p5 : 0 ≤ 12343 + ((-1) * v 2 + (0)) := p5
  obtain ⟨ni, hi⟩ : ∃ n : Nat, v 0 = (n : Int) := ⟨(v 0).toNat, by omega⟩
  have rK : ∃ j : Nat, 9671406556917033397649408 + (1 * v 0 + (0)) = (j : Int) ∧ c_gv j (g j) = v 1 := rK
  have eK := t_g8 h ni (by omega) rK (by omega)
  have rV : ∃ j : Nat, 12089258196146291747061760 + (1 * v 0 + (0)) = (j : Int) ∧ c_gv j (g j) = v 2 := rV
  have eV := t_g10 h ni (by omega) rV (by omega)
  have rS : ∃ j : Nat, 22969590572677954319420416 + (1 * v 0 + (0)) = (j : Int) ∧ c_gv j (g j) = v 3 := rS
  have eS := t_g19 h ni 3 (by omega) (by omega) rS (by omega)
  have c : t_ky (t_tx g) ni = 3 := by
    unfold t_ky
    rw [if_pos (by omega), show t_v (t_tx g) ni = 12343 by omega]
    decide
  unfold t_isk at eS
  rw [if_pos (show t_ky (t_tx g) ni = ((3 : Nat) : Int) from c)] at eS
  exact ⟨(by show 0 ≤ (-1) + (1 * v 3 + (0)); omega), (by show 0 ≤ 1 + ((-1) * v 3 + (0)); omega), trivial⟩
-- ik3b
theorem t_q201 {g : Nat → Int} (h : t_G g) : t_ok g 1 ([(9671406556917033397649408, [(0, 1)]), (12089258196146291747061760, [(0, 1)]), (22969590572677954319420416, [(0, 1)])], [(0, [(0, 1)]), (700, [(0, (-1))]), (0, [(1, (-1))])], [(0, [(3, 1)]), (0, [(3, (-1))])]) := by
  refine t_okI fun v hr hp => ?_
  obtain ⟨rK, rV, rS, -⟩ := hr
  obtain ⟨p0, p1, p2, -⟩ := hp
  have p0 : 0 ≤ 0 + (1 * v 0 + (0)) := p0
  have p1 : 0 ≤ 700 + ((-1) * v 0 + (0)) := p1
  have p2 : 0 ≤ 0 + ((-1) * v 1 + (0)) := p2
  obtain ⟨ni, hi⟩ : ∃ n : Nat, v 0 = (n : Int) := ⟨(v 0).toNat, by omega⟩
  have rK : ∃ j : Nat, 9671406556917033397649408 + (1 * v 0 + (0)) = (j : Int) ∧ c_gv j (g j) = v 1 := rK
  have eK := t_g8 h ni (by omega) rK (by omega)
  have rV : ∃ j : Nat, 12089258196146291747061760 + (1 * v 0 + (0)) = (j : Int) ∧ c_gv j (g j) = v 2 := rV
  have eV := t_g10 h ni (by omega) rV (by omega)
  have rS : ∃ j : Nat, 22969590572677954319420416 + (1 * v 0 + (0)) = (j : Int) ∧ c_gv j (g j) = v 3 := rS
  have eS := t_g19 h ni 3 (by omega) (by omega) rS (by omega)
  have cy : t_ky (t_tx g) ni = -1 := by
    unfold t_ky
    rw [if_neg (by omega)]
  unfold t_isk at eS
  rw [if_neg (by omega)] at eS
  exact ⟨(by show 0 ≤ 0 + (1 * v 3 + (0)); omega), (by show 0 ≤ 0 + ((-1) * v 3 + (0)); omega), trivial⟩
-- ik3c
theorem t_q202 {g : Nat → Int} (h : t_G g) : t_ok g 1 ([(9671406556917033397649408, [(0, 1)]), (12089258196146291747061760, [(0, 1)]), (22969590572677954319420416, [(0, 1)])], [(0, [(0, 1)]), (700, [(0, (-1))]), ((-2), [(1, 1)])], [(0, [(3, 1)]), (0, [(3, (-1))])]) := by
  refine t_okI fun v hr hp => ?_
  obtain ⟨rK, rV, rS, -⟩ := hr
  obtain ⟨p0, p1, p2, -⟩ := hp
  have p0 : 0 ≤ 0 + (1 * v 0 + (0)) := p0
  have p1 : 0 ≤ 700 + ((-1) * v 0 + (0)) := p1
  have p2 : 0 ≤ (-2) + (1 * v 1 + (0)) := p2
  obtain ⟨ni, hi⟩ : ∃ n : Nat, v 0 = (n : Int) := ⟨(v 0).toNat, by omega⟩
  have rK : ∃ j : Nat, 9671406556917033397649408 + (1 * v 0 + (0)) = (j : Int) ∧ c_gv j (g j) = v 1 := rK
  have eK := t_g8 h ni (by omega) rK (by omega)
  have rV : ∃ j : Nat, 12089258196146291747061760 + (1 * v 0 + (0)) = (j : Int) ∧ c_gv j (g j) = v 2 := rV
  have eV := t_g10 h ni (by omega) rV (by omega)
  have rS : ∃ j : Nat, 22969590572677954319420416 + (1 * v 0 + (0)) = (j : Int) ∧ c_gv j (g j) = v 3 := rS
  have eS := t_g19 h ni 3 (by omega) (by omega) rS (by omega)
  have cy : t_ky (t_tx g) ni = -1 := by
    unfold t_ky
    rw [if_neg (by omega)]
  unfold t_isk at eS
  rw [if_neg (by omega)] at eS
  exact ⟨(by show 0 ≤ 0 + (1 * v 3 + (0)); omega), (by show 0 ≤ 0 + ((-1) * v 3 + (0)); omega), trivial⟩
-- ik3d
theorem t_q203 {g : Nat → Int} (h : t_G g) : t_ok g 1 ([(9671406556917033397649408, [(0, 1)]), (12089258196146291747061760, [(0, 1)]), (22969590572677954319420416, [(0, 1)])], [(0, [(0, 1)]), (700, [(0, (-1))]), (12342, [(2, (-1))])], [(0, [(3, 1)]), (0, [(3, (-1))])]) := by
  refine t_okI fun v hr hp => ?_
  obtain ⟨rK, rV, rS, -⟩ := hr
  obtain ⟨p0, p1, p2, -⟩ := hp
  have p0 : 0 ≤ 0 + (1 * v 0 + (0)) := p0
  have p1 : 0 ≤ 700 + ((-1) * v 0 + (0)) := p1
  have p2 : 0 ≤ 12342 + ((-1) * v 2 + (0)) := p2
  obtain ⟨ni, hi⟩ : ∃ n : Nat, v 0 = (n : Int) := ⟨(v 0).toNat, by omega⟩
  have rK : ∃ j : Nat, 9671406556917033397649408 + (1 * v 0 + (0)) = (j : Int) ∧ c_gv j (g j) = v 1 := rK
  have eK := t_g8 h ni (by omega) rK (by omega)
  have rV : ∃ j : Nat, 12089258196146291747061760 + (1 * v 0 + (0)) = (j : Int) ∧ c_gv j (g j) = v 2 := rV
  have eV := t_g10 h ni (by omega) rV (by omega)
  have rS : ∃ j : Nat, 22969590572677954319420416 + (1 * v 0 + (0)) = (j : Int) ∧ c_gv j (g j) = v 3 := rS
  have eS := t_g19 h ni 3 (by omega) (by omega) rS (by omega)
  unfold t_isk at eS
  rw [if_neg (fun h9 => by have h8 := t_ky_v h9; have h8 : some (12343 : Int) = some (t_v (t_tx g) ni) := h8; have h8 := Option.some.inj h8; omega)] at eS
  exact ⟨(by show 0 ≤ 0 + (1 * v 3 + (0)); omega), (by show 0 ≤ 0 + ((-1) * v 3 + (0)); omega), trivial⟩
-- ik3e
theorem t_q204 {g : Nat → Int} (h : t_G g) : t_ok g 1 ([(9671406556917033397649408, [(0, 1)]), (12089258196146291747061760, [(0, 1)]), (22969590572677954319420416, [(0, 1)])], [(0, [(0, 1)]), (700, [(0, (-1))]), ((-12344), [(2, 1)])], [(0, [(3, 1)]), (0, [(3, (-1))])]) := by
  refine t_okI fun v hr hp => ?_
  obtain ⟨rK, rV, rS, -⟩ := hr
  obtain ⟨p0, p1, p2, -⟩ := hp
  have p0 : 0 ≤ 0 + (1 * v 0 + (0)) := p0
  have p1 : 0 ≤ 700 + ((-1) * v 0 + (0)) := p1
  have p2 : 0 ≤ (-12344) + (1 * v 2 + (0)) := p2
  obtain ⟨ni, hi⟩ : ∃ n : Nat, v 0 = (n : Int) := ⟨(v 0).toNat, by omega⟩
  have rK : ∃ j : Nat, 9671406556917033397649408 + (1 * v 0 + (0)) = (j : Int) ∧ c_gv j (g j) = v 1 := rK
  have eK := t_g8 h ni (by omega) rK (by omega)
  have rV : ∃ j : Nat, 12089258196146291747061760 + (1 * v 0 + (0)) = (j : Int) ∧ c_gv j (g j) = v 2 := rV
  have eV := t_g10 h ni (by omega) rV (by omega)
  have rS : ∃ j : Nat, 22969590572677954319420416 + (1 * v 0 + (0)) = (j : Int) ∧ c_gv j (g j) = v 3 := rS
  have eS := t_g19 h ni 3 (by omega) (by omega) rS (by omega)
  unfold t_isk at eS
  rw [if_neg (fun h9 => by have h8 := t_ky_v h9; have h8 : some (12343 : Int) = some (t_v (t_tx g) ni) := h8; have h8 := Option.some.inj h8; omega)] at eS
  exact ⟨(by show 0 ≤ 0 + (1 * v 3 + (0)); omega), (by show 0 ≤ 0 + ((-1) * v 3 + (0)); omega), trivial⟩
-- ky3
theorem t_q205 {g : Nat → Int} (h : t_G g) : t_ok g 1 ([(22969590572677954319420416, [(0, 1)]), (13298184015760920921767936, [(0, 1)]), (9671406556917033397649408, [(0, 1)])], [(0, [(0, 1)]), (700, [(0, (-1))]), ((-1), [(1, 1)])], [((-3), [(2, 1)]), (3, [(2, (-1))]), ((-1), [(3, 1)]), (1, [(3, (-1))]), ((-1), [(1, 1)]), (1, [(1, (-1))])]) := by
  refine t_okI fun v hr hp => ?_
  obtain ⟨rS, rY, rK, -⟩ := hr
  obtain ⟨p0, p1, p2, -⟩ := hp
  have p0 : 0 ≤ 0 + (1 * v 0 + (0)) := p0
  have p1 : 0 ≤ 700 + ((-1) * v 0 + (0)) := p1
  have p2 : 0 ≤ (-1) + (1 * v 1 + (0)) := p2
  obtain ⟨ni, hi⟩ : ∃ n : Nat, v 0 = (n : Int) := ⟨(v 0).toNat, by omega⟩
  have rS : ∃ j : Nat, 22969590572677954319420416 + (1 * v 0 + (0)) = (j : Int) ∧ c_gv j (g j) = v 1 := rS
  have eS := t_g19 h ni 3 (by omega) (by omega) rS (by omega)
  have rY : ∃ j : Nat, 13298184015760920921767936 + (1 * v 0 + (0)) = (j : Int) ∧ c_gv j (g j) = v 2 := rY
  have eY := t_g11 h ni (by omega) rY (by omega)
  have rK : ∃ j : Nat, 9671406556917033397649408 + (1 * v 0 + (0)) = (j : Int) ∧ c_gv j (g j) = v 3 := rK
  have eK := t_g8 h ni (by omega) rK (by omega)
  have ceS : t_ky (t_tx g) ni = 3 := by
    unfold t_isk at eS
    by_cases h9 : t_ky (t_tx g) ni = ((3 : Nat) : Int)
    · exact h9
    · rw [if_neg h9] at eS
      omega
  have ck := t_ky_k (X := t_tx g) (i := ni) (by omega)
  unfold t_isk at eS
  rw [if_pos (show t_ky (t_tx g) ni = ((3 : Nat) : Int) from ceS)] at eS
  exact ⟨(by show 0 ≤ (-3) + (1 * v 2 + (0)); omega), (by show 0 ≤ 3 + ((-1) * v 2 + (0)); omega), (by show 0 ≤ (-1) + (1 * v 3 + (0)); omega), (by show 0 ≤ 1 + ((-1) * v 3 + (0)); omega), (by show 0 ≤ (-1) + (1 * v 1 + (0)); omega), (by show 0 ≤ 1 + ((-1) * v 1 + (0)); omega), trivial⟩
-- ik4a
theorem t_q206 {g : Nat → Int} (h : t_G g) : t_ok g 1 ([(9671406556917033397649408, [(0, 1)]), (12089258196146291747061760, [(0, 1)]), (22969590572677954319421440, [(0, 1)])], [(0, [(0, 1)]), (700, [(0, (-1))]), ((-1), [(1, 1)]), (1, [(1, (-1))]), ((-824370), [(2, 1)]), (824370, [(2, (-1))])], [((-1), [(3, 1)]), (1, [(3, (-1))])]) := by
  refine t_okI fun v hr hp => ?_
  obtain ⟨rK, rV, rS, -⟩ := hr
  obtain ⟨p0, p1, p2, p3, p4, p5, -⟩ := hp
  have p0 : 0 ≤ 0 + (1 * v 0 + (0)) := p0
  have p1 : 0 ≤ 700 + ((-1) * v 0 + (0)) := p1
  have p2 : 0 ≤ (-1) + (1 * v 1 + (0)) := p2
  have p3 : 0 ≤ 1 + ((-1) * v 1 + (0)) := p3
  have p4 : 0 ≤ (-824370) + (1 * v 2 + (0)) := p4
  have p5 : 0 ≤ 824370 + ((-1) * v 2 + (0)) := p5
  obtain ⟨ni, hi⟩ : ∃ n : Nat, v 0 = (n : Int) := ⟨(v 0).toNat, by omega⟩
  have rK : ∃ j : Nat, 9671406556917033397649408 + (1 * v 0 + (0)) = (j : Int) ∧ c_gv j (g j) = v 1 := rK
  have eK := t_g8 h ni (by omega) rK (by omega)
  have rV : ∃ j : Nat, 12089258196146291747061760 + (1 * v 0 + (0)) = (j : Int) ∧ c_gv j (g j) = v 2 := rV
  have eV := t_g10 h ni (by omega) rV (by omega)
  have rS : ∃ j : Nat, 22969590572677954319421440 + (1 * v 0 + (0)) = (j : Int) ∧ c_gv j (g j) = v 3 := rS
  have eS := t_g19 h ni 4 (by omega) (by omega) rS (by omega)
  have c : t_ky (t_tx g) ni = 4 := by
    unfold t_ky
    rw [if_pos (by omega), show t_v (t_tx g) ni = 824370 by omega]
    decide
  unfold t_isk at eS
  rw [if_pos (show t_ky (t_tx g) ni = ((4 : Nat) : Int) from c)] at eS
  exact ⟨(by show 0 ≤ (-1) + (1 * v 3 + (0)); omega), (by show 0 ≤ 1 + ((-1) * v 3 + (0)); omega), trivial⟩
-- ik4b
theorem t_q207 {g : Nat → Int} (h : t_G g) : t_ok g 1 ([(9671406556917033397649408, [(0, 1)]), (12089258196146291747061760, [(0, 1)]), (22969590572677954319421440, [(0, 1)])], [(0, [(0, 1)]), (700, [(0, (-1))]), (0, [(1, (-1))])], [(0, [(3, 1)]), (0, [(3, (-1))])]) := by
  refine t_okI fun v hr hp => ?_
  obtain ⟨rK, rV, rS, -⟩ := hr
  obtain ⟨p0, p1, p2, -⟩ := hp
  have p0 : 0 ≤ 0 + (1 * v 0 + (0)) := p0
  have p1 : 0 ≤ 700 + ((-1) * v 0 + (0)) := p1
  have p2 : 0 ≤ 0 + ((-1) * v 1 + (0)) := p2
  obtain ⟨ni, hi⟩ : ∃ n : Nat, v 0 = (n : Int) := ⟨(v 0).toNat, by omega⟩
  have rK : ∃ j : Nat, 9671406556917033397649408 + (1 * v 0 + (0)) = (j : Int) ∧ c_gv j (g j) = v 1 := rK
  have eK := t_g8 h ni (by omega) rK (by omega)
  have rV : ∃ j : Nat, 12089258196146291747061760 + (1 * v 0 + (0)) = (j : Int) ∧ c_gv j (g j) = v 2 := rV
  have eV := t_g10 h ni (by omega) rV (by omega)
  have rS : ∃ j : Nat, 22969590572677954319421440 + (1 * v 0 + (0)) = (j : Int) ∧ c_gv j (g j) = v 3 := rS
  have eS := t_g19 h ni 4 (by omega) (by omega) rS (by omega)
  have cy : t_ky (t_tx g) ni = -1 := by
    unfold t_ky
    rw [if_neg (by omega)]
  unfold t_isk at eS
  rw [if_neg (by omega)] at eS
  exact ⟨(by show 0 ≤ 0 + (1 * v 3 + (0)); omega), (by show 0 ≤ 0 + ((-1) * v 3 + (0)); omega), trivial⟩
-- ik4c
theorem t_q208 {g : Nat → Int} (h : t_G g) : t_ok g 1 ([(9671406556917033397649408, [(0, 1)]), (12089258196146291747061760, [(0, 1)]), (22969590572677954319421440, [(0, 1)])], [(0, [(0, 1)]), (700, [(0, (-1))]), ((-2), [(1, 1)])], [(0, [(3, 1)]), (0, [(3, (-1))])]) := by
  refine t_okI fun v hr hp => ?_
  obtain ⟨rK, rV, rS, -⟩ := hr
  obtain ⟨p0, p1, p2, -⟩ := hp
  have p0 : 0 ≤ 0 + (1 * v 0 + (0)) := p0
  have p1 : 0 ≤ 700 + ((-1) * v 0 + (0)) := p1
  have p2 : 0 ≤ (-2) + (1 * v 1 + (0)) := p2
  obtain ⟨ni, hi⟩ : ∃ n : Nat, v 0 = (n : Int) := ⟨(v 0).toNat, by omega⟩
  have rK : ∃ j : Nat, 9671406556917033397649408 + (1 * v 0 + (0)) = (j : Int) ∧ c_gv j (g j) = v 1 := rK
  have eK := t_g8 h ni (by omega) rK (by omega)
  have rV : ∃ j : Nat, 12089258196146291747061760 + (1 * v 0 + (0)) = (j : Int) ∧ c_gv j (g j) = v 2 := rV
  have eV := t_g10 h ni (by omega) rV (by omega)
  have rS : ∃ j : Nat, 22969590572677954319421440 + (1 * v 0 + (0)) = (j : Int) ∧ c_gv j (g j) = v 3 := rS
  have eS := t_g19 h ni 4 (by omega) (by omega) rS (by omega)
  have cy : t_ky (t_tx g) ni = -1 := by
    unfold t_ky
    rw [if_neg (by omega)]
  unfold t_isk at eS
  rw [if_neg (by omega)] at eS
  exact ⟨(by show 0 ≤ 0 + (1 * v 3 + (0)); omega), (by show 0 ≤ 0 + ((-1) * v 3 + (0)); omega), trivial⟩
-- ik4d
theorem t_q209 {g : Nat → Int} (h : t_G g) : t_ok g 1 ([(9671406556917033397649408, [(0, 1)]), (12089258196146291747061760, [(0, 1)]), (22969590572677954319421440, [(0, 1)])], [(0, [(0, 1)]), (700, [(0, (-1))]), (824369, [(2, (-1))])], [(0, [(3, 1)]), (0, [(3, (-1))])]) := by
  refine t_okI fun v hr hp => ?_
  obtain ⟨rK, rV, rS, -⟩ := hr
  obtain ⟨p0, p1, p2, -⟩ := hp
  have p0 : 0 ≤ 0 + (1 * v 0 + (0)) := p0
  have p1 : 0 ≤ 700 + ((-1) * v 0 + (0)) := p1
  have p2 : 0 ≤ 824369 + ((-1) * v 2 + (0)) := p2
  obtain ⟨ni, hi⟩ : ∃ n : Nat, v 0 = (n : Int) := ⟨(v 0).toNat, by omega⟩
  have rK : ∃ j : Nat, 9671406556917033397649408 + (1 * v 0 + (0)) = (j : Int) ∧ c_gv j (g j) = v 1 := rK
  have eK := t_g8 h ni (by omega) rK (by omega)
  have rV : ∃ j : Nat, 12089258196146291747061760 + (1 * v 0 + (0)) = (j : Int) ∧ c_gv j (g j) = v 2 := rV
  have eV := t_g10 h ni (by omega) rV (by omega)
  have rS : ∃ j : Nat, 22969590572677954319421440 + (1 * v 0 + (0)) = (j : Int) ∧ c_gv j (g j) = v 3 := rS
  have eS := t_g19 h ni 4 (by omega) (by omega) rS (by omega)
  unfold t_isk at eS
  rw [if_neg (fun h9 => by have h8 := t_ky_v h9; have h8 : some (824370 : Int) = some (t_v (t_tx g) ni) := h8; have h8 := Option.some.inj h8; omega)] at eS
  exact ⟨(by show 0 ≤ 0 + (1 * v 3 + (0)); omega), (by show 0 ≤ 0 + ((-1) * v 3 + (0)); omega), trivial⟩
-- ik4e
theorem t_q210 {g : Nat → Int} (h : t_G g) : t_ok g 1 ([(9671406556917033397649408, [(0, 1)]), (12089258196146291747061760, [(0, 1)]), (22969590572677954319421440, [(0, 1)])], [(0, [(0, 1)]), (700, [(0, (-1))]), ((-824371), [(2, 1)])], [(0, [(3, 1)]), (0, [(3, (-1))])]) := by
  refine t_okI fun v hr hp => ?_
  obtain ⟨rK, rV, rS, -⟩ := hr
  obtain ⟨p0, p1, p2, -⟩ := hp
  have p0 : 0 ≤ 0 + (1 * v 0 + (0)) := p0
  have p1 : 0 ≤ 700 + ((-1) * v 0 + (0)) := p1
  have p2 : 0 ≤ (-824371) + (1 * v 2 + (0)) := p2
  obtain ⟨ni, hi⟩ : ∃ n : Nat, v 0 = (n : Int) := ⟨(v 0).toNat, by omega⟩
  have rK : ∃ j : Nat, 9671406556917033397649408 + (1 * v 0 + (0)) = (j : Int) ∧ c_gv j (g j) = v 1 := rK
  have eK := t_g8 h ni (by omega) rK (by omega)
  have rV : ∃ j : Nat, 12089258196146291747061760 + (1 * v 0 + (0)) = (j : Int) ∧ c_gv j (g j) = v 2 := rV
  have eV := t_g10 h ni (by omega) rV (by omega)
  have rS : ∃ j : Nat, 22969590572677954319421440 + (1 * v 0 + (0)) = (j : Int) ∧ c_gv j (g j) = v 3 := rS
  have eS := t_g19 h ni 4 (by omega) (by omega) rS (by omega)
  unfold t_isk at eS
  rw [if_neg (fun h9 => by have h8 := t_ky_v h9; have h8 : some (824370 : Int) = some (t_v (t_tx g) ni) := h8; have h8 := Option.some.inj h8; omega)] at eS
  exact ⟨(by show 0 ≤ 0 + (1 * v 3 + (0)); omega), (by show 0 ≤ 0 + ((-1) * v 3 + (0)); omega), trivial⟩
-- ky4
theorem t_q211 {g : Nat → Int} (h : t_G g) : t_ok g 1 ([(22969590572677954319421440, [(0, 1)]), (13298184015760920921767936, [(0, 1)]), (9671406556917033397649408, [(0, 1)])], [(0, [(0, 1)]), (700, [(0, (-1))]), ((-1), [(1, 1)])], [((-4), [(2, 1)]), (4, [(2, (-1))]), ((-1), [(3, 1)]), (1, [(3, (-1))]), ((-1), [(1, 1)]), (1, [(1, (-1))])]) := by
  refine t_okI fun v hr hp => ?_
  obtain ⟨rS, rY, rK, -⟩ := hr
  obtain ⟨p0, p1, p2, -⟩ := hp
  have p0 : 0 ≤ 0 + (1 * v 0 + (0)) := p0
  have p1 : 0 ≤ 700 + ((-1) * v 0 + (0)) := p1
  have p2 : 0 ≤ (-1) + (1 * v 1 + (0)) := p2
  obtain ⟨ni, hi⟩ : ∃ n : Nat, v 0 = (n : Int) := ⟨(v 0).toNat, by omega⟩
  have rS : ∃ j : Nat, 22969590572677954319421440 + (1 * v 0 + (0)) = (j : Int) ∧ c_gv j (g j) = v 1 := rS
  have eS := t_g19 h ni 4 (by omega) (by omega) rS (by omega)
  have rY : ∃ j : Nat, 13298184015760920921767936 + (1 * v 0 + (0)) = (j : Int) ∧ c_gv j (g j) = v 2 := rY
  have eY := t_g11 h ni (by omega) rY (by omega)
  have rK : ∃ j : Nat, 9671406556917033397649408 + (1 * v 0 + (0)) = (j : Int) ∧ c_gv j (g j) = v 3 := rK
  have eK := t_g8 h ni (by omega) rK (by omega)
  have ceS : t_ky (t_tx g) ni = 4 := by
    unfold t_isk at eS
    by_cases h9 : t_ky (t_tx g) ni = ((4 : Nat) : Int)
    · exact h9
    · rw [if_neg h9] at eS
      omega
  have ck := t_ky_k (X := t_tx g) (i := ni) (by omega)
  unfold t_isk at eS
  rw [if_pos (show t_ky (t_tx g) ni = ((4 : Nat) : Int) from ceS)] at eS
  exact ⟨(by show 0 ≤ (-4) + (1 * v 2 + (0)); omega), (by show 0 ≤ 4 + ((-1) * v 2 + (0)); omega), (by show 0 ≤ (-1) + (1 * v 3 + (0)); omega), (by show 0 ≤ 1 + ((-1) * v 3 + (0)); omega), (by show 0 ≤ (-1) + (1 * v 1 + (0)); omega), (by show 0 ≤ 1 + ((-1) * v 1 + (0)); omega), trivial⟩
-- ik5a
theorem t_q212 {g : Nat → Int} (h : t_G g) : t_ok g 1 ([(9671406556917033397649408, [(0, 1)]), (12089258196146291747061760, [(0, 1)]), (22969590572677954319422464, [(0, 1)])], [(0, [(0, 1)]), (700, [(0, (-1))]), ((-1), [(1, 1)]), (1, [(1, (-1))]), ((-659100852), [(2, 1)]), (659100852, [(2, (-1))])], [((-1), [(3, 1)]), (1, [(3, (-1))])]) := by
  refine t_okI fun v hr hp => ?_
  obtain ⟨rK, rV, rS, -⟩ := hr
  obtain ⟨p0, p1, p2, p3, p4, p5, -⟩ := hp
  have p0 : 0 ≤ 0 + (1 * v 0 + (0)) := p0
  have p1 : 0 ≤ 700 + ((-1) * v 0 + (0)) := p1
  have p2 : 0 ≤ (-1) + (1 * v 1 + (0)) := p2
  have p3 : 0 ≤ 1 + ((-1) * v 1 + (0)) := p3
  have p4 : 0 ≤ (-659100852) + (1 * v 2 + (0)) := p4
  have p5 : 0 ≤ 659100852 + ((-1) * v 2 + (0)) := p5
  obtain ⟨ni, hi⟩ : ∃ n : Nat, v 0 = (n : Int) := ⟨(v 0).toNat, by omega⟩
  have rK : ∃ j : Nat, 9671406556917033397649408 + (1 * v 0 + (0)) = (j : Int) ∧ c_gv j (g j) = v 1 := rK
  have eK := t_g8 h ni (by omega) rK (by omega)
  have rV : ∃ j : Nat, 12089258196146291747061760 + (1 * v 0 + (0)) = (j : Int) ∧ c_gv j (g j) = v 2 := rV
  have eV := t_g10 h ni (by omega) rV (by omega)
  have rS : ∃ j : Nat, 22969590572677954319422464 + (1 * v 0 + (0)) = (j : Int) ∧ c_gv j (g j) = v 3 := rS
  have eS := t_g19 h ni 5 (by omega) (by omega) rS (by omega)
  have c : t_ky (t_tx g) ni = 5 := by
    unfold t_ky
    rw [if_pos (by omega), show t_v (t_tx g) ni = 659100852 by omega]
    decide
  unfold t_isk at eS
  rw [if_pos (show t_ky (t_tx g) ni = ((5 : Nat) : Int) from c)] at eS
  exact ⟨(by show 0 ≤ (-1) + (1 * v 3 + (0)); omega), (by show 0 ≤ 1 + ((-1) * v 3 + (0)); omega), trivial⟩
-- ik5b
theorem t_q213 {g : Nat → Int} (h : t_G g) : t_ok g 1 ([(9671406556917033397649408, [(0, 1)]), (12089258196146291747061760, [(0, 1)]), (22969590572677954319422464, [(0, 1)])], [(0, [(0, 1)]), (700, [(0, (-1))]), (0, [(1, (-1))])], [(0, [(3, 1)]), (0, [(3, (-1))])]) := by
  refine t_okI fun v hr hp => ?_
  obtain ⟨rK, rV, rS, -⟩ := hr
  obtain ⟨p0, p1, p2, -⟩ := hp
  have p0 : 0 ≤ 0 + (1 * v 0 + (0)) := p0
  have p1 : 0 ≤ 700 + ((-1) * v 0 + (0)) := p1
  have p2 : 0 ≤ 0 + ((-1) * v 1 + (0)) := p2
  obtain ⟨ni, hi⟩ : ∃ n : Nat, v 0 = (n : Int) := ⟨(v 0).toNat, by omega⟩
  have rK : ∃ j : Nat, 9671406556917033397649408 + (1 * v 0 + (0)) = (j : Int) ∧ c_gv j (g j) = v 1 := rK
  have eK := t_g8 h ni (by omega) rK (by omega)
  have rV : ∃ j : Nat, 12089258196146291747061760 + (1 * v 0 + (0)) = (j : Int) ∧ c_gv j (g j) = v 2 := rV
  have eV := t_g10 h ni (by omega) rV (by omega)
  have rS : ∃ j : Nat, 22969590572677954319422464 + (1 * v 0 + (0)) = (j : Int) ∧ c_gv j (g j) = v 3 := rS
  have eS := t_g19 h ni 5 (by omega) (by omega) rS (by omega)
  have cy : t_ky (t_tx g) ni = -1 := by
    unfold t_ky
    rw [if_neg (by omega)]
  unfold t_isk at eS
  rw [if_neg (by omega)] at eS
  exact ⟨(by show 0 ≤ 0 + (1 * v 3 + (0)); omega), (by show 0 ≤ 0 + ((-1) * v 3 + (0)); omega), trivial⟩
-- ik5c
theorem t_q214 {g : Nat → Int} (h : t_G g) : t_ok g 1 ([(9671406556917033397649408, [(0, 1)]), (12089258196146291747061760, [(0, 1)]), (22969590572677954319422464, [(0, 1)])], [(0, [(0, 1)]), (700, [(0, (-1))]), ((-2), [(1, 1)])], [(0, [(3, 1)]), (0, [(3, (-1))])]) := by
  refine t_okI fun v hr hp => ?_
  obtain ⟨rK, rV, rS, -⟩ := hr
  obtain ⟨p0, p1, p2, -⟩ := hp
  have p0 : 0 ≤ 0 + (1 * v 0 + (0)) := p0
  have p1 : 0 ≤ 700 + ((-1) * v 0 + (0)) := p1
  have p2 : 0 ≤ (-2) + (1 * v 1 + (0)) := p2
  obtain ⟨ni, hi⟩ : ∃ n : Nat, v 0 = (n : Int) := ⟨(v 0).toNat, by omega⟩
  have rK : ∃ j : Nat, 9671406556917033397649408 + (1 * v 0 + (0)) = (j : Int) ∧ c_gv j (g j) = v 1 := rK
  have eK := t_g8 h ni (by omega) rK (by omega)
  have rV : ∃ j : Nat, 12089258196146291747061760 + (1 * v 0 + (0)) = (j : Int) ∧ c_gv j (g j) = v 2 := rV
  have eV := t_g10 h ni (by omega) rV (by omega)
  have rS : ∃ j : Nat, 22969590572677954319422464 + (1 * v 0 + (0)) = (j : Int) ∧ c_gv j (g j) = v 3 := rS
  have eS := t_g19 h ni 5 (by omega) (by omega) rS (by omega)
  have cy : t_ky (t_tx g) ni = -1 := by
    unfold t_ky
    rw [if_neg (by omega)]
  unfold t_isk at eS
  rw [if_neg (by omega)] at eS
  exact ⟨(by show 0 ≤ 0 + (1 * v 3 + (0)); omega), (by show 0 ≤ 0 + ((-1) * v 3 + (0)); omega), trivial⟩
-- ik5d
theorem t_q215 {g : Nat → Int} (h : t_G g) : t_ok g 1 ([(9671406556917033397649408, [(0, 1)]), (12089258196146291747061760, [(0, 1)]), (22969590572677954319422464, [(0, 1)])], [(0, [(0, 1)]), (700, [(0, (-1))]), (659100851, [(2, (-1))])], [(0, [(3, 1)]), (0, [(3, (-1))])]) := by
  refine t_okI fun v hr hp => ?_
  obtain ⟨rK, rV, rS, -⟩ := hr
  obtain ⟨p0, p1, p2, -⟩ := hp
  have p0 : 0 ≤ 0 + (1 * v 0 + (0)) := p0
  have p1 : 0 ≤ 700 + ((-1) * v 0 + (0)) := p1
  have p2 : 0 ≤ 659100851 + ((-1) * v 2 + (0)) := p2
  obtain ⟨ni, hi⟩ : ∃ n : Nat, v 0 = (n : Int) := ⟨(v 0).toNat, by omega⟩
  have rK : ∃ j : Nat, 9671406556917033397649408 + (1 * v 0 + (0)) = (j : Int) ∧ c_gv j (g j) = v 1 := rK
  have eK := t_g8 h ni (by omega) rK (by omega)
  have rV : ∃ j : Nat, 12089258196146291747061760 + (1 * v 0 + (0)) = (j : Int) ∧ c_gv j (g j) = v 2 := rV
  have eV := t_g10 h ni (by omega) rV (by omega)
  have rS : ∃ j : Nat, 22969590572677954319422464 + (1 * v 0 + (0)) = (j : Int) ∧ c_gv j (g j) = v 3 := rS
  have eS := t_g19 h ni 5 (by omega) (by omega) rS (by omega)
  unfold t_isk at eS
  rw [if_neg (fun h9 => by have h8 := t_ky_v h9; have h8 : some (659100852 : Int) = some (t_v (t_tx g) ni) := h8; have h8 := Option.some.inj h8; omega)] at eS
  exact ⟨(by show 0 ≤ 0 + (1 * v 3 + (0)); omega), (by show 0 ≤ 0 + ((-1) * v 3 + (0)); omega), trivial⟩
-- ik5e
theorem t_q216 {g : Nat → Int} (h : t_G g) : t_ok g 1 ([(9671406556917033397649408, [(0, 1)]), (12089258196146291747061760, [(0, 1)]), (22969590572677954319422464, [(0, 1)])], [(0, [(0, 1)]), (700, [(0, (-1))]), ((-659100853), [(2, 1)])], [(0, [(3, 1)]), (0, [(3, (-1))])]) := by
  refine t_okI fun v hr hp => ?_
  obtain ⟨rK, rV, rS, -⟩ := hr
  obtain ⟨p0, p1, p2, -⟩ := hp
  have p0 : 0 ≤ 0 + (1 * v 0 + (0)) := p0
  have p1 : 0 ≤ 700 + ((-1) * v 0 + (0)) := p1
  have p2 : 0 ≤ (-659100853) + (1 * v 2 + (0)) := p2
  obtain ⟨ni, hi⟩ : ∃ n : Nat, v 0 = (n : Int) := ⟨(v 0).toNat, by omega⟩
  have rK : ∃ j : Nat, 9671406556917033397649408 + (1 * v 0 + (0)) = (j : Int) ∧ c_gv j (g j) = v 1 := rK
  have eK := t_g8 h ni (by omega) rK (by omega)
  have rV : ∃ j : Nat, 12089258196146291747061760 + (1 * v 0 + (0)) = (j : Int) ∧ c_gv j (g j) = v 2 := rV
  have eV := t_g10 h ni (by omega) rV (by omega)
  have rS : ∃ j : Nat, 22969590572677954319422464 + (1 * v 0 + (0)) = (j : Int) ∧ c_gv j (g j) = v 3 := rS
  have eS := t_g19 h ni 5 (by omega) (by omega) rS (by omega)
  unfold t_isk at eS
  rw [if_neg (fun h9 => by have h8 := t_ky_v h9; have h8 : some (659100852 : Int) = some (t_v (t_tx g) ni) := h8; have h8 := Option.some.inj h8; omega)] at eS
  exact ⟨(by show 0 ≤ 0 + (1 * v 3 + (0)); omega), (by show 0 ≤ 0 + ((-1) * v 3 + (0)); omega), trivial⟩
-- ky5
theorem t_q217 {g : Nat → Int} (h : t_G g) : t_ok g 1 ([(22969590572677954319422464, [(0, 1)]), (13298184015760920921767936, [(0, 1)]), (9671406556917033397649408, [(0, 1)])], [(0, [(0, 1)]), (700, [(0, (-1))]), ((-1), [(1, 1)])], [((-5), [(2, 1)]), (5, [(2, (-1))]), ((-1), [(3, 1)]), (1, [(3, (-1))]), ((-1), [(1, 1)]), (1, [(1, (-1))])]) := by
  refine t_okI fun v hr hp => ?_
  obtain ⟨rS, rY, rK, -⟩ := hr
  obtain ⟨p0, p1, p2, -⟩ := hp
  have p0 : 0 ≤ 0 + (1 * v 0 + (0)) := p0
  have p1 : 0 ≤ 700 + ((-1) * v 0 + (0)) := p1
  have p2 : 0 ≤ (-1) + (1 * v 1 + (0)) := p2
  obtain ⟨ni, hi⟩ : ∃ n : Nat, v 0 = (n : Int) := ⟨(v 0).toNat, by omega⟩
  have rS : ∃ j : Nat, 22969590572677954319422464 + (1 * v 0 + (0)) = (j : Int) ∧ c_gv j (g j) = v 1 := rS
  have eS := t_g19 h ni 5 (by omega) (by omega) rS (by omega)
  have rY : ∃ j : Nat, 13298184015760920921767936 + (1 * v 0 + (0)) = (j : Int) ∧ c_gv j (g j) = v 2 := rY
  have eY := t_g11 h ni (by omega) rY (by omega)
  have rK : ∃ j : Nat, 9671406556917033397649408 + (1 * v 0 + (0)) = (j : Int) ∧ c_gv j (g j) = v 3 := rK
  have eK := t_g8 h ni (by omega) rK (by omega)
  have ceS : t_ky (t_tx g) ni = 5 := by
    unfold t_isk at eS
    by_cases h9 : t_ky (t_tx g) ni = ((5 : Nat) : Int)
    · exact h9
    · rw [if_neg h9] at eS
      omega
  have ck := t_ky_k (X := t_tx g) (i := ni) (by omega)
  unfold t_isk at eS
  rw [if_pos (show t_ky (t_tx g) ni = ((5 : Nat) : Int) from ceS)] at eS
  exact ⟨(by show 0 ≤ (-5) + (1 * v 2 + (0)); omega), (by show 0 ≤ 5 + ((-1) * v 2 + (0)); omega), (by show 0 ≤ (-1) + (1 * v 3 + (0)); omega), (by show 0 ≤ 1 + ((-1) * v 3 + (0)); omega), (by show 0 ≤ (-1) + (1 * v 1 + (0)); omega), (by show 0 ≤ 1 + ((-1) * v 1 + (0)); omega), trivial⟩
-- ik6a
theorem t_q218 {g : Nat → Int} (h : t_G g) : t_ok g 1 ([(9671406556917033397649408, [(0, 1)]), (12089258196146291747061760, [(0, 1)]), (22969590572677954319423488, [(0, 1)])], [(0, [(0, 1)]), (700, [(0, (-1))]), ((-1), [(1, 1)]), (1, [(1, (-1))]), ((-8500), [(2, 1)]), (8500, [(2, (-1))])], [((-1), [(3, 1)]), (1, [(3, (-1))])]) := by
  refine t_okI fun v hr hp => ?_
  obtain ⟨rK, rV, rS, -⟩ := hr
  obtain ⟨p0, p1, p2, p3, p4, p5, -⟩ := hp
  have p0 : 0 ≤ 0 + (1 * v 0 + (0)) := p0
  have p1 : 0 ≤ 700 + ((-1) * v 0 + (0)) := p1
  have p2 : 0 ≤ (-1) + (1 * v 1 + (0)) := p2
  have p3 : 0 ≤ 1 + ((-1) * v 1 + (0)) := p3
  have p4 : 0 ≤ (-8500) + (1 * v 2 + (0)) := p4
  have p5 : 0 ≤ 8500 + ((-1) * v 2 + (0)) := p5
  obtain ⟨ni, hi⟩ : ∃ n : Nat, v 0 = (n : Int) := ⟨(v 0).toNat, by omega⟩
  have rK : ∃ j : Nat, 9671406556917033397649408 + (1 * v 0 + (0)) = (j : Int) ∧ c_gv j (g j) = v 1 := rK
  have eK := t_g8 h ni (by omega) rK (by omega)
  have rV : ∃ j : Nat, 12089258196146291747061760 + (1 * v 0 + (0)) = (j : Int) ∧ c_gv j (g j) = v 2 := rV
  have eV := t_g10 h ni (by omega) rV (by omega)
  have rS : ∃ j : Nat, 22969590572677954319423488 + (1 * v 0 + (0)) = (j : Int) ∧ c_gv j (g j) = v 3 := rS
  have eS := t_g19 h ni 6 (by omega) (by omega) rS (by omega)
  have c : t_ky (t_tx g) ni = 6 := by
    unfold t_ky
    rw [if_pos (by omega), show t_v (t_tx g) ni = 8500 by omega]
    decide
  unfold t_isk at eS
  rw [if_pos (show t_ky (t_tx g) ni = ((6 : Nat) : Int) from c)] at eS
  exact ⟨(by show 0 ≤ (-1) + (1 * v 3 + (0)); omega), (by show 0 ≤ 1 + ((-1) * v 3 + (0)); omega), trivial⟩
-- ik6b
theorem t_q219 {g : Nat → Int} (h : t_G g) : t_ok g 1 ([(9671406556917033397649408, [(0, 1)]), (12089258196146291747061760, [(0, 1)]), (22969590572677954319423488, [(0, 1)])], [(0, [(0, 1)]), (700, [(0, (-1))]), (0, [(1, (-1))])], [(0, [(3, 1)]), (0, [(3, (-1))])]) := by
  refine t_okI fun v hr hp => ?_
  obtain ⟨rK, rV, rS, -⟩ := hr
  obtain ⟨p0, p1, p2, -⟩ := hp
  have p0 : 0 ≤ 0 + (1 * v 0 + (0)) := p0
  have p1 : 0 ≤ 700 + ((-1) * v 0 + (0)) := p1
  have p2 : 0 ≤ 0 + ((-1) * v 1 + (0)) := p2
  obtain ⟨ni, hi⟩ : ∃ n : Nat, v 0 = (n : Int) := ⟨(v 0).toNat, by omega⟩
  have rK : ∃ j : Nat, 9671406556917033397649408 + (1 * v 0 + (0)) = (j : Int) ∧ c_gv j (g j) = v 1 := rK
  have eK := t_g8 h ni (by omega) rK (by omega)
  have rV : ∃ j : Nat, 12089258196146291747061760 + (1 * v 0 + (0)) = (j : Int) ∧ c_gv j (g j) = v 2 := rV
  have eV := t_g10 h ni (by omega) rV (by omega)
  have rS : ∃ j : Nat, 22969590572677954319423488 + (1 * v 0 + (0)) = (j : Int) ∧ c_gv j (g j) = v 3 := rS
  have eS := t_g19 h ni 6 (by omega) (by omega) rS (by omega)
  have cy : t_ky (t_tx g) ni = -1 := by
    unfold t_ky
    rw [if_neg (by omega)]
  unfold t_isk at eS
  rw [if_neg (by omega)] at eS
  exact ⟨(by show 0 ≤ 0 + (1 * v 3 + (0)); omega), (by show 0 ≤ 0 + ((-1) * v 3 + (0)); omega), trivial⟩
-- ik6c
theorem t_q220 {g : Nat → Int} (h : t_G g) : t_ok g 1 ([(9671406556917033397649408, [(0, 1)]), (12089258196146291747061760, [(0, 1)]), (22969590572677954319423488, [(0, 1)])], [(0, [(0, 1)]), (700, [(0, (-1))]), ((-2), [(1, 1)])], [(0, [(3, 1)]), (0, [(3, (-1))])]) := by
  refine t_okI fun v hr hp => ?_
  obtain ⟨rK, rV, rS, -⟩ := hr
  obtain ⟨p0, p1, p2, -⟩ := hp
  have p0 : 0 ≤ 0 + (1 * v 0 + (0)) := p0
  have p1 : 0 ≤ 700 + ((-1) * v 0 + (0)) := p1
  have p2 : 0 ≤ (-2) + (1 * v 1 + (0)) := p2
  obtain ⟨ni, hi⟩ : ∃ n : Nat, v 0 = (n : Int) := ⟨(v 0).toNat, by omega⟩
  have rK : ∃ j : Nat, 9671406556917033397649408 + (1 * v 0 + (0)) = (j : Int) ∧ c_gv j (g j) = v 1 := rK
  have eK := t_g8 h ni (by omega) rK (by omega)
  have rV : ∃ j : Nat, 12089258196146291747061760 + (1 * v 0 + (0)) = (j : Int) ∧ c_gv j (g j) = v 2 := rV
  have eV := t_g10 h ni (by omega) rV (by omega)
  have rS : ∃ j : Nat, 22969590572677954319423488 + (1 * v 0 + (0)) = (j : Int) ∧ c_gv j (g j) = v 3 := rS
  have eS := t_g19 h ni 6 (by omega) (by omega) rS (by omega)
  have cy : t_ky (t_tx g) ni = -1 := by
    unfold t_ky
    rw [if_neg (by omega)]
  unfold t_isk at eS
  rw [if_neg (by omega)] at eS
  exact ⟨(by show 0 ≤ 0 + (1 * v 3 + (0)); omega), (by show 0 ≤ 0 + ((-1) * v 3 + (0)); omega), trivial⟩
-- ik6d
theorem t_q221 {g : Nat → Int} (h : t_G g) : t_ok g 1 ([(9671406556917033397649408, [(0, 1)]), (12089258196146291747061760, [(0, 1)]), (22969590572677954319423488, [(0, 1)])], [(0, [(0, 1)]), (700, [(0, (-1))]), (8499, [(2, (-1))])], [(0, [(3, 1)]), (0, [(3, (-1))])]) := by
  refine t_okI fun v hr hp => ?_
  obtain ⟨rK, rV, rS, -⟩ := hr
  obtain ⟨p0, p1, p2, -⟩ := hp
  have p0 : 0 ≤ 0 + (1 * v 0 + (0)) := p0
  have p1 : 0 ≤ 700 + ((-1) * v 0 + (0)) := p1
  have p2 : 0 ≤ 8499 + ((-1) * v 2 + (0)) := p2
  obtain ⟨ni, hi⟩ : ∃ n : Nat, v 0 = (n : Int) := ⟨(v 0).toNat, by omega⟩
  have rK : ∃ j : Nat, 9671406556917033397649408 + (1 * v 0 + (0)) = (j : Int) ∧ c_gv j (g j) = v 1 := rK
  have eK := t_g8 h ni (by omega) rK (by omega)
  have rV : ∃ j : Nat, 12089258196146291747061760 + (1 * v 0 + (0)) = (j : Int) ∧ c_gv j (g j) = v 2 := rV
  have eV := t_g10 h ni (by omega) rV (by omega)
  have rS : ∃ j : Nat, 22969590572677954319423488 + (1 * v 0 + (0)) = (j : Int) ∧ c_gv j (g j) = v 3 := rS
  have eS := t_g19 h ni 6 (by omega) (by omega) rS (by omega)
  unfold t_isk at eS
  rw [if_neg (fun h9 => by have h8 := t_ky_v h9; have h8 : some (8500 : Int) = some (t_v (t_tx g) ni) := h8; have h8 := Option.some.inj h8; omega)] at eS
  exact ⟨(by show 0 ≤ 0 + (1 * v 3 + (0)); omega), (by show 0 ≤ 0 + ((-1) * v 3 + (0)); omega), trivial⟩
-- ik6e
theorem t_q222 {g : Nat → Int} (h : t_G g) : t_ok g 1 ([(9671406556917033397649408, [(0, 1)]), (12089258196146291747061760, [(0, 1)]), (22969590572677954319423488, [(0, 1)])], [(0, [(0, 1)]), (700, [(0, (-1))]), ((-8501), [(2, 1)])], [(0, [(3, 1)]), (0, [(3, (-1))])]) := by
  refine t_okI fun v hr hp => ?_
  obtain ⟨rK, rV, rS, -⟩ := hr
  obtain ⟨p0, p1, p2, -⟩ := hp
  have p0 : 0 ≤ 0 + (1 * v 0 + (0)) := p0
  have p1 : 0 ≤ 700 + ((-1) * v 0 + (0)) := p1
  have p2 : 0 ≤ (-8501) + (1 * v 2 + (0)) := p2
  obtain ⟨ni, hi⟩ : ∃ n : Nat, v 0 = (n : Int) := ⟨(v 0).toNat, by omega⟩
  have rK : ∃ j : Nat, 9671406556917033397649408 + (1 * v 0 + (0)) = (j : Int) ∧ c_gv j (g j) = v 1 := rK
  have eK := t_g8 h ni (by omega) rK (by omega)
  have rV : ∃ j : Nat, 12089258196146291747061760 + (1 * v 0 + (0)) = (j : Int) ∧ c_gv j (g j) = v 2 := rV
  have eV := t_g10 h ni (by omega) rV (by omega)
  have rS : ∃ j : Nat, 22969590572677954319423488 + (1 * v 0 + (0)) = (j : Int) ∧ c_gv j (g j) = v 3 := rS
  have eS := t_g19 h ni 6 (by omega) (by omega) rS (by omega)
  unfold t_isk at eS
  rw [if_neg (fun h9 => by have h8 := t_ky_v h9; have h8 : some (8500 : Int) = some (t_v (t_tx g) ni) := h8; have h8 := Option.some.inj h8; omega)] at eS
  exact ⟨(by show 0 ≤ 0 + (1 * v 3 + (0)); omega), (by show 0 ≤ 0 + ((-1) * v 3 + (0)); omega), trivial⟩
-- ky6
theorem t_q223 {g : Nat → Int} (h : t_G g) : t_ok g 1 ([(22969590572677954319423488, [(0, 1)]), (13298184015760920921767936, [(0, 1)]), (9671406556917033397649408, [(0, 1)])], [(0, [(0, 1)]), (700, [(0, (-1))]), ((-1), [(1, 1)])], [((-6), [(2, 1)]), (6, [(2, (-1))]), ((-1), [(3, 1)]), (1, [(3, (-1))]), ((-1), [(1, 1)]), (1, [(1, (-1))])]) := by
  refine t_okI fun v hr hp => ?_
  obtain ⟨rS, rY, rK, -⟩ := hr
  obtain ⟨p0, p1, p2, -⟩ := hp
  have p0 : 0 ≤ 0 + (1 * v 0 + (0)) := p0
  have p1 : 0 ≤ 700 + ((-1) * v 0 + (0)) := p1
  have p2 : 0 ≤ (-1) + (1 * v 1 + (0)) := p2
  obtain ⟨ni, hi⟩ : ∃ n : Nat, v 0 = (n : Int) := ⟨(v 0).toNat, by omega⟩
  have rS : ∃ j : Nat, 22969590572677954319423488 + (1 * v 0 + (0)) = (j : Int) ∧ c_gv j (g j) = v 1 := rS
  have eS := t_g19 h ni 6 (by omega) (by omega) rS (by omega)
  have rY : ∃ j : Nat, 13298184015760920921767936 + (1 * v 0 + (0)) = (j : Int) ∧ c_gv j (g j) = v 2 := rY
  have eY := t_g11 h ni (by omega) rY (by omega)
  have rK : ∃ j : Nat, 9671406556917033397649408 + (1 * v 0 + (0)) = (j : Int) ∧ c_gv j (g j) = v 3 := rK
  have eK := t_g8 h ni (by omega) rK (by omega)
  have ceS : t_ky (t_tx g) ni = 6 := by
    unfold t_isk at eS
    by_cases h9 : t_ky (t_tx g) ni = ((6 : Nat) : Int)
    · exact h9
    · rw [if_neg h9] at eS
      omega
  have ck := t_ky_k (X := t_tx g) (i := ni) (by omega)
  unfold t_isk at eS
  rw [if_pos (show t_ky (t_tx g) ni = ((6 : Nat) : Int) from ceS)] at eS
  exact ⟨(by show 0 ≤ (-6) + (1 * v 2 + (0)); omega), (by show 0 ≤ 6 + ((-1) * v 2 + (0)); omega), (by show 0 ≤ (-1) + (1 * v 3 + (0)); omega), (by show 0 ≤ 1 + ((-1) * v 3 + (0)); omega), (by show 0 ≤ (-1) + (1 * v 1 + (0)); omega), (by show 0 ≤ 1 + ((-1) * v 1 + (0)); omega), trivial⟩
-- ik7a
theorem t_q224 {g : Nat → Int} (h : t_G g) : t_ok g 1 ([(9671406556917033397649408, [(0, 1)]), (12089258196146291747061760, [(0, 1)]), (22969590572677954319424512, [(0, 1)])], [(0, [(0, 1)]), (700, [(0, (-1))]), ((-1), [(1, 1)]), (1, [(1, (-1))]), ((-149559), [(2, 1)]), (149559, [(2, (-1))])], [((-1), [(3, 1)]), (1, [(3, (-1))])]) := by
  refine t_okI fun v hr hp => ?_
  obtain ⟨rK, rV, rS, -⟩ := hr
  obtain ⟨p0, p1, p2, p3, p4, p5, -⟩ := hp
  have p0 : 0 ≤ 0 + (1 * v 0 + (0)) := p0
  have p1 : 0 ≤ 700 + ((-1) * v 0 + (0)) := p1
  have p2 : 0 ≤ (-1) + (1 * v 1 + (0)) := p2
  have p3 : 0 ≤ 1 + ((-1) * v 1 + (0)) := p3
  have p4 : 0 ≤ (-149559) + (1 * v 2 + (0)) := p4
  have p5 : 0 ≤ 149559 + ((-1) * v 2 + (0)) := p5
  obtain ⟨ni, hi⟩ : ∃ n : Nat, v 0 = (n : Int) := ⟨(v 0).toNat, by omega⟩
  have rK : ∃ j : Nat, 9671406556917033397649408 + (1 * v 0 + (0)) = (j : Int) ∧ c_gv j (g j) = v 1 := rK
  have eK := t_g8 h ni (by omega) rK (by omega)
  have rV : ∃ j : Nat, 12089258196146291747061760 + (1 * v 0 + (0)) = (j : Int) ∧ c_gv j (g j) = v 2 := rV
  have eV := t_g10 h ni (by omega) rV (by omega)
  have rS : ∃ j : Nat, 22969590572677954319424512 + (1 * v 0 + (0)) = (j : Int) ∧ c_gv j (g j) = v 3 := rS
  have eS := t_g19 h ni 7 (by omega) (by omega) rS (by omega)
  have c : t_ky (t_tx g) ni = 7 := by
    unfold t_ky
    rw [if_pos (by omega), show t_v (t_tx g) ni = 149559 by omega]
    decide
  unfold t_isk at eS
  rw [if_pos (show t_ky (t_tx g) ni = ((7 : Nat) : Int) from c)] at eS
  exact ⟨(by show 0 ≤ (-1) + (1 * v 3 + (0)); omega), (by show 0 ≤ 1 + ((-1) * v 3 + (0)); omega), trivial⟩
-- ik7b
theorem t_q225 {g : Nat → Int} (h : t_G g) : t_ok g 1 ([(9671406556917033397649408, [(0, 1)]), (12089258196146291747061760, [(0, 1)]), (22969590572677954319424512, [(0, 1)])], [(0, [(0, 1)]), (700, [(0, (-1))]), (0, [(1, (-1))])], [(0, [(3, 1)]), (0, [(3, (-1))])]) := by
  refine t_okI fun v hr hp => ?_
  obtain ⟨rK, rV, rS, -⟩ := hr
  obtain ⟨p0, p1, p2, -⟩ := hp
  have p0 : 0 ≤ 0 + (1 * v 0 + (0)) := p0
  have p1 : 0 ≤ 700 + ((-1) * v 0 + (0)) := p1
  have p2 : 0 ≤ 0 + ((-1) * v 1 + (0)) := p2
  obtain ⟨ni, hi⟩ : ∃ n : Nat, v 0 = (n : Int) := ⟨(v 0).toNat, by omega⟩
  have rK : ∃ j : Nat, 9671406556917033397649408 + (1 * v 0 + (0)) = (j : Int) ∧ c_gv j (g j) = v 1 := rK
  have eK := t_g8 h ni (by omega) rK (by omega)
  have rV : ∃ j : Nat, 12089258196146291747061760 + (1 * v 0 + (0)) = (j : Int) ∧ c_gv j (g j) = v 2 := rV
  have eV := t_g10 h ni (by omega) rV (by omega)
  have rS : ∃ j : Nat, 22969590572677954319424512 + (1 * v 0 + (0)) = (j : Int) ∧ c_gv j (g j) = v 3 := rS
  have eS := t_g19 h ni 7 (by omega) (by omega) rS (by omega)
  have cy : t_ky (t_tx g) ni = -1 := by
    unfold t_ky
    rw [if_neg (by omega)]
  unfold t_isk at eS
  rw [if_neg (by omega)] at eS
  exact ⟨(by show 0 ≤ 0 + (1 * v 3 + (0)); omega), (by show 0 ≤ 0 + ((-1) * v 3 + (0)); omega), trivial⟩
-- ik7c
theorem t_q226 {g : Nat → Int} (h : t_G g) : t_ok g 1 ([(9671406556917033397649408, [(0, 1)]), (12089258196146291747061760, [(0, 1)]), (22969590572677954319424512, [(0, 1)])], [(0, [(0, 1)]), (700, [(0, (-1))]), ((-2), [(1, 1)])], [(0, [(3, 1)]), (0, [(3, (-1))])]) := by
  refine t_okI fun v hr hp => ?_
  obtain ⟨rK, rV, rS, -⟩ := hr
  obtain ⟨p0, p1, p2, -⟩ := hp
  have p0 : 0 ≤ 0 + (1 * v 0 + (0)) := p0
  have p1 : 0 ≤ 700 + ((-1) * v 0 + (0)) := p1
  have p2 : 0 ≤ (-2) + (1 * v 1 + (0)) := p2
  obtain ⟨ni, hi⟩ : ∃ n : Nat, v 0 = (n : Int) := ⟨(v 0).toNat, by omega⟩
  have rK : ∃ j : Nat, 9671406556917033397649408 + (1 * v 0 + (0)) = (j : Int) ∧ c_gv j (g j) = v 1 := rK
  have eK := t_g8 h ni (by omega) rK (by omega)
  have rV : ∃ j : Nat, 12089258196146291747061760 + (1 * v 0 + (0)) = (j : Int) ∧ c_gv j (g j) = v 2 := rV
  have eV := t_g10 h ni (by omega) rV (by omega)
  have rS : ∃ j : Nat, 22969590572677954319424512 + (1 * v 0 + (0)) = (j : Int) ∧ c_gv j (g j) = v 3 := rS
  have eS := t_g19 h ni 7 (by omega) (by omega) rS (by omega)
  have cy : t_ky (t_tx g) ni = -1 := by
    unfold t_ky
    rw [if_neg (by omega)]
  unfold t_isk at eS
  rw [if_neg (by omega)] at eS
  exact ⟨(by show 0 ≤ 0 + (1 * v 3 + (0)); omega), (by show 0 ≤ 0 + ((-1) * v 3 + (0)); omega), trivial⟩
-- ik7d
theorem t_q227 {g : Nat → Int} (h : t_G g) : t_ok g 1 ([(9671406556917033397649408, [(0, 1)]), (12089258196146291747061760, [(0, 1)]), (22969590572677954319424512, [(0, 1)])], [(0, [(0, 1)]), (700, [(0, (-1))]), (149558, [(2, (-1))])], [(0, [(3, 1)]), (0, [(3, (-1))])]) := by
  refine t_okI fun v hr hp => ?_
  obtain ⟨rK, rV, rS, -⟩ := hr
  obtain ⟨p0, p1, p2, -⟩ := hp
  have p0 : 0 ≤ 0 + (1 * v 0 + (0)) := p0
  have p1 : 0 ≤ 700 + ((-1) * v 0 + (0)) := p1
  have p2 : 0 ≤ 149558 + ((-1) * v 2 + (0)) := p2
  obtain ⟨ni, hi⟩ : ∃ n : Nat, v 0 = (n : Int) := ⟨(v 0).toNat, by omega⟩
  have rK : ∃ j : Nat, 9671406556917033397649408 + (1 * v 0 + (0)) = (j : Int) ∧ c_gv j (g j) = v 1 := rK
  have eK := t_g8 h ni (by omega) rK (by omega)
  have rV : ∃ j : Nat, 12089258196146291747061760 + (1 * v 0 + (0)) = (j : Int) ∧ c_gv j (g j) = v 2 := rV
  have eV := t_g10 h ni (by omega) rV (by omega)
  have rS : ∃ j : Nat, 22969590572677954319424512 + (1 * v 0 + (0)) = (j : Int) ∧ c_gv j (g j) = v 3 := rS
  have eS := t_g19 h ni 7 (by omega) (by omega) rS (by omega)
  unfold t_isk at eS
  rw [if_neg (fun h9 => by have h8 := t_ky_v h9; have h8 : some (149559 : Int) = some (t_v (t_tx g) ni) := h8; have h8 := Option.some.inj h8; omega)] at eS
  exact ⟨(by show 0 ≤ 0 + (1 * v 3 + (0)); omega), (by show 0 ≤ 0 + ((-1) * v 3 + (0)); omega), trivial⟩
-- ik7e
theorem t_q228 {g : Nat → Int} (h : t_G g) : t_ok g 1 ([(9671406556917033397649408, [(0, 1)]), (12089258196146291747061760, [(0, 1)]), (22969590572677954319424512, [(0, 1)])], [(0, [(0, 1)]), (700, [(0, (-1))]), ((-149560), [(2, 1)])], [(0, [(3, 1)]), (0, [(3, (-1))])]) := by
  refine t_okI fun v hr hp => ?_
  obtain ⟨rK, rV, rS, -⟩ := hr
  obtain ⟨p0, p1, p2, -⟩ := hp
  have p0 : 0 ≤ 0 + (1 * v 0 + (0)) := p0
  have p1 : 0 ≤ 700 + ((-1) * v 0 + (0)) := p1
  have p2 : 0 ≤ (-149560) + (1 * v 2 + (0)) := p2
  obtain ⟨ni, hi⟩ : ∃ n : Nat, v 0 = (n : Int) := ⟨(v 0).toNat, by omega⟩
  have rK : ∃ j : Nat, 9671406556917033397649408 + (1 * v 0 + (0)) = (j : Int) ∧ c_gv j (g j) = v 1 := rK
  have eK := t_g8 h ni (by omega) rK (by omega)
  have rV : ∃ j : Nat, 12089258196146291747061760 + (1 * v 0 + (0)) = (j : Int) ∧ c_gv j (g j) = v 2 := rV
  have eV := t_g10 h ni (by omega) rV (by omega)
  have rS : ∃ j : Nat, 22969590572677954319424512 + (1 * v 0 + (0)) = (j : Int) ∧ c_gv j (g j) = v 3 := rS
  have eS := t_g19 h ni 7 (by omega) (by omega) rS (by omega)
  unfold t_isk at eS
  rw [if_neg (fun h9 => by have h8 := t_ky_v h9; have h8 : some (149559 : Int) = some (t_v (t_tx g) ni) := h8; have h8 := Option.some.inj h8; omega)] at eS
  exact ⟨(by show 0 ≤ 0 + (1 * v 3 + (0)); omega), (by show 0 ≤ 0 + ((-1) * v 3 + (0)); omega), trivial⟩
-- ky7
theorem t_q229 {g : Nat → Int} (h : t_G g) : t_ok g 1 ([(22969590572677954319424512, [(0, 1)]), (13298184015760920921767936, [(0, 1)]), (9671406556917033397649408, [(0, 1)])], [(0, [(0, 1)]), (700, [(0, (-1))]), ((-1), [(1, 1)])], [((-7), [(2, 1)]), (7, [(2, (-1))]), ((-1), [(3, 1)]), (1, [(3, (-1))]), ((-1), [(1, 1)]), (1, [(1, (-1))])]) := by
  refine t_okI fun v hr hp => ?_
  obtain ⟨rS, rY, rK, -⟩ := hr
  obtain ⟨p0, p1, p2, -⟩ := hp
  have p0 : 0 ≤ 0 + (1 * v 0 + (0)) := p0
  have p1 : 0 ≤ 700 + ((-1) * v 0 + (0)) := p1
  have p2 : 0 ≤ (-1) + (1 * v 1 + (0)) := p2
  obtain ⟨ni, hi⟩ : ∃ n : Nat, v 0 = (n : Int) := ⟨(v 0).toNat, by omega⟩
  have rS : ∃ j : Nat, 22969590572677954319424512 + (1 * v 0 + (0)) = (j : Int) ∧ c_gv j (g j) = v 1 := rS
  have eS := t_g19 h ni 7 (by omega) (by omega) rS (by omega)
  have rY : ∃ j : Nat, 13298184015760920921767936 + (1 * v 0 + (0)) = (j : Int) ∧ c_gv j (g j) = v 2 := rY
  have eY := t_g11 h ni (by omega) rY (by omega)
  have rK : ∃ j : Nat, 9671406556917033397649408 + (1 * v 0 + (0)) = (j : Int) ∧ c_gv j (g j) = v 3 := rK
  have eK := t_g8 h ni (by omega) rK (by omega)
  have ceS : t_ky (t_tx g) ni = 7 := by
    unfold t_isk at eS
    by_cases h9 : t_ky (t_tx g) ni = ((7 : Nat) : Int)
    · exact h9
    · rw [if_neg h9] at eS
      omega
  have ck := t_ky_k (X := t_tx g) (i := ni) (by omega)
  unfold t_isk at eS
  rw [if_pos (show t_ky (t_tx g) ni = ((7 : Nat) : Int) from ceS)] at eS
  exact ⟨(by show 0 ≤ (-7) + (1 * v 2 + (0)); omega), (by show 0 ≤ 7 + ((-1) * v 2 + (0)); omega), (by show 0 ≤ (-1) + (1 * v 3 + (0)); omega), (by show 0 ≤ 1 + ((-1) * v 3 + (0)); omega), (by show 0 ≤ (-1) + (1 * v 1 + (0)); omega), (by show 0 ≤ 1 + ((-1) * v 1 + (0)); omega), trivial⟩
-- ky9
theorem t_q230 {g : Nat → Int} (h : t_G g) : t_ok g 1 ([(22969590572677954319417344, [(0, 1)]), (22969590572677954319418368, [(0, 1)]), (22969590572677954319419392, [(0, 1)]), (22969590572677954319420416, [(0, 1)]), (13298184015760920921767936, [(0, 1)]), (9671406556917033397649408, [(0, 1)])], [(0, [(0, 1)]), (700, [(0, (-1))]), (0, [(1, (-1))]), (0, [(2, (-1))]), (0, [(3, (-1))]), (0, [(4, (-1))])], [(0, [(6, 1)])]) := by
  refine t_okI fun v hr hp => ?_
  obtain ⟨rA, rB, rC, rD, rY, rK, -⟩ := hr
  obtain ⟨p0, p1, p2, p3, p4, p5, -⟩ := hp
  have p0 : 0 ≤ 0 + (1 * v 0 + (0)) := p0
  have p1 : 0 ≤ 700 + ((-1) * v 0 + (0)) := p1
  have p2 : 0 ≤ 0 + ((-1) * v 1 + (0)) := p2
  have p3 : 0 ≤ 0 + ((-1) * v 2 + (0)) := p3
  have p4 : 0 ≤ 0 + ((-1) * v 3 + (0)) := p4
  have p5 : 0 ≤ 0 + ((-1) * v 4 + (0)) := p5
  obtain ⟨ni, hi⟩ : ∃ n : Nat, v 0 = (n : Int) := ⟨(v 0).toNat, by omega⟩
  have rA : ∃ j : Nat, 22969590572677954319417344 + (1 * v 0 + (0)) = (j : Int) ∧ c_gv j (g j) = v 1 := rA
  have eA := t_g19 h ni 0 (by omega) (by omega) rA (by omega)
  have rB : ∃ j : Nat, 22969590572677954319418368 + (1 * v 0 + (0)) = (j : Int) ∧ c_gv j (g j) = v 2 := rB
  have eB := t_g19 h ni 1 (by omega) (by omega) rB (by omega)
  have rC : ∃ j : Nat, 22969590572677954319419392 + (1 * v 0 + (0)) = (j : Int) ∧ c_gv j (g j) = v 3 := rC
  have eC := t_g19 h ni 2 (by omega) (by omega) rC (by omega)
  have rD : ∃ j : Nat, 22969590572677954319420416 + (1 * v 0 + (0)) = (j : Int) ∧ c_gv j (g j) = v 4 := rD
  have eD := t_g19 h ni 3 (by omega) (by omega) rD (by omega)
  have rY : ∃ j : Nat, 13298184015760920921767936 + (1 * v 0 + (0)) = (j : Int) ∧ c_gv j (g j) = v 5 := rY
  have eY := t_g11 h ni (by omega) rY (by omega)
  have rK : ∃ j : Nat, 9671406556917033397649408 + (1 * v 0 + (0)) = (j : Int) ∧ c_gv j (g j) = v 6 := rK
  have eK := t_g8 h ni (by omega) rK (by omega)
  have c := t_k_bd (X := t_tx g) ni
  exact ⟨(by show 0 ≤ 0 + (1 * v 6 + (0)); omega), trivial⟩
-- vk0
theorem t_q231 {g : Nat → Int} (h : t_G g) : t_ok g 1 ([(22969590572677954319417344, [(0, 1)]), (22969590572677954319418368, [(0, 1)]), (22969590572677954319421440, [(0, 1)]), (22969590572677954319422464, [(0, 1)]), (22969590572677954319423488, [(0, 1)]), (22969590572677954319424512, [(0, 1)]), (44730255325741279464128512, [(0, 1)])], [(0, [(0, 1)]), (700, [(0, (-1))]), (0, [(1, (-1))]), (0, [(2, (-1))]), (0, [(3, (-1))]), (0, [(4, (-1))]), (0, [(5, (-1))]), (0, [(6, (-1))])], [(0, [(7, 1)]), (0, [(7, (-1))])]) := by
  refine t_okI fun v hr hp => ?_
  obtain ⟨rA, rB, rC, rD, rE, rF, rW, -⟩ := hr
  obtain ⟨p0, p1, p2, p3, p4, p5, p6, p7, -⟩ := hp
  have p0 : 0 ≤ 0 + (1 * v 0 + (0)) := p0
  have p1 : 0 ≤ 700 + ((-1) * v 0 + (0)) := p1
  have p2 : 0 ≤ 0 + ((-1) * v 1 + (0)) := p2
  have p3 : 0 ≤ 0 + ((-1) * v 2 + (0)) := p3
  have p4 : 0 ≤ 0 + ((-1) * v 3 + (0)) := p4
  have p5 : 0 ≤ 0 + ((-1) * v 4 + (0)) := p5
  have p6 : 0 ≤ 0 + ((-1) * v 5 + (0)) := p6
  have p7 : 0 ≤ 0 + ((-1) * v 6 + (0)) := p7
  obtain ⟨ni, hi⟩ : ∃ n : Nat, v 0 = (n : Int) := ⟨(v 0).toNat, by omega⟩
  have rA : ∃ j : Nat, 22969590572677954319417344 + (1 * v 0 + (0)) = (j : Int) ∧ c_gv j (g j) = v 1 := rA
  have eA := t_g19 h ni 0 (by omega) (by omega) rA (by omega)
  have rB : ∃ j : Nat, 22969590572677954319418368 + (1 * v 0 + (0)) = (j : Int) ∧ c_gv j (g j) = v 2 := rB
  have eB := t_g19 h ni 1 (by omega) (by omega) rB (by omega)
  have rC : ∃ j : Nat, 22969590572677954319421440 + (1 * v 0 + (0)) = (j : Int) ∧ c_gv j (g j) = v 3 := rC
  have eC := t_g19 h ni 4 (by omega) (by omega) rC (by omega)
  have rD : ∃ j : Nat, 22969590572677954319422464 + (1 * v 0 + (0)) = (j : Int) ∧ c_gv j (g j) = v 4 := rD
  have eD := t_g19 h ni 5 (by omega) (by omega) rD (by omega)
  have rE : ∃ j : Nat, 22969590572677954319423488 + (1 * v 0 + (0)) = (j : Int) ∧ c_gv j (g j) = v 5 := rE
  have eE := t_g19 h ni 6 (by omega) (by omega) rE (by omega)
  have rF : ∃ j : Nat, 22969590572677954319424512 + (1 * v 0 + (0)) = (j : Int) ∧ c_gv j (g j) = v 6 := rF
  have eF := t_g19 h ni 7 (by omega) (by omega) rF (by omega)
  have rW : ∃ j : Nat, 44730255325741279464128512 + (1 * v 0 + (0)) = (j : Int) ∧ c_gv j (g j) = v 7 := rW
  have eW := t_g37 h ni (by omega) rW (by omega)
  have ceA : t_ky (t_tx g) ni ≠ 0 := fun h9 => by
    unfold t_isk at eA
    rw [if_pos (show t_ky (t_tx g) ni = ((0 : Nat) : Int) from h9)] at eA
    omega
  have ceB : t_ky (t_tx g) ni ≠ 1 := fun h9 => by
    unfold t_isk at eB
    rw [if_pos (show t_ky (t_tx g) ni = ((1 : Nat) : Int) from h9)] at eB
    omega
  have ceC : t_ky (t_tx g) ni ≠ 4 := fun h9 => by
    unfold t_isk at eC
    rw [if_pos (show t_ky (t_tx g) ni = ((4 : Nat) : Int) from h9)] at eC
    omega
  have ceD : t_ky (t_tx g) ni ≠ 5 := fun h9 => by
    unfold t_isk at eD
    rw [if_pos (show t_ky (t_tx g) ni = ((5 : Nat) : Int) from h9)] at eD
    omega
  have ceE : t_ky (t_tx g) ni ≠ 6 := fun h9 => by
    unfold t_isk at eE
    rw [if_pos (show t_ky (t_tx g) ni = ((6 : Nat) : Int) from h9)] at eE
    omega
  have ceF : t_ky (t_tx g) ni ≠ 7 := fun h9 => by
    unfold t_isk at eF
    rw [if_pos (show t_ky (t_tx g) ni = ((7 : Nat) : Int) from h9)] at eF
    omega
  have ceW : t_var (t_tx g) ni = false := by
    cases h9 : t_var (t_tx g) ni with
    | false => rfl
    | true =>
      exfalso
      have h8 := t_var_iff.mp h9
      omega
  rw [ceW] at eW
  have eW : v 7 = 0 := eW
  exact ⟨(by show 0 ≤ 0 + (1 * v 7 + (0)); omega), (by show 0 ≤ 0 + ((-1) * v 7 + (0)); omega), trivial⟩
-- vk1
theorem t_q232 {g : Nat → Int} (h : t_G g) : t_ok g 1 ([(22969590572677954319417344, [(0, 1)]), (44730255325741279464128512, [(0, 1)])], [(0, [(0, 1)]), (700, [(0, (-1))]), ((-1), [(1, 1)])], [((-1), [(2, 1)]), (1, [(2, (-1))])]) := by
  refine t_okI fun v hr hp => ?_
  obtain ⟨rA, rW, -⟩ := hr
  obtain ⟨p0, p1, p2, -⟩ := hp
  have p0 : 0 ≤ 0 + (1 * v 0 + (0)) := p0
  have p1 : 0 ≤ 700 + ((-1) * v 0 + (0)) := p1
  have p2 : 0 ≤ (-1) + (1 * v 1 + (0)) := p2
  obtain ⟨ni, hi⟩ : ∃ n : Nat, v 0 = (n : Int) := ⟨(v 0).toNat, by omega⟩
  have rA : ∃ j : Nat, 22969590572677954319417344 + (1 * v 0 + (0)) = (j : Int) ∧ c_gv j (g j) = v 1 := rA
  have eA := t_g19 h ni 0 (by omega) (by omega) rA (by omega)
  have rW : ∃ j : Nat, 44730255325741279464128512 + (1 * v 0 + (0)) = (j : Int) ∧ c_gv j (g j) = v 2 := rW
  have eW := t_g37 h ni (by omega) rW (by omega)
  have ceA : t_ky (t_tx g) ni = 0 := by
    unfold t_isk at eA
    by_cases h9 : t_ky (t_tx g) ni = ((0 : Nat) : Int)
    · exact h9
    · rw [if_neg h9] at eA
      omega
  have ceW : t_var (t_tx g) ni = true := t_var_iff.mpr ⟨by omega, by omega, by omega⟩
  rw [ceW] at eW
  have eW : v 2 = 1 := eW
  exact ⟨(by show 0 ≤ (-1) + (1 * v 2 + (0)); omega), (by show 0 ≤ 1 + ((-1) * v 2 + (0)); omega), trivial⟩
-- vk2
theorem t_q233 {g : Nat → Int} (h : t_G g) : t_ok g 1 ([(22969590572677954319418368, [(0, 1)]), (44730255325741279464128512, [(0, 1)])], [(0, [(0, 1)]), (700, [(0, (-1))]), ((-1), [(1, 1)])], [((-1), [(2, 1)]), (1, [(2, (-1))])]) := by
  refine t_okI fun v hr hp => ?_
  obtain ⟨rA, rW, -⟩ := hr
  obtain ⟨p0, p1, p2, -⟩ := hp
  have p0 : 0 ≤ 0 + (1 * v 0 + (0)) := p0
  have p1 : 0 ≤ 700 + ((-1) * v 0 + (0)) := p1
  have p2 : 0 ≤ (-1) + (1 * v 1 + (0)) := p2
  obtain ⟨ni, hi⟩ : ∃ n : Nat, v 0 = (n : Int) := ⟨(v 0).toNat, by omega⟩
  have rA : ∃ j : Nat, 22969590572677954319418368 + (1 * v 0 + (0)) = (j : Int) ∧ c_gv j (g j) = v 1 := rA
  have eA := t_g19 h ni 1 (by omega) (by omega) rA (by omega)
  have rW : ∃ j : Nat, 44730255325741279464128512 + (1 * v 0 + (0)) = (j : Int) ∧ c_gv j (g j) = v 2 := rW
  have eW := t_g37 h ni (by omega) rW (by omega)
  have ceA : t_ky (t_tx g) ni = 1 := by
    unfold t_isk at eA
    by_cases h9 : t_ky (t_tx g) ni = ((1 : Nat) : Int)
    · exact h9
    · rw [if_neg h9] at eA
      omega
  have ceW : t_var (t_tx g) ni = true := t_var_iff.mpr ⟨by omega, by omega, by omega⟩
  rw [ceW] at eW
  have eW : v 2 = 1 := eW
  exact ⟨(by show 0 ≤ (-1) + (1 * v 2 + (0)); omega), (by show 0 ≤ 1 + ((-1) * v 2 + (0)); omega), trivial⟩
-- vk5
theorem t_q234 {g : Nat → Int} (h : t_G g) : t_ok g 1 ([(22969590572677954319421440, [(0, 1)]), (44730255325741279464128512, [(0, 1)])], [(0, [(0, 1)]), (700, [(0, (-1))]), ((-1), [(1, 1)])], [((-1), [(2, 1)]), (1, [(2, (-1))])]) := by
  refine t_okI fun v hr hp => ?_
  obtain ⟨rA, rW, -⟩ := hr
  obtain ⟨p0, p1, p2, -⟩ := hp
  have p0 : 0 ≤ 0 + (1 * v 0 + (0)) := p0
  have p1 : 0 ≤ 700 + ((-1) * v 0 + (0)) := p1
  have p2 : 0 ≤ (-1) + (1 * v 1 + (0)) := p2
  obtain ⟨ni, hi⟩ : ∃ n : Nat, v 0 = (n : Int) := ⟨(v 0).toNat, by omega⟩
  have rA : ∃ j : Nat, 22969590572677954319421440 + (1 * v 0 + (0)) = (j : Int) ∧ c_gv j (g j) = v 1 := rA
  have eA := t_g19 h ni 4 (by omega) (by omega) rA (by omega)
  have rW : ∃ j : Nat, 44730255325741279464128512 + (1 * v 0 + (0)) = (j : Int) ∧ c_gv j (g j) = v 2 := rW
  have eW := t_g37 h ni (by omega) rW (by omega)
  have ceA : t_ky (t_tx g) ni = 4 := by
    unfold t_isk at eA
    by_cases h9 : t_ky (t_tx g) ni = ((4 : Nat) : Int)
    · exact h9
    · rw [if_neg h9] at eA
      omega
  have ceW : t_var (t_tx g) ni = true := t_var_iff.mpr ⟨by omega, by omega, by omega⟩
  rw [ceW] at eW
  have eW : v 2 = 1 := eW
  exact ⟨(by show 0 ≤ (-1) + (1 * v 2 + (0)); omega), (by show 0 ≤ 1 + ((-1) * v 2 + (0)); omega), trivial⟩
-- vk6
theorem t_q235 {g : Nat → Int} (h : t_G g) : t_ok g 1 ([(22969590572677954319422464, [(0, 1)]), (44730255325741279464128512, [(0, 1)])], [(0, [(0, 1)]), (700, [(0, (-1))]), ((-1), [(1, 1)])], [((-1), [(2, 1)]), (1, [(2, (-1))])]) := by
  refine t_okI fun v hr hp => ?_
  obtain ⟨rA, rW, -⟩ := hr
  obtain ⟨p0, p1, p2, -⟩ := hp
  have p0 : 0 ≤ 0 + (1 * v 0 + (0)) := p0
  have p1 : 0 ≤ 700 + ((-1) * v 0 + (0)) := p1
  have p2 : 0 ≤ (-1) + (1 * v 1 + (0)) := p2
  obtain ⟨ni, hi⟩ : ∃ n : Nat, v 0 = (n : Int) := ⟨(v 0).toNat, by omega⟩
  have rA : ∃ j : Nat, 22969590572677954319422464 + (1 * v 0 + (0)) = (j : Int) ∧ c_gv j (g j) = v 1 := rA
  have eA := t_g19 h ni 5 (by omega) (by omega) rA (by omega)
  have rW : ∃ j : Nat, 44730255325741279464128512 + (1 * v 0 + (0)) = (j : Int) ∧ c_gv j (g j) = v 2 := rW
  have eW := t_g37 h ni (by omega) rW (by omega)
  have ceA : t_ky (t_tx g) ni = 5 := by
    unfold t_isk at eA
    by_cases h9 : t_ky (t_tx g) ni = ((5 : Nat) : Int)
    · exact h9
    · rw [if_neg h9] at eA
      omega
  have ceW : t_var (t_tx g) ni = true := t_var_iff.mpr ⟨by omega, by omega, by omega⟩
  rw [ceW] at eW
  have eW : v 2 = 1 := eW
  exact ⟨(by show 0 ≤ (-1) + (1 * v 2 + (0)); omega), (by show 0 ≤ 1 + ((-1) * v 2 + (0)); omega), trivial⟩
-- vk7
theorem t_q236 {g : Nat → Int} (h : t_G g) : t_ok g 1 ([(22969590572677954319423488, [(0, 1)]), (44730255325741279464128512, [(0, 1)])], [(0, [(0, 1)]), (700, [(0, (-1))]), ((-1), [(1, 1)])], [((-1), [(2, 1)]), (1, [(2, (-1))])]) := by
  refine t_okI fun v hr hp => ?_
  obtain ⟨rA, rW, -⟩ := hr
  obtain ⟨p0, p1, p2, -⟩ := hp
  have p0 : 0 ≤ 0 + (1 * v 0 + (0)) := p0
  have p1 : 0 ≤ 700 + ((-1) * v 0 + (0)) := p1
  have p2 : 0 ≤ (-1) + (1 * v 1 + (0)) := p2
  obtain ⟨ni, hi⟩ : ∃ n : Nat, v 0 = (n : Int) := ⟨(v 0).toNat, by omega⟩
  have rA : ∃ j : Nat, 22969590572677954319423488 + (1 * v 0 + (0)) = (j : Int) ∧ c_gv j (g j) = v 1 := rA
  have eA := t_g19 h ni 6 (by omega) (by omega) rA (by omega)
  have rW : ∃ j : Nat, 44730255325741279464128512 + (1 * v 0 + (0)) = (j : Int) ∧ c_gv j (g j) = v 2 := rW
  have eW := t_g37 h ni (by omega) rW (by omega)
  have ceA : t_ky (t_tx g) ni = 6 := by
    unfold t_isk at eA
    by_cases h9 : t_ky (t_tx g) ni = ((6 : Nat) : Int)
    · exact h9
    · rw [if_neg h9] at eA
      omega
  have ceW : t_var (t_tx g) ni = true := t_var_iff.mpr ⟨by omega, by omega, by omega⟩
  rw [ceW] at eW
  have eW : v 2 = 1 := eW
  exact ⟨(by show 0 ≤ (-1) + (1 * v 2 + (0)); omega), (by show 0 ≤ 1 + ((-1) * v 2 + (0)); omega), trivial⟩
-- vk8
theorem t_q237 {g : Nat → Int} (h : t_G g) : t_ok g 1 ([(22969590572677954319424512, [(0, 1)]), (44730255325741279464128512, [(0, 1)])], [(0, [(0, 1)]), (700, [(0, (-1))]), ((-1), [(1, 1)])], [((-1), [(2, 1)]), (1, [(2, (-1))])]) := by
  refine t_okI fun v hr hp => ?_
  obtain ⟨rA, rW, -⟩ := hr
  obtain ⟨p0, p1, p2, -⟩ := hp
  have p0 : 0 ≤ 0 + (1 * v 0 + (0)) := p0
  have p1 : 0 ≤ 700 + ((-1) * v 0 + (0)) := p1
  have p2 : 0 ≤ (-1) + (1 * v 1 + (0)) := p2
  obtain ⟨ni, hi⟩ : ∃ n : Nat, v 0 = (n : Int) := ⟨(v 0).toNat, by omega⟩
  have rA : ∃ j : Nat, 22969590572677954319424512 + (1 * v 0 + (0)) = (j : Int) ∧ c_gv j (g j) = v 1 := rA
  have eA := t_g19 h ni 7 (by omega) (by omega) rA (by omega)
  have rW : ∃ j : Nat, 44730255325741279464128512 + (1 * v 0 + (0)) = (j : Int) ∧ c_gv j (g j) = v 2 := rW
  have eW := t_g37 h ni (by omega) rW (by omega)
  have ceA : t_ky (t_tx g) ni = 7 := by
    unfold t_isk at eA
    by_cases h9 : t_ky (t_tx g) ni = ((7 : Nat) : Int)
    · exact h9
    · rw [if_neg h9] at eA
      omega
  have ceW : t_var (t_tx g) ni = true := t_var_iff.mpr ⟨by omega, by omega, by omega⟩
  rw [ceW] at eW
  have eW : v 2 = 1 := eW
  exact ⟨(by show 0 ≤ (-1) + (1 * v 2 + (0)); omega), (by show 0 ≤ 1 + ((-1) * v 2 + (0)); omega), trivial⟩
-- in1
theorem t_q238 {g : Nat → Int} (h : t_G g) : t_ok g 1 ([(9671406556917033397649408, [(0, 1)]), (12089258196146291747061760, [(0, 1)]), (44730255325741279464128512, [(0, 1)]), (22969590572677954319419392, [(0, 1)]), (22969590572677954319420416, [(0, 1)]), (19342813113834066795298816, [(0, 1)])], [(0, [(0, 1)]), (700, [(0, (-1))]), ((-1), [(1, 1)]), (1, [(1, (-1))]), ((-1), [(2, 1)]), (0, [(3, (-1))]), (0, [(4, (-1))]), (0, [(5, (-1))])], [((-1), [(6, 1)]), (1, [(6, (-1))])]) := by
  refine t_okI fun v hr hp => ?_
  obtain ⟨rK, rV, rW, rA, rB, rS, -⟩ := hr
  obtain ⟨p0, p1, p2, p3, p4, p5, p6, p7, -⟩ := hp
  have p0 : 0 ≤ 0 + (1 * v 0 + (0)) := p0
  have p1 : 0 ≤ 700 + ((-1) * v 0 + (0)) := p1
  have p2 : 0 ≤ (-1) + (1 * v 1 + (0)) := p2
  have p3 : 0 ≤ 1 + ((-1) * v 1 + (0)) := p3
  have p4 : 0 ≤ (-1) + (1 * v 2 + (0)) := p4
  have p5 : 0 ≤ 0 + ((-1) * v 3 + (0)) := p5
  have p6 : 0 ≤ 0 + ((-1) * v 4 + (0)) := p6
  have p7 : 0 ≤ 0 + ((-1) * v 5 + (0)) := p7
  obtain ⟨ni, hi⟩ : ∃ n : Nat, v 0 = (n : Int) := ⟨(v 0).toNat, by omega⟩
  have rK : ∃ j : Nat, 9671406556917033397649408 + (1 * v 0 + (0)) = (j : Int) ∧ c_gv j (g j) = v 1 := rK
  have eK := t_g8 h ni (by omega) rK (by omega)
  have rV : ∃ j : Nat, 12089258196146291747061760 + (1 * v 0 + (0)) = (j : Int) ∧ c_gv j (g j) = v 2 := rV
  have eV := t_g10 h ni (by omega) rV (by omega)
  have rW : ∃ j : Nat, 44730255325741279464128512 + (1 * v 0 + (0)) = (j : Int) ∧ c_gv j (g j) = v 3 := rW
  have eW := t_g37 h ni (by omega) rW (by omega)
  have rA : ∃ j : Nat, 22969590572677954319419392 + (1 * v 0 + (0)) = (j : Int) ∧ c_gv j (g j) = v 4 := rA
  have eA := t_g19 h ni 2 (by omega) (by omega) rA (by omega)
  have rB : ∃ j : Nat, 22969590572677954319420416 + (1 * v 0 + (0)) = (j : Int) ∧ c_gv j (g j) = v 5 := rB
  have eB := t_g19 h ni 3 (by omega) (by omega) rB (by omega)
  have rS : ∃ j : Nat, 19342813113834066795298816 + (1 * v 0 + (0)) = (j : Int) ∧ c_gv j (g j) = v 6 := rS
  have eS := t_g16 h ni (by omega) rS (by omega)
  have ceW : t_var (t_tx g) ni = false := by
    cases h9 : t_var (t_tx g) ni with
    | false => rfl
    | true =>
      exfalso
      rw [h9] at eW
      have eW : v 3 = 1 := eW
      omega
  have deW : ¬(t_var (t_tx g) ni = true) := by rw [ceW]; exact Bool.false_ne_true
  rw [t_var_iff] at deW
  have ceA : t_ky (t_tx g) ni ≠ 2 := fun h9 => by
    unfold t_isk at eA
    rw [if_pos (show t_ky (t_tx g) ni = ((2 : Nat) : Int) from h9)] at eA
    omega
  have ceB : t_ky (t_tx g) ni ≠ 3 := fun h9 => by
    unfold t_isk at eB
    rw [if_pos (show t_ky (t_tx g) ni = ((3 : Nat) : Int) from h9)] at eB
    omega
  have ceS : t_nam (t_tx g) ni = true := t_nam_iff.mpr ⟨⟨by omega, by omega⟩, by omega⟩
  rw [ceS] at eS
  have eS : v 6 = 1 := eS
  exact ⟨(by show 0 ≤ (-1) + (1 * v 6 + (0)); omega), (by show 0 ≤ 1 + ((-1) * v 6 + (0)); omega), trivial⟩
-- in2
theorem t_q239 {g : Nat → Int} (h : t_G g) : t_ok g 1 ([(44730255325741279464128512, [(0, 1)]), (19342813113834066795298816, [(0, 1)])], [(0, [(0, 1)]), (700, [(0, (-1))]), ((-1), [(1, 1)])], [(0, [(2, 1)]), (0, [(2, (-1))])]) := by
  refine t_okI fun v hr hp => ?_
  obtain ⟨rW, rS, -⟩ := hr
  obtain ⟨p0, p1, p2, -⟩ := hp
  have p0 : 0 ≤ 0 + (1 * v 0 + (0)) := p0
  have p1 : 0 ≤ 700 + ((-1) * v 0 + (0)) := p1
  have p2 : 0 ≤ (-1) + (1 * v 1 + (0)) := p2
  obtain ⟨ni, hi⟩ : ∃ n : Nat, v 0 = (n : Int) := ⟨(v 0).toNat, by omega⟩
  have rW : ∃ j : Nat, 44730255325741279464128512 + (1 * v 0 + (0)) = (j : Int) ∧ c_gv j (g j) = v 1 := rW
  have eW := t_g37 h ni (by omega) rW (by omega)
  have rS : ∃ j : Nat, 19342813113834066795298816 + (1 * v 0 + (0)) = (j : Int) ∧ c_gv j (g j) = v 2 := rS
  have eS := t_g16 h ni (by omega) rS (by omega)
  have ceW : t_var (t_tx g) ni = true := by
    cases h9 : t_var (t_tx g) ni with
    | true => rfl
    | false =>
      exfalso
      rw [h9] at eW
      have eW : v 1 = 0 := eW
      omega
  have deW := t_var_iff.mp ceW
  have ceS : t_nam (t_tx g) ni = false := by
    cases h9 : t_nam (t_tx g) ni with
    | false => rfl
    | true =>
      exfalso
      have h8 := t_nam_iff.mp h9
      omega
  rw [ceS] at eS
  have eS : v 2 = 0 := eS
  exact ⟨(by show 0 ≤ 0 + (1 * v 2 + (0)); omega), (by show 0 ≤ 0 + ((-1) * v 2 + (0)); omega), trivial⟩
-- in3
theorem t_q240 {g : Nat → Int} (h : t_G g) : t_ok g 1 ([(22969590572677954319419392, [(0, 1)]), (19342813113834066795298816, [(0, 1)])], [(0, [(0, 1)]), (700, [(0, (-1))]), ((-1), [(1, 1)])], [(0, [(2, 1)]), (0, [(2, (-1))])]) := by
  refine t_okI fun v hr hp => ?_
  obtain ⟨rA, rS, -⟩ := hr
  obtain ⟨p0, p1, p2, -⟩ := hp
  have p0 : 0 ≤ 0 + (1 * v 0 + (0)) := p0
  have p1 : 0 ≤ 700 + ((-1) * v 0 + (0)) := p1
  have p2 : 0 ≤ (-1) + (1 * v 1 + (0)) := p2
  obtain ⟨ni, hi⟩ : ∃ n : Nat, v 0 = (n : Int) := ⟨(v 0).toNat, by omega⟩
  have rA : ∃ j : Nat, 22969590572677954319419392 + (1 * v 0 + (0)) = (j : Int) ∧ c_gv j (g j) = v 1 := rA
  have eA := t_g19 h ni 2 (by omega) (by omega) rA (by omega)
  have rS : ∃ j : Nat, 19342813113834066795298816 + (1 * v 0 + (0)) = (j : Int) ∧ c_gv j (g j) = v 2 := rS
  have eS := t_g16 h ni (by omega) rS (by omega)
  have ceA : t_ky (t_tx g) ni = 2 := by
    unfold t_isk at eA
    by_cases h9 : t_ky (t_tx g) ni = ((2 : Nat) : Int)
    · exact h9
    · rw [if_neg h9] at eA
      omega
  have ceS : t_nam (t_tx g) ni = false := by
    cases h9 : t_nam (t_tx g) ni with
    | false => rfl
    | true =>
      exfalso
      have h8 := t_nam_iff.mp h9
      omega
  rw [ceS] at eS
  have eS : v 2 = 0 := eS
  exact ⟨(by show 0 ≤ 0 + (1 * v 2 + (0)); omega), (by show 0 ≤ 0 + ((-1) * v 2 + (0)); omega), trivial⟩
-- in4
theorem t_q241 {g : Nat → Int} (h : t_G g) : t_ok g 1 ([(22969590572677954319420416, [(0, 1)]), (19342813113834066795298816, [(0, 1)])], [(0, [(0, 1)]), (700, [(0, (-1))]), ((-1), [(1, 1)])], [(0, [(2, 1)]), (0, [(2, (-1))])]) := by
  refine t_okI fun v hr hp => ?_
  obtain ⟨rA, rS, -⟩ := hr
  obtain ⟨p0, p1, p2, -⟩ := hp
  have p0 : 0 ≤ 0 + (1 * v 0 + (0)) := p0
  have p1 : 0 ≤ 700 + ((-1) * v 0 + (0)) := p1
  have p2 : 0 ≤ (-1) + (1 * v 1 + (0)) := p2
  obtain ⟨ni, hi⟩ : ∃ n : Nat, v 0 = (n : Int) := ⟨(v 0).toNat, by omega⟩
  have rA : ∃ j : Nat, 22969590572677954319420416 + (1 * v 0 + (0)) = (j : Int) ∧ c_gv j (g j) = v 1 := rA
  have eA := t_g19 h ni 3 (by omega) (by omega) rA (by omega)
  have rS : ∃ j : Nat, 19342813113834066795298816 + (1 * v 0 + (0)) = (j : Int) ∧ c_gv j (g j) = v 2 := rS
  have eS := t_g16 h ni (by omega) rS (by omega)
  have ceA : t_ky (t_tx g) ni = 3 := by
    unfold t_isk at eA
    by_cases h9 : t_ky (t_tx g) ni = ((3 : Nat) : Int)
    · exact h9
    · rw [if_neg h9] at eA
      omega
  have ceS : t_nam (t_tx g) ni = false := by
    cases h9 : t_nam (t_tx g) ni with
    | false => rfl
    | true =>
      exfalso
      have h8 := t_nam_iff.mp h9
      omega
  rw [ceS] at eS
  have eS : v 2 = 0 := eS
  exact ⟨(by show 0 ≤ 0 + (1 * v 2 + (0)); omega), (by show 0 ≤ 0 + ((-1) * v 2 + (0)); omega), trivial⟩
-- d4k
theorem t_q242 {g : Nat → Int} (h : t_G g) : t_ok g 1 ([(9671406556917033397649408, [(0, 1)]), (58028439341502200385896448, [(0, 1)])], [(0, [(0, 1)]), (700, [(0, (-1))]), ((-1), [(1, 1)]), (3, [(1, (-1))])], [(0, [(2, 1)]), (0, [(2, (-1))])]) := by
  refine t_okI fun v hr hp => ?_
  obtain ⟨rK, rF, -⟩ := hr
  obtain ⟨p0, p1, p2, p3, -⟩ := hp
  have p0 : 0 ≤ 0 + (1 * v 0 + (0)) := p0
  have p1 : 0 ≤ 700 + ((-1) * v 0 + (0)) := p1
  have p2 : 0 ≤ (-1) + (1 * v 1 + (0)) := p2
  have p3 : 0 ≤ 3 + ((-1) * v 1 + (0)) := p3
  obtain ⟨ni, hi⟩ : ∃ n : Nat, v 0 = (n : Int) := ⟨(v 0).toNat, by omega⟩
  have rK : ∃ j : Nat, 9671406556917033397649408 + (1 * v 0 + (0)) = (j : Int) ∧ c_gv j (g j) = v 1 := rK
  have eK := t_g8 h ni (by omega) rK (by omega)
  have rF : ∃ j : Nat, 58028439341502200385896448 + (1 * v 0 + (0)) = (j : Int) ∧ c_gv j (g j) = v 2 := rF
  have eF := t_g48 h ni (by omega) rF (by omega)
  unfold t_d4 at eF
  rw [if_neg (by omega)] at eF
  exact ⟨(by show 0 ≤ 0 + (1 * v 2 + (0)); omega), (by show 0 ≤ 0 + ((-1) * v 2 + (0)); omega), trivial⟩
-- varK
theorem t_q243 {g : Nat → Int} (h : t_G g) : t_ok g 1 ([(9671406556917033397649408, [(0, 1)]), (44730255325741279464128512, [(0, 1)])], [(0, [(0, 1)]), (700, [(0, (-1))]), ((-1), [(2, 1)])], [((-1), [(1, 1)]), (1, [(1, (-1))])]) := by
  refine t_okI fun v hr hp => ?_
  obtain ⟨rK, rW, -⟩ := hr
  obtain ⟨p0, p1, p2, -⟩ := hp
  have p0 : 0 ≤ 0 + (1 * v 0 + (0)) := p0
  have p1 : 0 ≤ 700 + ((-1) * v 0 + (0)) := p1
  have p2 : 0 ≤ (-1) + (1 * v 2 + (0)) := p2
  obtain ⟨ni, hi⟩ : ∃ n : Nat, v 0 = (n : Int) := ⟨(v 0).toNat, by omega⟩
  have rK : ∃ j : Nat, 9671406556917033397649408 + (1 * v 0 + (0)) = (j : Int) ∧ c_gv j (g j) = v 1 := rK
  have eK := t_g8 h ni (by omega) rK (by omega)
  have rW : ∃ j : Nat, 44730255325741279464128512 + (1 * v 0 + (0)) = (j : Int) ∧ c_gv j (g j) = v 2 := rW
  have eW := t_g37 h ni (by omega) rW (by omega)
  have ceW : t_var (t_tx g) ni = true := by
    cases h9 : t_var (t_tx g) ni with
    | true => rfl
    | false =>
      exfalso
      rw [h9] at eW
      have eW : v 2 = 0 := eW
      omega
  have deW := t_var_iff.mp ceW
  have c := t_ky_k (X := t_tx g) (i := ni) (by omega)
  exact ⟨(by show 0 ≤ (-1) + (1 * v 1 + (0)); omega), (by show 0 ≤ 1 + ((-1) * v 1 + (0)); omega), trivial⟩
-- asP
theorem t_q244 {g : Nat → Int} (h : t_G g) : t_ok g 3 ([(15716035654990179271180288, [(0, 1), (1, 1024)])], [(0, [(0, 1)]), (650, [(0, (-1))]), (0, [(1, 1)]), (6, [(1, (-1))]), (0, [(2, 1)]), (700, [(2, (-1))]), (0, [(2, (-1)), (3, 1)]), (0, [(2, 1), (3, (-1))])], [(0, [(2, (-1)), (3, 1)]), (0, [(2, 1), (3, (-1))])]) := by
  refine t_okI fun v hr hp => ?_
  obtain ⟨rA, -⟩ := hr
  obtain ⟨p0, p1, p2, p3, p4, p5, p6, p7, -⟩ := hp
  have p0 : 0 ≤ 0 + (1 * v 0 + (0)) := p0
  have p1 : 0 ≤ 650 + ((-1) * v 0 + (0)) := p1
  have p2 : 0 ≤ 0 + (1 * v 1 + (0)) := p2
  have p3 : 0 ≤ 6 + ((-1) * v 1 + (0)) := p3
  have p4 : 0 ≤ 0 + (1 * v 2 + (0)) := p4
  have p5 : 0 ≤ 700 + ((-1) * v 2 + (0)) := p5
  have p6 : 0 ≤ 0 + ((-1) * v 2 + (1 * v 3 + (0))) := p6
  have p7 : 0 ≤ 0 + (1 * v 2 + ((-1) * v 3 + (0))) := p7
  obtain ⟨ni, hi⟩ : ∃ n : Nat, v 0 = (n : Int) := ⟨(v 0).toNat, by omega⟩
  obtain ⟨nd, hd⟩ : ∃ n : Nat, v 1 = (n : Int) := ⟨(v 1).toNat, by omega⟩
  obtain ⟨nx, hx⟩ : ∃ n : Nat, v 2 = (n : Int) := ⟨(v 2).toNat, by omega⟩
  have rA : ∃ j : Nat, 15716035654990179271180288 + (1 * v 0 + (1024 * v 1 + (0))) = (j : Int) ∧ c_gv j (g j) = v 3 := rA
  have eA := t_g13 h ni nd 0 (by omega) (by omega) (by omega) rA (by omega)
  exact ⟨(by show 0 ≤ 0 + ((-1) * v 2 + (1 * v 3 + (0))); omega), (by show 0 ≤ 0 + (1 * v 2 + ((-1) * v 3 + (0))); omega), trivial⟩
-- ix2
theorem t_q245 {g : Nat → Int} (h : t_G g) : t_ok g 3 ([(24178516392292583494123520, [(0, 1)]), (9671406556917033397649408, [(1, 1)]), (43521329506126650289422336, [(0, 1)]), (24178516392292583494123521, [(0, 1)])], [(0, [(0, 1)]), (650, [(0, (-1))]), (0, [(1, 1)]), (650, [(1, (-1))]), (0, [(1, (-1)), (3, 1)]), (0, [(1, 1), (3, (-1))]), ((-1), [(4, 1)]), (0, [(2, (-1)), (5, 1)]), (0, [(2, 1), (5, (-1))])], [(0, [(2, (-1)), (6, 1)]), (0, [(2, 1), (6, (-1))])]) := by
  refine t_okI fun v hr hp => ?_
  obtain ⟨rI, rK, rP, rJ, -⟩ := hr
  obtain ⟨p0, p1, p2, p3, p4, p5, p6, p7, p8, -⟩ := hp
  have p0 : 0 ≤ 0 + (1 * v 0 + (0)) := p0
  have p1 : 0 ≤ 650 + ((-1) * v 0 + (0)) := p1
  have p2 : 0 ≤ 0 + (1 * v 1 + (0)) := p2
  have p3 : 0 ≤ 650 + ((-1) * v 1 + (0)) := p3
  have p4 : 0 ≤ 0 + ((-1) * v 1 + (1 * v 3 + (0))) := p4
  have p5 : 0 ≤ 0 + (1 * v 1 + ((-1) * v 3 + (0))) := p5
  have p6 : 0 ≤ (-1) + (1 * v 4 + (0)) := p6
  have p7 : 0 ≤ 0 + ((-1) * v 2 + (1 * v 5 + (0))) := p7
  have p8 : 0 ≤ 0 + (1 * v 2 + ((-1) * v 5 + (0))) := p8
  obtain ⟨nm, hm⟩ : ∃ n : Nat, v 0 = (n : Int) := ⟨(v 0).toNat, by omega⟩
  obtain ⟨ni, hi⟩ : ∃ n : Nat, v 1 = (n : Int) := ⟨(v 1).toNat, by omega⟩
  have rI : ∃ j : Nat, 24178516392292583494123520 + (1 * v 0 + (0)) = (j : Int) ∧ c_gv j (g j) = v 3 := rI
  have eI := t_g20 h nm (by omega) rI (by omega)
  have rK : ∃ j : Nat, 9671406556917033397649408 + (1 * v 1 + (0)) = (j : Int) ∧ c_gv j (g j) = v 4 := rK
  have eK := t_g8 h ni (by omega) rK (by omega)
  have rP : ∃ j : Nat, 43521329506126650289422336 + (1 * v 0 + (0)) = (j : Int) ∧ c_gv j (g j) = v 5 := rP
  have eP := t_g36 h nm (by omega) rP (by omega)
  have rJ : ∃ j : Nat, 24178516392292583494123521 + (1 * v 0 + (0)) = (j : Int) ∧ c_gv j (g j) = v 6 := rJ
  have eJ := t_g20 h (nm+1) (by omega) rJ (by omega)
  obtain ⟨s, hs, rfl⟩ := t_ix_s (X := t_tx g) (m := nm) (i := ni) (by omega)
  have c := t_ix_nx (X := t_tx g) hs (by omega)
  exact ⟨(by show 0 ≤ 0 + ((-1) * v 2 + (1 * v 6 + (0))); omega), (by show 0 ≤ 0 + (1 * v 2 + ((-1) * v 6 + (0))); omega), trivial⟩
-- ptE9
theorem t_q246 {g : Nat → Int} (h : t_G g) : t_ok g 2 ([(24178516392292583494123520, [(0, 1)]), (43521329506126650289422336, [(0, 1)]), (22969590572677954319417344, [(1, 1)]), (22969590572677954319418368, [(1, 1)]), (22969590572677954319419392, [(1, 1)]), (22969590572677954319420416, [(1, 1)])], [(0, [(0, 1)]), (650, [(0, (-1))]), (0, [(1, 1)]), (650, [(1, (-1))]), (0, [(1, (-1)), (2, 1)]), (0, [(1, 1), (2, (-1))]), (0, [(4, (-1))]), (0, [(5, (-1))]), (0, [(6, (-1))]), (0, [(7, (-1))])], [(1, [(3, 1)]), ((-1), [(3, (-1))])]) := by
  refine t_okI fun v hr hp => ?_
  obtain ⟨rI, rP, rA, rB, rC, rD, -⟩ := hr
  obtain ⟨p0, p1, p2, p3, p4, p5, p6, p7, p8, p9, -⟩ := hp
  have p0 : 0 ≤ 0 + (1 * v 0 + (0)) := p0
  have p1 : 0 ≤ 650 + ((-1) * v 0 + (0)) := p1
  have p2 : 0 ≤ 0 + (1 * v 1 + (0)) := p2
  have p3 : 0 ≤ 650 + ((-1) * v 1 + (0)) := p3
  have p4 : 0 ≤ 0 + ((-1) * v 1 + (1 * v 2 + (0))) := p4
  have p5 : 0 ≤ 0 + (1 * v 1 + ((-1) * v 2 + (0))) := p5
  have p6 : 0 ≤ 0 + ((-1) * v 4 + (0)) := p6
  have p7 : 0 ≤ 0 + ((-1) * v 5 + (0)) := p7
  have p8 : 0 ≤ 0 + ((-1) * v 6 + (0)) := p8
  have p9 : 0 ≤ 0 + ((-1) * v 7 + (0)) := p9
  obtain ⟨nm, hm⟩ : ∃ n : Nat, v 0 = (n : Int) := ⟨(v 0).toNat, by omega⟩
  obtain ⟨ni, hi⟩ : ∃ n : Nat, v 1 = (n : Int) := ⟨(v 1).toNat, by omega⟩
  have rI : ∃ j : Nat, 24178516392292583494123520 + (1 * v 0 + (0)) = (j : Int) ∧ c_gv j (g j) = v 2 := rI
  have eI := t_g20 h nm (by omega) rI (by omega)
  have rP : ∃ j : Nat, 43521329506126650289422336 + (1 * v 0 + (0)) = (j : Int) ∧ c_gv j (g j) = v 3 := rP
  have eP := t_g36 h nm (by omega) rP (by omega)
  have rA : ∃ j : Nat, 22969590572677954319417344 + (1 * v 1 + (0)) = (j : Int) ∧ c_gv j (g j) = v 4 := rA
  have eA := t_g19 h ni 0 (by omega) (by omega) rA (by omega)
  have rB : ∃ j : Nat, 22969590572677954319418368 + (1 * v 1 + (0)) = (j : Int) ∧ c_gv j (g j) = v 5 := rB
  have eB := t_g19 h ni 1 (by omega) (by omega) rB (by omega)
  have rC : ∃ j : Nat, 22969590572677954319419392 + (1 * v 1 + (0)) = (j : Int) ∧ c_gv j (g j) = v 6 := rC
  have eC := t_g19 h ni 2 (by omega) (by omega) rC (by omega)
  have rD : ∃ j : Nat, 22969590572677954319420416 + (1 * v 1 + (0)) = (j : Int) ∧ c_gv j (g j) = v 7 := rD
  have eD := t_g19 h ni 3 (by omega) (by omega) rD (by omega)
  obtain ⟨s, hs, rfl⟩ := t_ix_s (X := t_tx g) (m := nm) (i := ni) (by omega)
  have ceA : t_ky (t_tx g) s.1 ≠ 0 := fun h9 => by
    unfold t_isk at eA
    rw [if_pos (show t_ky (t_tx g) s.1 = ((0 : Nat) : Int) from h9)] at eA
    omega
  have ceB : t_ky (t_tx g) s.1 ≠ 1 := fun h9 => by
    unfold t_isk at eB
    rw [if_pos (show t_ky (t_tx g) s.1 = ((1 : Nat) : Int) from h9)] at eB
    omega
  have ceC : t_ky (t_tx g) s.1 ≠ 2 := fun h9 => by
    unfold t_isk at eC
    rw [if_pos (show t_ky (t_tx g) s.1 = ((2 : Nat) : Int) from h9)] at eC
    omega
  have ceD : t_ky (t_tx g) s.1 ≠ 3 := fun h9 => by
    unfold t_isk at eD
    rw [if_pos (show t_ky (t_tx g) s.1 = ((3 : Nat) : Int) from h9)] at eD
    omega
  have cp := t_pt_e (X := t_tx g) hs (by omega)
  exact ⟨(by show 0 ≤ 1 + (1 * v 3 + (0)); omega), (by show 0 ≤ (-1) + ((-1) * v 3 + (0)); omega), trivial⟩
