/-! rules on the tables, each with its proof (printed by gen_rul.py) -/
-- blE
theorem t_q0 {g : Nat → Int} (h : t_G g) : t_ok g 1 ([(1208925819614629174707199, []), (2417851639229258349412352, [(0, 1)])], [(0, [(0, 1)]), (600, [(0, (-1))]), (0, [(0, 1), (1, (-1))])], [(0, [(0, (-1)), (2, 1)]), (0, [(0, 1), (2, (-1))])]) := by
  refine t_okI fun v hr hp => ?_
  obtain ⟨rN, rB, -⟩ := hr
  obtain ⟨p0, p1, p2, -⟩ := hp
  have p0 : 0 ≤ 0 + (1 * v 0 + (0)) := p0
  have p1 : 0 ≤ 600 + ((-1) * v 0 + (0)) := p1
  have p2 : 0 ≤ 0 + (1 * v 0 + ((-1) * v 1 + (0))) := p2
  obtain ⟨np, hp⟩ : ∃ n : Nat, v 0 = (n : Int) := ⟨(v 0).toNat, by omega⟩
  have rN : ∃ j : Nat, 1208925819614629174707199 + (0) = (j : Int) ∧ c_gv j (g j) = v 1 := rN
  have eN := t_rdN h rN (by omega)
  have rB : ∃ j : Nat, 2417851639229258349412352 + (1 * v 0 + (0)) = (j : Int) ∧ c_gv j (g j) = v 2 := rB
  have eB := t_g2 h np (by omega) rB (by omega)
  have c := t_end_gt (f := t_blk) (X := t_tx g) (p := np) (by omega)
  exact ⟨(by show 0 ≤ 0 + ((-1) * v 0 + (1 * v 2 + (0))); omega), (by show 0 ≤ 0 + (1 * v 0 + ((-1) * v 2 + (0))); omega), trivial⟩
-- blS10
theorem t_q1 {g : Nat → Int} (h : t_G g) : t_ok g 1 ([(1208925819614629174707199, []), (1208925819614629174706176, [(0, 1)]), (2417851639229258349412352, [(0, 1)]), (2417851639229258349412353, [(0, 1)])], [(0, [(0, 1)]), (600, [(0, (-1))]), ((-1), [(0, (-1)), (1, 1)]), ((-10), [(2, 1)]), (10, [(2, (-1))])], [(0, [(3, 1), (4, (-1))]), (0, [(3, (-1)), (4, 1)])]) := by
  refine t_okI fun v hr hp => ?_
  obtain ⟨rN, rT, rB, rC, -⟩ := hr
  obtain ⟨p0, p1, p2, p3, p4, -⟩ := hp
  have p0 : 0 ≤ 0 + (1 * v 0 + (0)) := p0
  have p1 : 0 ≤ 600 + ((-1) * v 0 + (0)) := p1
  have p2 : 0 ≤ (-1) + ((-1) * v 0 + (1 * v 1 + (0))) := p2
  have p3 : 0 ≤ (-10) + (1 * v 2 + (0)) := p3
  have p4 : 0 ≤ 10 + ((-1) * v 2 + (0)) := p4
  obtain ⟨np, hp⟩ : ∃ n : Nat, v 0 = (n : Int) := ⟨(v 0).toNat, by omega⟩
  have rN : ∃ j : Nat, 1208925819614629174707199 + (0) = (j : Int) ∧ c_gv j (g j) = v 1 := rN
  have eN := t_rdN h rN (by omega)
  have rT : ∃ j : Nat, 1208925819614629174706176 + (1 * v 0 + (0)) = (j : Int) ∧ c_gv j (g j) = v 2 := rT
  have eT := t_rdT h np (by omega) rT (by omega)
  have bT := t_G_ge h np (by omega)
  have rB : ∃ j : Nat, 2417851639229258349412352 + (1 * v 0 + (0)) = (j : Int) ∧ c_gv j (g j) = v 3 := rB
  have eB := t_g2 h np (by omega) rB (by omega)
  have rC : ∃ j : Nat, 2417851639229258349412353 + (1 * v 0 + (0)) = (j : Int) ∧ c_gv j (g j) = v 4 := rC
  have eC := t_g2 h (np+1) (by omega) rC (by omega)
  have c := t_end_s (f := t_blk) (X := t_tx g) (p := np) (by omega) (t_blk_iff.mpr (by omega))
  rw [← c] at eC
  exact ⟨(by show 0 ≤ 0 + (1 * v 3 + ((-1) * v 4 + (0))); omega), (by show 0 ≤ 0 + ((-1) * v 3 + (1 * v 4 + (0))); omega), trivial⟩
-- blS32
theorem t_q2 {g : Nat → Int} (h : t_G g) : t_ok g 1 ([(1208925819614629174707199, []), (1208925819614629174706176, [(0, 1)]), (2417851639229258349412352, [(0, 1)]), (2417851639229258349412353, [(0, 1)])], [(0, [(0, 1)]), (600, [(0, (-1))]), ((-1), [(0, (-1)), (1, 1)]), ((-32), [(2, 1)]), (32, [(2, (-1))])], [(0, [(3, 1), (4, (-1))]), (0, [(3, (-1)), (4, 1)])]) := by
  refine t_okI fun v hr hp => ?_
  obtain ⟨rN, rT, rB, rC, -⟩ := hr
  obtain ⟨p0, p1, p2, p3, p4, -⟩ := hp
  have p0 : 0 ≤ 0 + (1 * v 0 + (0)) := p0
  have p1 : 0 ≤ 600 + ((-1) * v 0 + (0)) := p1
  have p2 : 0 ≤ (-1) + ((-1) * v 0 + (1 * v 1 + (0))) := p2
  have p3 : 0 ≤ (-32) + (1 * v 2 + (0)) := p3
  have p4 : 0 ≤ 32 + ((-1) * v 2 + (0)) := p4
  obtain ⟨np, hp⟩ : ∃ n : Nat, v 0 = (n : Int) := ⟨(v 0).toNat, by omega⟩
  have rN : ∃ j : Nat, 1208925819614629174707199 + (0) = (j : Int) ∧ c_gv j (g j) = v 1 := rN
  have eN := t_rdN h rN (by omega)
  have rT : ∃ j : Nat, 1208925819614629174706176 + (1 * v 0 + (0)) = (j : Int) ∧ c_gv j (g j) = v 2 := rT
  have eT := t_rdT h np (by omega) rT (by omega)
  have bT := t_G_ge h np (by omega)
  have rB : ∃ j : Nat, 2417851639229258349412352 + (1 * v 0 + (0)) = (j : Int) ∧ c_gv j (g j) = v 3 := rB
  have eB := t_g2 h np (by omega) rB (by omega)
  have rC : ∃ j : Nat, 2417851639229258349412353 + (1 * v 0 + (0)) = (j : Int) ∧ c_gv j (g j) = v 4 := rC
  have eC := t_g2 h (np+1) (by omega) rC (by omega)
  have c := t_end_s (f := t_blk) (X := t_tx g) (p := np) (by omega) (t_blk_iff.mpr (by omega))
  rw [← c] at eC
  exact ⟨(by show 0 ≤ 0 + (1 * v 3 + ((-1) * v 4 + (0))); omega), (by show 0 ≤ 0 + ((-1) * v 3 + (1 * v 4 + (0))); omega), trivial⟩
-- blN1
theorem t_q3 {g : Nat → Int} (h : t_G g) : t_ok g 1 ([(1208925819614629174707199, []), (1208925819614629174706176, [(0, 1)]), (2417851639229258349412352, [(0, 1)])], [(0, [(0, 1)]), (600, [(0, (-1))]), (9, [(2, (-1))])], [(0, [(0, (-1)), (3, 1)]), (0, [(0, 1), (3, (-1))])]) := by
  refine t_okI fun v hr hp => ?_
  obtain ⟨rN, rT, rB, -⟩ := hr
  obtain ⟨p0, p1, p2, -⟩ := hp
  have p0 : 0 ≤ 0 + (1 * v 0 + (0)) := p0
  have p1 : 0 ≤ 600 + ((-1) * v 0 + (0)) := p1
  have p2 : 0 ≤ 9 + ((-1) * v 2 + (0)) := p2
  obtain ⟨np, hp⟩ : ∃ n : Nat, v 0 = (n : Int) := ⟨(v 0).toNat, by omega⟩
  have rN : ∃ j : Nat, 1208925819614629174707199 + (0) = (j : Int) ∧ c_gv j (g j) = v 1 := rN
  have eN := t_rdN h rN (by omega)
  have rT : ∃ j : Nat, 1208925819614629174706176 + (1 * v 0 + (0)) = (j : Int) ∧ c_gv j (g j) = v 2 := rT
  have eT := t_rdT h np (by omega) rT (by omega)
  have bT := t_G_ge h np (by omega)
  have rB : ∃ j : Nat, 2417851639229258349412352 + (1 * v 0 + (0)) = (j : Int) ∧ c_gv j (g j) = v 3 := rB
  have eB := t_g2 h np (by omega) rB (by omega)
  have c := t_end_e (f := t_blk) (X := t_tx g) (p := np) (fun _ => t_nblk (by omega))
  exact ⟨(by show 0 ≤ 0 + ((-1) * v 0 + (1 * v 3 + (0))); omega), (by show 0 ≤ 0 + (1 * v 0 + ((-1) * v 3 + (0))); omega), trivial⟩
-- blN2
theorem t_q4 {g : Nat → Int} (h : t_G g) : t_ok g 1 ([(1208925819614629174707199, []), (1208925819614629174706176, [(0, 1)]), (2417851639229258349412352, [(0, 1)])], [(0, [(0, 1)]), (600, [(0, (-1))]), ((-11), [(2, 1)]), (31, [(2, (-1))])], [(0, [(0, (-1)), (3, 1)]), (0, [(0, 1), (3, (-1))])]) := by
  refine t_okI fun v hr hp => ?_
  obtain ⟨rN, rT, rB, -⟩ := hr
  obtain ⟨p0, p1, p2, p3, -⟩ := hp
  have p0 : 0 ≤ 0 + (1 * v 0 + (0)) := p0
  have p1 : 0 ≤ 600 + ((-1) * v 0 + (0)) := p1
  have p2 : 0 ≤ (-11) + (1 * v 2 + (0)) := p2
  have p3 : 0 ≤ 31 + ((-1) * v 2 + (0)) := p3
  obtain ⟨np, hp⟩ : ∃ n : Nat, v 0 = (n : Int) := ⟨(v 0).toNat, by omega⟩
  have rN : ∃ j : Nat, 1208925819614629174707199 + (0) = (j : Int) ∧ c_gv j (g j) = v 1 := rN
  have eN := t_rdN h rN (by omega)
  have rT : ∃ j : Nat, 1208925819614629174706176 + (1 * v 0 + (0)) = (j : Int) ∧ c_gv j (g j) = v 2 := rT
  have eT := t_rdT h np (by omega) rT (by omega)
  have bT := t_G_ge h np (by omega)
  have rB : ∃ j : Nat, 2417851639229258349412352 + (1 * v 0 + (0)) = (j : Int) ∧ c_gv j (g j) = v 3 := rB
  have eB := t_g2 h np (by omega) rB (by omega)
  have c := t_end_e (f := t_blk) (X := t_tx g) (p := np) (fun _ => t_nblk (by omega))
  exact ⟨(by show 0 ≤ 0 + ((-1) * v 0 + (1 * v 3 + (0))); omega), (by show 0 ≤ 0 + (1 * v 0 + ((-1) * v 3 + (0))); omega), trivial⟩
-- blN3
theorem t_q5 {g : Nat → Int} (h : t_G g) : t_ok g 1 ([(1208925819614629174707199, []), (1208925819614629174706176, [(0, 1)]), (2417851639229258349412352, [(0, 1)])], [(0, [(0, 1)]), (600, [(0, (-1))]), ((-33), [(2, 1)])], [(0, [(0, (-1)), (3, 1)]), (0, [(0, 1), (3, (-1))])]) := by
  refine t_okI fun v hr hp => ?_
  obtain ⟨rN, rT, rB, -⟩ := hr
  obtain ⟨p0, p1, p2, -⟩ := hp
  have p0 : 0 ≤ 0 + (1 * v 0 + (0)) := p0
  have p1 : 0 ≤ 600 + ((-1) * v 0 + (0)) := p1
  have p2 : 0 ≤ (-33) + (1 * v 2 + (0)) := p2
  obtain ⟨np, hp⟩ : ∃ n : Nat, v 0 = (n : Int) := ⟨(v 0).toNat, by omega⟩
  have rN : ∃ j : Nat, 1208925819614629174707199 + (0) = (j : Int) ∧ c_gv j (g j) = v 1 := rN
  have eN := t_rdN h rN (by omega)
  have rT : ∃ j : Nat, 1208925819614629174706176 + (1 * v 0 + (0)) = (j : Int) ∧ c_gv j (g j) = v 2 := rT
  have eT := t_rdT h np (by omega) rT (by omega)
  have bT := t_G_ge h np (by omega)
  have rB : ∃ j : Nat, 2417851639229258349412352 + (1 * v 0 + (0)) = (j : Int) ∧ c_gv j (g j) = v 3 := rB
  have eB := t_g2 h np (by omega) rB (by omega)
  have c := t_end_e (f := t_blk) (X := t_tx g) (p := np) (fun _ => t_nblk (by omega))
  exact ⟨(by show 0 ≤ 0 + ((-1) * v 0 + (1 * v 3 + (0))); omega), (by show 0 ≤ 0 + (1 * v 0 + ((-1) * v 3 + (0))); omega), trivial⟩
-- blB
theorem t_q6 {g : Nat → Int} (h : t_G g) : t_ok g 1 ([(1208925819614629174707199, []), (2417851639229258349412352, [(0, 1)])], [(0, [(0, 1)]), (600, [(0, (-1))]), (0, [(0, (-1)), (1, 1)])], [(0, [(0, (-1)), (2, 1)]), (0, [(1, 1), (2, (-1))])]) := by
  refine t_okI fun v hr hp => ?_
  obtain ⟨rN, rB, -⟩ := hr
  obtain ⟨p0, p1, p2, -⟩ := hp
  have p0 : 0 ≤ 0 + (1 * v 0 + (0)) := p0
  have p1 : 0 ≤ 600 + ((-1) * v 0 + (0)) := p1
  have p2 : 0 ≤ 0 + ((-1) * v 0 + (1 * v 1 + (0))) := p2
  obtain ⟨np, hp⟩ : ∃ n : Nat, v 0 = (n : Int) := ⟨(v 0).toNat, by omega⟩
  have rN : ∃ j : Nat, 1208925819614629174707199 + (0) = (j : Int) ∧ c_gv j (g j) = v 1 := rN
  have eN := t_rdN h rN (by omega)
  have rB : ∃ j : Nat, 2417851639229258349412352 + (1 * v 0 + (0)) = (j : Int) ∧ c_gv j (g j) = v 2 := rB
  have eB := t_g2 h np (by omega) rB (by omega)
  have c := t_end_ge (f := t_blk) (X := t_tx g) np
  have c2 := t_end_le (f := t_blk) (X := t_tx g) (p := np) (by omega)
  exact ⟨(by show 0 ≤ 0 + ((-1) * v 0 + (1 * v 2 + (0))); omega), (by show 0 ≤ 0 + (1 * v 1 + ((-1) * v 2 + (0))); omega), trivial⟩
-- leS
theorem t_q7 {g : Nat → Int} (h : t_G g) : t_ok g 1 ([(1208925819614629174707199, []), (1208925819614629174706176, [(0, 1)]), (3626777458843887524118528, [(0, 1)]), (3626777458843887524118529, [(0, 1)])], [(0, [(0, 1)]), (600, [(0, (-1))]), ((-1), [(0, (-1)), (1, 1)]), ((-97), [(2, 1)]), (122, [(2, (-1))])], [(0, [(3, 1), (4, (-1))]), (0, [(3, (-1)), (4, 1)])]) := by
  refine t_okI fun v hr hp => ?_
  obtain ⟨rN, rT, rA, rB, -⟩ := hr
  obtain ⟨p0, p1, p2, p3, p4, -⟩ := hp
  have p0 : 0 ≤ 0 + (1 * v 0 + (0)) := p0
  have p1 : 0 ≤ 600 + ((-1) * v 0 + (0)) := p1
  have p2 : 0 ≤ (-1) + ((-1) * v 0 + (1 * v 1 + (0))) := p2
  have p3 : 0 ≤ (-97) + (1 * v 2 + (0)) := p3
  have p4 : 0 ≤ 122 + ((-1) * v 2 + (0)) := p4
  obtain ⟨np, hp⟩ : ∃ n : Nat, v 0 = (n : Int) := ⟨(v 0).toNat, by omega⟩
  have rN : ∃ j : Nat, 1208925819614629174707199 + (0) = (j : Int) ∧ c_gv j (g j) = v 1 := rN
  have eN := t_rdN h rN (by omega)
  have rT : ∃ j : Nat, 1208925819614629174706176 + (1 * v 0 + (0)) = (j : Int) ∧ c_gv j (g j) = v 2 := rT
  have eT := t_rdT h np (by omega) rT (by omega)
  have bT := t_G_ge h np (by omega)
  have rA : ∃ j : Nat, 3626777458843887524118528 + (1 * v 0 + (0)) = (j : Int) ∧ c_gv j (g j) = v 3 := rA
  have eA := t_g3 h np (by omega) rA (by omega)
  have rB : ∃ j : Nat, 3626777458843887524118529 + (1 * v 0 + (0)) = (j : Int) ∧ c_gv j (g j) = v 4 := rB
  have eB := t_g3 h (np+1) (by omega) rB (by omega)
  have c := t_end_s (f := t_let) (X := t_tx g) (p := np) (by omega) (t_let_iff.mpr (by omega))
  exact ⟨(by show 0 ≤ 0 + (1 * v 3 + ((-1) * v 4 + (0))); omega), (by show 0 ≤ 0 + ((-1) * v 3 + (1 * v 4 + (0))); omega), trivial⟩
-- leE0
theorem t_q8 {g : Nat → Int} (h : t_G g) : t_ok g 1 ([(1208925819614629174707199, []), (3626777458843887524118528, [(0, 1)])], [(0, [(0, 1)]), (600, [(0, (-1))]), (0, [(0, 1), (1, (-1))])], [(0, [(0, (-1)), (2, 1)]), (0, [(0, 1), (2, (-1))])]) := by
  refine t_okI fun v hr hp => ?_
  obtain ⟨rN, rA, -⟩ := hr
  obtain ⟨p0, p1, p2, -⟩ := hp
  have p0 : 0 ≤ 0 + (1 * v 0 + (0)) := p0
  have p1 : 0 ≤ 600 + ((-1) * v 0 + (0)) := p1
  have p2 : 0 ≤ 0 + (1 * v 0 + ((-1) * v 1 + (0))) := p2
  obtain ⟨np, hp⟩ : ∃ n : Nat, v 0 = (n : Int) := ⟨(v 0).toNat, by omega⟩
  have rN : ∃ j : Nat, 1208925819614629174707199 + (0) = (j : Int) ∧ c_gv j (g j) = v 1 := rN
  have eN := t_rdN h rN (by omega)
  have rA : ∃ j : Nat, 3626777458843887524118528 + (1 * v 0 + (0)) = (j : Int) ∧ c_gv j (g j) = v 2 := rA
  have eA := t_g3 h np (by omega) rA (by omega)
  have c := t_end_gt (f := t_let) (X := t_tx g) (p := np) (by omega)
  exact ⟨(by show 0 ≤ 0 + ((-1) * v 0 + (1 * v 2 + (0))); omega), (by show 0 ≤ 0 + (1 * v 0 + ((-1) * v 2 + (0))); omega), trivial⟩
-- leE1
theorem t_q9 {g : Nat → Int} (h : t_G g) : t_ok g 1 ([(1208925819614629174707199, []), (1208925819614629174706176, [(0, 1)]), (3626777458843887524118528, [(0, 1)])], [(0, [(0, 1)]), (600, [(0, (-1))]), (96, [(2, (-1))])], [(0, [(0, (-1)), (3, 1)]), (0, [(0, 1), (3, (-1))])]) := by
  refine t_okI fun v hr hp => ?_
  obtain ⟨rN, rT, rA, -⟩ := hr
  obtain ⟨p0, p1, p2, -⟩ := hp
  have p0 : 0 ≤ 0 + (1 * v 0 + (0)) := p0
  have p1 : 0 ≤ 600 + ((-1) * v 0 + (0)) := p1
  have p2 : 0 ≤ 96 + ((-1) * v 2 + (0)) := p2
  obtain ⟨np, hp⟩ : ∃ n : Nat, v 0 = (n : Int) := ⟨(v 0).toNat, by omega⟩
  have rN : ∃ j : Nat, 1208925819614629174707199 + (0) = (j : Int) ∧ c_gv j (g j) = v 1 := rN
  have eN := t_rdN h rN (by omega)
  have rT : ∃ j : Nat, 1208925819614629174706176 + (1 * v 0 + (0)) = (j : Int) ∧ c_gv j (g j) = v 2 := rT
  have eT := t_rdT h np (by omega) rT (by omega)
  have bT := t_G_ge h np (by omega)
  have rA : ∃ j : Nat, 3626777458843887524118528 + (1 * v 0 + (0)) = (j : Int) ∧ c_gv j (g j) = v 3 := rA
  have eA := t_g3 h np (by omega) rA (by omega)
  have c := t_end_e (f := t_let) (X := t_tx g) (p := np) (fun _ => t_nlet (by omega))
  exact ⟨(by show 0 ≤ 0 + ((-1) * v 0 + (1 * v 3 + (0))); omega), (by show 0 ≤ 0 + (1 * v 0 + ((-1) * v 3 + (0))); omega), trivial⟩
-- leE2
theorem t_q10 {g : Nat → Int} (h : t_G g) : t_ok g 1 ([(1208925819614629174707199, []), (1208925819614629174706176, [(0, 1)]), (3626777458843887524118528, [(0, 1)])], [(0, [(0, 1)]), (600, [(0, (-1))]), ((-123), [(2, 1)])], [(0, [(0, (-1)), (3, 1)]), (0, [(0, 1), (3, (-1))])]) := by
  refine t_okI fun v hr hp => ?_
  obtain ⟨rN, rT, rA, -⟩ := hr
  obtain ⟨p0, p1, p2, -⟩ := hp
  have p0 : 0 ≤ 0 + (1 * v 0 + (0)) := p0
  have p1 : 0 ≤ 600 + ((-1) * v 0 + (0)) := p1
  have p2 : 0 ≤ (-123) + (1 * v 2 + (0)) := p2
  obtain ⟨np, hp⟩ : ∃ n : Nat, v 0 = (n : Int) := ⟨(v 0).toNat, by omega⟩
  have rN : ∃ j : Nat, 1208925819614629174707199 + (0) = (j : Int) ∧ c_gv j (g j) = v 1 := rN
  have eN := t_rdN h rN (by omega)
  have rT : ∃ j : Nat, 1208925819614629174706176 + (1 * v 0 + (0)) = (j : Int) ∧ c_gv j (g j) = v 2 := rT
  have eT := t_rdT h np (by omega) rT (by omega)
  have bT := t_G_ge h np (by omega)
  have rA : ∃ j : Nat, 3626777458843887524118528 + (1 * v 0 + (0)) = (j : Int) ∧ c_gv j (g j) = v 3 := rA
  have eA := t_g3 h np (by omega) rA (by omega)
  have c := t_end_e (f := t_let) (X := t_tx g) (p := np) (fun _ => t_nlet (by omega))
  exact ⟨(by show 0 ≤ 0 + ((-1) * v 0 + (1 * v 3 + (0))); omega), (by show 0 ≤ 0 + (1 * v 0 + ((-1) * v 3 + (0))); omega), trivial⟩
-- leG
theorem t_q11 {g : Nat → Int} (h : t_G g) : t_ok g 1 ([(1208925819614629174707199, []), (1208925819614629174706176, [(0, 1)]), (3626777458843887524118528, [(0, 1)])], [(0, [(0, 1)]), (600, [(0, (-1))]), ((-1), [(0, (-1)), (1, 1)]), ((-97), [(2, 1)]), (122, [(2, (-1))])], [((-1), [(0, (-1)), (3, 1)]), (0, [(1, 1), (3, (-1))])]) := by
  refine t_okI fun v hr hp => ?_
  obtain ⟨rN, rT, rA, -⟩ := hr
  obtain ⟨p0, p1, p2, p3, p4, -⟩ := hp
  have p0 : 0 ≤ 0 + (1 * v 0 + (0)) := p0
  have p1 : 0 ≤ 600 + ((-1) * v 0 + (0)) := p1
  have p2 : 0 ≤ (-1) + ((-1) * v 0 + (1 * v 1 + (0))) := p2
  have p3 : 0 ≤ (-97) + (1 * v 2 + (0)) := p3
  have p4 : 0 ≤ 122 + ((-1) * v 2 + (0)) := p4
  obtain ⟨np, hp⟩ : ∃ n : Nat, v 0 = (n : Int) := ⟨(v 0).toNat, by omega⟩
  have rN : ∃ j : Nat, 1208925819614629174707199 + (0) = (j : Int) ∧ c_gv j (g j) = v 1 := rN
  have eN := t_rdN h rN (by omega)
  have rT : ∃ j : Nat, 1208925819614629174706176 + (1 * v 0 + (0)) = (j : Int) ∧ c_gv j (g j) = v 2 := rT
  have eT := t_rdT h np (by omega) rT (by omega)
  have bT := t_G_ge h np (by omega)
  have rA : ∃ j : Nat, 3626777458843887524118528 + (1 * v 0 + (0)) = (j : Int) ∧ c_gv j (g j) = v 3 := rA
  have eA := t_g3 h np (by omega) rA (by omega)
  have c := t_end_s (f := t_let) (X := t_tx g) (p := np) (by omega) (t_let_iff.mpr (by omega))
  have c2 := t_end_ge (f := t_let) (X := t_tx g) (np + 1)
  have c3 := t_end_le (f := t_let) (X := t_tx g) (p := np) (by omega)
  exact ⟨(by show 0 ≤ (-1) + ((-1) * v 0 + (1 * v 3 + (0))); omega), (by show 0 ≤ 0 + (1 * v 1 + ((-1) * v 3 + (0))); omega), trivial⟩
-- deS
theorem t_q12 {g : Nat → Int} (h : t_G g) : t_ok g 1 ([(1208925819614629174707199, []), (1208925819614629174706176, [(0, 1)]), (4835703278458516698824704, [(0, 1)]), (4835703278458516698824705, [(0, 1)])], [(0, [(0, 1)]), (600, [(0, (-1))]), ((-1), [(0, (-1)), (1, 1)]), ((-48), [(2, 1)]), (57, [(2, (-1))])], [(0, [(3, 1), (4, (-1))]), (0, [(3, (-1)), (4, 1)])]) := by
  refine t_okI fun v hr hp => ?_
  obtain ⟨rN, rT, rA, rB, -⟩ := hr
  obtain ⟨p0, p1, p2, p3, p4, -⟩ := hp
  have p0 : 0 ≤ 0 + (1 * v 0 + (0)) := p0
  have p1 : 0 ≤ 600 + ((-1) * v 0 + (0)) := p1
  have p2 : 0 ≤ (-1) + ((-1) * v 0 + (1 * v 1 + (0))) := p2
  have p3 : 0 ≤ (-48) + (1 * v 2 + (0)) := p3
  have p4 : 0 ≤ 57 + ((-1) * v 2 + (0)) := p4
  obtain ⟨np, hp⟩ : ∃ n : Nat, v 0 = (n : Int) := ⟨(v 0).toNat, by omega⟩
  have rN : ∃ j : Nat, 1208925819614629174707199 + (0) = (j : Int) ∧ c_gv j (g j) = v 1 := rN
  have eN := t_rdN h rN (by omega)
  have rT : ∃ j : Nat, 1208925819614629174706176 + (1 * v 0 + (0)) = (j : Int) ∧ c_gv j (g j) = v 2 := rT
  have eT := t_rdT h np (by omega) rT (by omega)
  have bT := t_G_ge h np (by omega)
  have rA : ∃ j : Nat, 4835703278458516698824704 + (1 * v 0 + (0)) = (j : Int) ∧ c_gv j (g j) = v 3 := rA
  have eA := t_g4 h np (by omega) rA (by omega)
  have rB : ∃ j : Nat, 4835703278458516698824705 + (1 * v 0 + (0)) = (j : Int) ∧ c_gv j (g j) = v 4 := rB
  have eB := t_g4 h (np+1) (by omega) rB (by omega)
  have c := t_end_s (f := t_dig) (X := t_tx g) (p := np) (by omega) (t_dig_iff.mpr (by omega))
  exact ⟨(by show 0 ≤ 0 + (1 * v 3 + ((-1) * v 4 + (0))); omega), (by show 0 ≤ 0 + ((-1) * v 3 + (1 * v 4 + (0))); omega), trivial⟩
-- deE0
theorem t_q13 {g : Nat → Int} (h : t_G g) : t_ok g 1 ([(1208925819614629174707199, []), (4835703278458516698824704, [(0, 1)])], [(0, [(0, 1)]), (600, [(0, (-1))]), (0, [(0, 1), (1, (-1))])], [(0, [(0, (-1)), (2, 1)]), (0, [(0, 1), (2, (-1))])]) := by
  refine t_okI fun v hr hp => ?_
  obtain ⟨rN, rA, -⟩ := hr
  obtain ⟨p0, p1, p2, -⟩ := hp
  have p0 : 0 ≤ 0 + (1 * v 0 + (0)) := p0
  have p1 : 0 ≤ 600 + ((-1) * v 0 + (0)) := p1
  have p2 : 0 ≤ 0 + (1 * v 0 + ((-1) * v 1 + (0))) := p2
  obtain ⟨np, hp⟩ : ∃ n : Nat, v 0 = (n : Int) := ⟨(v 0).toNat, by omega⟩
  have rN : ∃ j : Nat, 1208925819614629174707199 + (0) = (j : Int) ∧ c_gv j (g j) = v 1 := rN
  have eN := t_rdN h rN (by omega)
  have rA : ∃ j : Nat, 4835703278458516698824704 + (1 * v 0 + (0)) = (j : Int) ∧ c_gv j (g j) = v 2 := rA
  have eA := t_g4 h np (by omega) rA (by omega)
  have c := t_end_gt (f := t_dig) (X := t_tx g) (p := np) (by omega)
  exact ⟨(by show 0 ≤ 0 + ((-1) * v 0 + (1 * v 2 + (0))); omega), (by show 0 ≤ 0 + (1 * v 0 + ((-1) * v 2 + (0))); omega), trivial⟩
-- deE1
theorem t_q14 {g : Nat → Int} (h : t_G g) : t_ok g 1 ([(1208925819614629174707199, []), (1208925819614629174706176, [(0, 1)]), (4835703278458516698824704, [(0, 1)])], [(0, [(0, 1)]), (600, [(0, (-1))]), (47, [(2, (-1))])], [(0, [(0, (-1)), (3, 1)]), (0, [(0, 1), (3, (-1))])]) := by
  refine t_okI fun v hr hp => ?_
  obtain ⟨rN, rT, rA, -⟩ := hr
  obtain ⟨p0, p1, p2, -⟩ := hp
  have p0 : 0 ≤ 0 + (1 * v 0 + (0)) := p0
  have p1 : 0 ≤ 600 + ((-1) * v 0 + (0)) := p1
  have p2 : 0 ≤ 47 + ((-1) * v 2 + (0)) := p2
  obtain ⟨np, hp⟩ : ∃ n : Nat, v 0 = (n : Int) := ⟨(v 0).toNat, by omega⟩
  have rN : ∃ j : Nat, 1208925819614629174707199 + (0) = (j : Int) ∧ c_gv j (g j) = v 1 := rN
  have eN := t_rdN h rN (by omega)
  have rT : ∃ j : Nat, 1208925819614629174706176 + (1 * v 0 + (0)) = (j : Int) ∧ c_gv j (g j) = v 2 := rT
  have eT := t_rdT h np (by omega) rT (by omega)
  have bT := t_G_ge h np (by omega)
  have rA : ∃ j : Nat, 4835703278458516698824704 + (1 * v 0 + (0)) = (j : Int) ∧ c_gv j (g j) = v 3 := rA
  have eA := t_g4 h np (by omega) rA (by omega)
  have c := t_end_e (f := t_dig) (X := t_tx g) (p := np) (fun _ => t_ndig (by omega))
  exact ⟨(by show 0 ≤ 0 + ((-1) * v 0 + (1 * v 3 + (0))); omega), (by show 0 ≤ 0 + (1 * v 0 + ((-1) * v 3 + (0))); omega), trivial⟩
-- deE2
theorem t_q15 {g : Nat → Int} (h : t_G g) : t_ok g 1 ([(1208925819614629174707199, []), (1208925819614629174706176, [(0, 1)]), (4835703278458516698824704, [(0, 1)])], [(0, [(0, 1)]), (600, [(0, (-1))]), ((-58), [(2, 1)])], [(0, [(0, (-1)), (3, 1)]), (0, [(0, 1), (3, (-1))])]) := by
  refine t_okI fun v hr hp => ?_
  obtain ⟨rN, rT, rA, -⟩ := hr
  obtain ⟨p0, p1, p2, -⟩ := hp
  have p0 : 0 ≤ 0 + (1 * v 0 + (0)) := p0
  have p1 : 0 ≤ 600 + ((-1) * v 0 + (0)) := p1
  have p2 : 0 ≤ (-58) + (1 * v 2 + (0)) := p2
  obtain ⟨np, hp⟩ : ∃ n : Nat, v 0 = (n : Int) := ⟨(v 0).toNat, by omega⟩
  have rN : ∃ j : Nat, 1208925819614629174707199 + (0) = (j : Int) ∧ c_gv j (g j) = v 1 := rN
  have eN := t_rdN h rN (by omega)
  have rT : ∃ j : Nat, 1208925819614629174706176 + (1 * v 0 + (0)) = (j : Int) ∧ c_gv j (g j) = v 2 := rT
  have eT := t_rdT h np (by omega) rT (by omega)
  have bT := t_G_ge h np (by omega)
  have rA : ∃ j : Nat, 4835703278458516698824704 + (1 * v 0 + (0)) = (j : Int) ∧ c_gv j (g j) = v 3 := rA
  have eA := t_g4 h np (by omega) rA (by omega)
  have c := t_end_e (f := t_dig) (X := t_tx g) (p := np) (fun _ => t_ndig (by omega))
  exact ⟨(by show 0 ≤ 0 + ((-1) * v 0 + (1 * v 3 + (0))); omega), (by show 0 ≤ 0 + (1 * v 0 + ((-1) * v 3 + (0))); omega), trivial⟩
-- deG
theorem t_q16 {g : Nat → Int} (h : t_G g) : t_ok g 1 ([(1208925819614629174707199, []), (1208925819614629174706176, [(0, 1)]), (4835703278458516698824704, [(0, 1)])], [(0, [(0, 1)]), (600, [(0, (-1))]), ((-1), [(0, (-1)), (1, 1)]), ((-48), [(2, 1)]), (57, [(2, (-1))])], [((-1), [(0, (-1)), (3, 1)]), (0, [(1, 1), (3, (-1))])]) := by
  refine t_okI fun v hr hp => ?_
  obtain ⟨rN, rT, rA, -⟩ := hr
  obtain ⟨p0, p1, p2, p3, p4, -⟩ := hp
  have p0 : 0 ≤ 0 + (1 * v 0 + (0)) := p0
  have p1 : 0 ≤ 600 + ((-1) * v 0 + (0)) := p1
  have p2 : 0 ≤ (-1) + ((-1) * v 0 + (1 * v 1 + (0))) := p2
  have p3 : 0 ≤ (-48) + (1 * v 2 + (0)) := p3
  have p4 : 0 ≤ 57 + ((-1) * v 2 + (0)) := p4
  obtain ⟨np, hp⟩ : ∃ n : Nat, v 0 = (n : Int) := ⟨(v 0).toNat, by omega⟩
  have rN : ∃ j : Nat, 1208925819614629174707199 + (0) = (j : Int) ∧ c_gv j (g j) = v 1 := rN
  have eN := t_rdN h rN (by omega)
  have rT : ∃ j : Nat, 1208925819614629174706176 + (1 * v 0 + (0)) = (j : Int) ∧ c_gv j (g j) = v 2 := rT
  have eT := t_rdT h np (by omega) rT (by omega)
  have bT := t_G_ge h np (by omega)
  have rA : ∃ j : Nat, 4835703278458516698824704 + (1 * v 0 + (0)) = (j : Int) ∧ c_gv j (g j) = v 3 := rA
  have eA := t_g4 h np (by omega) rA (by omega)
  have c := t_end_s (f := t_dig) (X := t_tx g) (p := np) (by omega) (t_dig_iff.mpr (by omega))
  have c2 := t_end_ge (f := t_dig) (X := t_tx g) (np + 1)
  have c3 := t_end_le (f := t_dig) (X := t_tx g) (p := np) (by omega)
  exact ⟨(by show 0 ≤ (-1) + ((-1) * v 0 + (1 * v 3 + (0))); omega), (by show 0 ≤ 0 + (1 * v 1 + ((-1) * v 3 + (0))); omega), trivial⟩
-- pk0
theorem t_q17 {g : Nat → Int} (h : t_G g) : t_ok g 1 ([(6044629098073145873530880, [(0, 1)])], [(0, [(0, 1)]), (600, [(0, (-1))])], [(0, [(1, 1)]), (0, [(1, (-1))])]) := by
  refine t_okI fun v hr hp => ?_
  obtain ⟨rP, -⟩ := hr
  obtain ⟨p0, p1, -⟩ := hp
  have p0 : 0 ≤ 0 + (1 * v 0 + (0)) := p0
  have p1 : 0 ≤ 600 + ((-1) * v 0 + (0)) := p1
  obtain ⟨na, ha⟩ : ∃ n : Nat, v 0 = (n : Int) := ⟨(v 0).toNat, by omega⟩
  have rP : ∃ j : Nat, 6044629098073145873530880 + (1 * v 0 + (0)) = (j : Int) ∧ c_gv j (g j) = v 1 := rP
  have eP := t_g5 h na 0 (by omega) (by omega) rP (by omega)
  have c : t_pk (t_tx g) na 0 = 0 := rfl
  exact ⟨(by show 0 ≤ 0 + (1 * v 1 + (0)); omega), (by show 0 ≤ 0 + ((-1) * v 1 + (0)); omega), trivial⟩
-- pkS
theorem t_q18 {g : Nat → Int} (h : t_G g) : t_ok g 2 ([(6044629098073145873530880, [(0, 1), (1, 1024)]), (6044629098073145873531904, [(0, 1), (1, 1024)]), (1208925819614629174706176, [(0, 1), (1, 1)])], [(0, [(0, 1)]), (600, [(0, (-1))]), (0, [(1, 1)]), (7, [(1, (-1))]), ((-97), [(4, 1)]), (122, [(4, (-1))])], [(96, [(2, (-32)), (3, 1), (4, (-1))]), ((-96), [(2, 32), (3, (-1)), (4, 1)]), (0, [(2, 1)]), ((-1), [(3, 1)]), (1099511627775, [(3, (-1))])]) := by
  refine t_okI fun v hr hp => ?_
  obtain ⟨rP, rQ, rT, -⟩ := hr
  obtain ⟨p0, p1, p2, p3, p4, p5, -⟩ := hp
  have p0 : 0 ≤ 0 + (1 * v 0 + (0)) := p0
  have p1 : 0 ≤ 600 + ((-1) * v 0 + (0)) := p1
  have p2 : 0 ≤ 0 + (1 * v 1 + (0)) := p2
  have p3 : 0 ≤ 7 + ((-1) * v 1 + (0)) := p3
  have p4 : 0 ≤ (-97) + (1 * v 4 + (0)) := p4
  have p5 : 0 ≤ 122 + ((-1) * v 4 + (0)) := p5
  obtain ⟨na, ha⟩ : ∃ n : Nat, v 0 = (n : Int) := ⟨(v 0).toNat, by omega⟩
  obtain ⟨nk, hk⟩ : ∃ n : Nat, v 1 = (n : Int) := ⟨(v 1).toNat, by omega⟩
  have rP : ∃ j : Nat, 6044629098073145873530880 + (1 * v 0 + (1024 * v 1 + (0))) = (j : Int) ∧ c_gv j (g j) = v 2 := rP
  have eP := t_g5 h na nk (by omega) (by omega) rP (by omega)
  have rQ : ∃ j : Nat, 6044629098073145873531904 + (1 * v 0 + (1024 * v 1 + (0))) = (j : Int) ∧ c_gv j (g j) = v 3 := rQ
  have eQ := t_g5 h na (nk+1) (by omega) (by omega) rQ (by omega)
  have rT : ∃ j : Nat, 1208925819614629174706176 + (1 * v 0 + (1 * v 1 + (0))) = (j : Int) ∧ c_gv j (g j) = v 4 := rT
  have eT := t_rdT h (na+nk) (by omega) rT (by omega)
  have bT := t_G_ge h (na+nk) (by omega)
  have c : t_pk (t_tx g) na (nk + 1) = 32 * t_pk (t_tx g) na nk + max 1 (min 26 ((t_tx g).1 (na + nk) - 96)) := rfl
  have c2 := t_pk8 (X := t_tx g) na (k := nk) (by omega)
  have c3 := t_pk8 (X := t_tx g) na (k := nk + 1) (by omega)
  exact ⟨(by show 0 ≤ 96 + ((-32) * v 2 + (1 * v 3 + ((-1) * v 4 + (0)))); omega), (by show 0 ≤ (-96) + (32 * v 2 + ((-1) * v 3 + (1 * v 4 + (0)))); omega), (by show 0 ≤ 0 + (1 * v 2 + (0)); omega), (by show 0 ≤ (-1) + (1 * v 3 + (0)); omega), (by show 0 ≤ 1099511627775 + ((-1) * v 3 + (0)); omega), trivial⟩
-- nm0
theorem t_q19 {g : Nat → Int} (h : t_G g) : t_ok g 1 ([(7253554917687775048237056, [(0, 1)])], [(0, [(0, 1)]), (600, [(0, (-1))])], [(0, [(1, 1)]), (0, [(1, (-1))])]) := by
  refine t_okI fun v hr hp => ?_
  obtain ⟨rP, -⟩ := hr
  obtain ⟨p0, p1, -⟩ := hp
  have p0 : 0 ≤ 0 + (1 * v 0 + (0)) := p0
  have p1 : 0 ≤ 600 + ((-1) * v 0 + (0)) := p1
  obtain ⟨na, ha⟩ : ∃ n : Nat, v 0 = (n : Int) := ⟨(v 0).toNat, by omega⟩
  have rP : ∃ j : Nat, 7253554917687775048237056 + (1 * v 0 + (0)) = (j : Int) ∧ c_gv j (g j) = v 1 := rP
  have eP := t_g6 h na 0 (by omega) (by omega) rP (by omega)
  have c : t_nm (t_tx g) na 0 = 0 := rfl
  exact ⟨(by show 0 ≤ 0 + (1 * v 1 + (0)); omega), (by show 0 ≤ 0 + ((-1) * v 1 + (0)); omega), trivial⟩
-- cgNM
theorem t_q20 {g : Nat → Int} (h : t_G g) : t_ok g 2 ([(7253554917687775048237056, [(0, 1), (1, 1024)]), (7253554917687775048241152, [(0, 1)])], [(0, [(0, 1)]), (600, [(0, (-1))]), ((-4), [(1, 1)]), (4, [(1, (-1))])], [(0, [(2, 1), (3, (-1))]), (0, [(2, (-1)), (3, 1)])]) := by
  refine t_okI fun v hr hp => ?_
  obtain ⟨rP, rQ, -⟩ := hr
  obtain ⟨p0, p1, p2, p3, -⟩ := hp
  have p0 : 0 ≤ 0 + (1 * v 0 + (0)) := p0
  have p1 : 0 ≤ 600 + ((-1) * v 0 + (0)) := p1
  have p2 : 0 ≤ (-4) + (1 * v 1 + (0)) := p2
  have p3 : 0 ≤ 4 + ((-1) * v 1 + (0)) := p3
  obtain ⟨na, ha⟩ : ∃ n : Nat, v 0 = (n : Int) := ⟨(v 0).toNat, by omega⟩
  obtain ⟨nk, hk⟩ : ∃ n : Nat, v 1 = (n : Int) := ⟨(v 1).toNat, by omega⟩
  have rP : ∃ j : Nat, 7253554917687775048237056 + (1 * v 0 + (1024 * v 1 + (0))) = (j : Int) ∧ c_gv j (g j) = v 2 := rP
  have eP := t_g6 h na nk (by omega) (by omega) rP (by omega)
  have rQ : ∃ j : Nat, 7253554917687775048241152 + (1 * v 0 + (0)) = (j : Int) ∧ c_gv j (g j) = v 3 := rQ
  have eQ := t_g6 h na 4 (by omega) (by omega) rQ (by omega)
  have c : nk = 4 := by omega
  subst c
  exact ⟨(by show 0 ≤ 0 + (1 * v 2 + ((-1) * v 3 + (0))); omega), (by show 0 ≤ 0 + ((-1) * v 2 + (1 * v 3 + (0))); omega), trivial⟩
-- nmS
theorem t_q21 {g : Nat → Int} (h : t_G g) : t_ok g 2 ([(7253554917687775048237056, [(0, 1), (1, 1024)]), (7253554917687775048238080, [(0, 1), (1, 1024)]), (1208925819614629174706176, [(0, 1), (1, 1)])], [(0, [(0, 1)]), (600, [(0, (-1))]), (0, [(1, 1)]), (3, [(1, (-1))]), ((-48), [(4, 1)]), (57, [(4, (-1))])], [(48, [(2, (-10)), (3, 1), (4, (-1))]), ((-48), [(2, 10), (3, (-1)), (4, 1)]), (0, [(2, 1)]), (999, [(2, (-1))]), (9999, [(3, (-1))])]) := by
  refine t_okI fun v hr hp => ?_
  obtain ⟨rP, rQ, rT, -⟩ := hr
  obtain ⟨p0, p1, p2, p3, p4, p5, -⟩ := hp
  have p0 : 0 ≤ 0 + (1 * v 0 + (0)) := p0
  have p1 : 0 ≤ 600 + ((-1) * v 0 + (0)) := p1
  have p2 : 0 ≤ 0 + (1 * v 1 + (0)) := p2
  have p3 : 0 ≤ 3 + ((-1) * v 1 + (0)) := p3
  have p4 : 0 ≤ (-48) + (1 * v 4 + (0)) := p4
  have p5 : 0 ≤ 57 + ((-1) * v 4 + (0)) := p5
  obtain ⟨na, ha⟩ : ∃ n : Nat, v 0 = (n : Int) := ⟨(v 0).toNat, by omega⟩
  obtain ⟨nk, hk⟩ : ∃ n : Nat, v 1 = (n : Int) := ⟨(v 1).toNat, by omega⟩
  have rP : ∃ j : Nat, 7253554917687775048237056 + (1 * v 0 + (1024 * v 1 + (0))) = (j : Int) ∧ c_gv j (g j) = v 2 := rP
  have eP := t_g6 h na nk (by omega) (by omega) rP (by omega)
  have rQ : ∃ j : Nat, 7253554917687775048238080 + (1 * v 0 + (1024 * v 1 + (0))) = (j : Int) ∧ c_gv j (g j) = v 3 := rQ
  have eQ := t_g6 h na (nk+1) (by omega) (by omega) rQ (by omega)
  have rT : ∃ j : Nat, 1208925819614629174706176 + (1 * v 0 + (1 * v 1 + (0))) = (j : Int) ∧ c_gv j (g j) = v 4 := rT
  have eT := t_rdT h (na+nk) (by omega) rT (by omega)
  have bT := t_G_ge h (na+nk) (by omega)
  have c : t_nm (t_tx g) na (nk + 1) = 10 * t_nm (t_tx g) na nk + max 0 (min 9 ((t_tx g).1 (na + nk) - 48)) := rfl
  have c2 := t_nm4 (X := t_tx g) na (k := nk) (by omega)
  have c3 := t_nm4 (X := t_tx g) na (k := nk + 1) (by omega)
  exact ⟨(by show 0 ≤ 48 + ((-10) * v 2 + (1 * v 3 + ((-1) * v 4 + (0)))); omega), (by show 0 ≤ (-48) + (10 * v 2 + ((-1) * v 3 + (1 * v 4 + (0)))); omega), (by show 0 ≤ 0 + (1 * v 2 + (0)); omega), (by show 0 ≤ 999 + ((-1) * v 2 + (0)); omega), (by show 0 ≤ 9999 + ((-1) * v 3 + (0)); omega), trivial⟩
-- pl
theorem t_q22 {g : Nat → Int} (h : t_G g) : t_ok g 2 ([(10880332376531662572355584, [(0, 1)]), (8462480737302404222943232, [(0, 1)]), (2417851639229258349412352, [(1, 1)])], [(0, [(0, 1)]), (700, [(0, (-1))]), (0, [(1, (-1)), (2, 1)]), (0, [(1, 1), (2, (-1))]), (0, [(1, 1)]), (600, [(1, (-1))])], [(0, [(3, 1), (4, (-1))]), (0, [(3, (-1)), (4, 1)])]) := by
  refine t_okI fun v hr hp => ?_
  obtain ⟨rE, rP, rB, -⟩ := hr
  obtain ⟨p0, p1, p2, p3, p4, p5, -⟩ := hp
  have p0 : 0 ≤ 0 + (1 * v 0 + (0)) := p0
  have p1 : 0 ≤ 700 + ((-1) * v 0 + (0)) := p1
  have p2 : 0 ≤ 0 + ((-1) * v 1 + (1 * v 2 + (0))) := p2
  have p3 : 0 ≤ 0 + (1 * v 1 + ((-1) * v 2 + (0))) := p3
  have p4 : 0 ≤ 0 + (1 * v 1 + (0)) := p4
  have p5 : 0 ≤ 600 + ((-1) * v 1 + (0)) := p5
  obtain ⟨ni, hi⟩ : ∃ n : Nat, v 0 = (n : Int) := ⟨(v 0).toNat, by omega⟩
  obtain ⟨ne, he⟩ : ∃ n : Nat, v 1 = (n : Int) := ⟨(v 1).toNat, by omega⟩
  have rE : ∃ j : Nat, 10880332376531662572355584 + (1 * v 0 + (0)) = (j : Int) ∧ c_gv j (g j) = v 2 := rE
  have eE := t_g9 h ni (by omega) rE (by omega)
  have rP : ∃ j : Nat, 8462480737302404222943232 + (1 * v 0 + (0)) = (j : Int) ∧ c_gv j (g j) = v 3 := rP
  have eP := t_g7 h ni (by omega) rP (by omega)
  have rB : ∃ j : Nat, 2417851639229258349412352 + (1 * v 1 + (0)) = (j : Int) ∧ c_gv j (g j) = v 4 := rB
  have eB := t_g2 h ne (by omega) rB (by omega)
  have c : t_pl (t_tx g) ni = t_end t_blk (t_tx g) (t_ep (t_tx g) ni) := rfl
  rw [show t_ep (t_tx g) ni = ne by omega] at c
  exact ⟨(by show 0 ≤ 0 + (1 * v 3 + ((-1) * v 4 + (0))); omega), (by show 0 ≤ 0 + ((-1) * v 3 + (1 * v 4 + (0))); omega), trivial⟩
-- plq
theorem t_q23 {g : Nat → Int} (h : t_G g) : t_ok g 2 ([(8462480737302404222943232, [(0, 1)]), (2417851639229258349412352, [(1, 1)])], [(0, [(0, 1)]), (700, [(0, (-1))]), (0, [(1, 1)]), (600, [(1, (-1))]), (0, [(2, 1), (3, (-1))]), (0, [(2, (-1)), (3, 1)]), (0, [(1, (-1)), (3, 1)]), (0, [(1, 1), (3, (-1))])], [(0, [(1, (-1)), (2, 1)]), (0, [(1, 1), (2, (-1))])]) := by
  refine t_okI fun v hr hp => ?_
  obtain ⟨rP, rB, -⟩ := hr
  obtain ⟨p0, p1, p2, p3, p4, p5, p6, p7, -⟩ := hp
  have p0 : 0 ≤ 0 + (1 * v 0 + (0)) := p0
  have p1 : 0 ≤ 700 + ((-1) * v 0 + (0)) := p1
  have p2 : 0 ≤ 0 + (1 * v 1 + (0)) := p2
  have p3 : 0 ≤ 600 + ((-1) * v 1 + (0)) := p3
  have p4 : 0 ≤ 0 + (1 * v 2 + ((-1) * v 3 + (0))) := p4
  have p5 : 0 ≤ 0 + ((-1) * v 2 + (1 * v 3 + (0))) := p5
  have p6 : 0 ≤ 0 + ((-1) * v 1 + (1 * v 3 + (0))) := p6
  have p7 : 0 ≤ 0 + (1 * v 1 + ((-1) * v 3 + (0))) := p7
  obtain ⟨ni, hi⟩ : ∃ n : Nat, v 0 = (n : Int) := ⟨(v 0).toNat, by omega⟩
  obtain ⟨np, hp⟩ : ∃ n : Nat, v 1 = (n : Int) := ⟨(v 1).toNat, by omega⟩
  have rP : ∃ j : Nat, 8462480737302404222943232 + (1 * v 0 + (0)) = (j : Int) ∧ c_gv j (g j) = v 2 := rP
  have eP := t_g7 h ni (by omega) rP (by omega)
  have rB : ∃ j : Nat, 2417851639229258349412352 + (1 * v 1 + (0)) = (j : Int) ∧ c_gv j (g j) = v 3 := rB
  have eB := t_g2 h np (by omega) rB (by omega)
  exact ⟨(by show 0 ≤ 0 + ((-1) * v 1 + (1 * v 2 + (0))); omega), (by show 0 ≤ 0 + (1 * v 1 + ((-1) * v 2 + (0))); omega), trivial⟩
-- ep0
theorem t_q24 {g : Nat → Int} (h : t_G g) : t_ok g 0 ([(10880332376531662572355584, [])], [], [(0, [(0, 1)]), (0, [(0, (-1))])]) := by
  refine t_okI fun v hr hp => ?_
  obtain ⟨rE, -⟩ := hr
  have rE : ∃ j : Nat, 10880332376531662572355584 + (0) = (j : Int) ∧ c_gv j (g j) = v 0 := rE
  have eE := t_g9 h 0 (by omega) rE (by omega)
  have c : t_ep (t_tx g) 0 = 0 := rfl
  exact ⟨(by show 0 ≤ 0 + (1 * v 0 + (0)); omega), (by show 0 ≤ 0 + ((-1) * v 0 + (0)); omega), trivial⟩
-- kE
theorem t_q25 {g : Nat → Int} (h : t_G g) : t_ok g 1 ([(8462480737302404222943232, [(0, 1)]), (1208925819614629174707199, []), (9671406556917033397649408, [(0, 1)]), (12089258196146291747061760, [(0, 1)]), (13298184015760920921767936, [(0, 1)]), (10880332376531662572355585, [(0, 1)])], [(0, [(0, 1)]), (700, [(0, (-1))]), (0, [(1, 1), (2, (-1))])], [(0, [(3, 1)]), (0, [(3, (-1))]), (0, [(4, 1)]), (0, [(4, (-1))]), (1, [(5, 1)]), ((-1), [(5, (-1))]), (0, [(2, (-1)), (6, 1)]), (0, [(2, 1), (6, (-1))])]) := by
  refine t_okI fun v hr hp => ?_
  obtain ⟨rP, rN, rK, rV, rY, rE, -⟩ := hr
  obtain ⟨p0, p1, p2, -⟩ := hp
  have p0 : 0 ≤ 0 + (1 * v 0 + (0)) := p0
  have p1 : 0 ≤ 700 + ((-1) * v 0 + (0)) := p1
  have p2 : 0 ≤ 0 + (1 * v 1 + ((-1) * v 2 + (0))) := p2
  obtain ⟨ni, hi⟩ : ∃ n : Nat, v 0 = (n : Int) := ⟨(v 0).toNat, by omega⟩
  have rP : ∃ j : Nat, 8462480737302404222943232 + (1 * v 0 + (0)) = (j : Int) ∧ c_gv j (g j) = v 1 := rP
  have eP := t_g7 h ni (by omega) rP (by omega)
  have rN : ∃ j : Nat, 1208925819614629174707199 + (0) = (j : Int) ∧ c_gv j (g j) = v 2 := rN
  have eN := t_rdN h rN (by omega)
  have rK : ∃ j : Nat, 9671406556917033397649408 + (1 * v 0 + (0)) = (j : Int) ∧ c_gv j (g j) = v 3 := rK
  have eK := t_g8 h ni (by omega) rK (by omega)
  have rV : ∃ j : Nat, 12089258196146291747061760 + (1 * v 0 + (0)) = (j : Int) ∧ c_gv j (g j) = v 4 := rV
  have eV := t_g10 h ni (by omega) rV (by omega)
  have rY : ∃ j : Nat, 13298184015760920921767936 + (1 * v 0 + (0)) = (j : Int) ∧ c_gv j (g j) = v 5 := rY
  have eY := t_g11 h ni (by omega) rY (by omega)
  have rE : ∃ j : Nat, 10880332376531662572355585 + (1 * v 0 + (0)) = (j : Int) ∧ c_gv j (g j) = v 6 := rE
  have eE := t_g9 h (ni+1) (by omega) rE (by omega)
  have c := t_tokE (X := t_tx g) (i := ni) (by omega)
  have cy : t_ky (t_tx g) ni = -1 := by
    unfold t_ky
    rw [if_neg (by omega)]
  exact ⟨(by show 0 ≤ 0 + (1 * v 3 + (0)); omega), (by show 0 ≤ 0 + ((-1) * v 3 + (0)); omega), (by show 0 ≤ 0 + (1 * v 4 + (0)); omega), (by show 0 ≤ 0 + ((-1) * v 4 + (0)); omega), (by show 0 ≤ 1 + (1 * v 5 + (0)); omega), (by show 0 ≤ (-1) + ((-1) * v 5 + (0)); omega), (by show 0 ≤ 0 + ((-1) * v 2 + (1 * v 6 + (0))); omega), (by show 0 ≤ 0 + (1 * v 2 + ((-1) * v 6 + (0))); omega), trivial⟩
-- kW1
theorem t_q26 {g : Nat → Int} (h : t_G g) : t_ok g 3 ([(8462480737302404222943232, [(0, 1)]), (1208925819614629174707199, []), (1208925819614629174706176, [(1, 1)]), (3626777458843887524118528, [(1, 1)]), (9671406556917033397649408, [(0, 1)]), (12089258196146291747061760, [(0, 1)]), (10880332376531662572355585, [(0, 1)]), (6044629098073145873530880, [(1, (-1023)), (2, 1024)])], [(0, [(0, 1)]), (700, [(0, (-1))]), (0, [(1, 1)]), (600, [(1, (-1))]), (0, [(1, (-1)), (3, 1)]), (0, [(1, 1), (3, (-1))]), ((-1), [(1, (-1)), (4, 1)]), ((-97), [(5, 1)]), (122, [(5, (-1))]), (0, [(2, (-1)), (6, 1)]), (0, [(2, 1), (6, (-1))]), ((-1), [(1, (-1)), (2, 1)]), (8, [(1, 1), (2, (-1))])], [((-1), [(7, 1)]), (1, [(7, (-1))]), (0, [(8, 1), (10, (-1))]), (0, [(8, (-1)), (10, 1)]), (0, [(2, (-1)), (9, 1)]), (0, [(2, 1), (9, (-1))]), (0, [(6, (-1)), (9, 1)]), (0, [(6, 1), (9, (-1))]), ((-1), [(8, 1)]), (1099511627775, [(8, (-1))])]) := by
  refine t_okI fun v hr hp => ?_
  obtain ⟨rP, rN, rT, rL, rK, rV, rE, rQ, -⟩ := hr
  obtain ⟨p0, p1, p2, p3, p4, p5, p6, p7, p8, p9, p10, p11, p12, -⟩ := hp
  have p0 : 0 ≤ 0 + (1 * v 0 + (0)) := p0
  have p1 : 0 ≤ 700 + ((-1) * v 0 + (0)) := p1
  have p2 : 0 ≤ 0 + (1 * v 1 + (0)) := p2
  have p3 : 0 ≤ 600 + ((-1) * v 1 + (0)) := p3
  have p4 : 0 ≤ 0 + ((-1) * v 1 + (1 * v 3 + (0))) := p4
  have p5 : 0 ≤ 0 + (1 * v 1 + ((-1) * v 3 + (0))) := p5
  have p6 : 0 ≤ (-1) + ((-1) * v 1 + (1 * v 4 + (0))) := p6
  have p7 : 0 ≤ (-97) + (1 * v 5 + (0)) := p7
  have p8 : 0 ≤ 122 + ((-1) * v 5 + (0)) := p8
  have p9 : 0 ≤ 0 + ((-1) * v 2 + (1 * v 6 + (0))) := p9
  have p10 : 0 ≤ 0 + (1 * v 2 + ((-1) * v 6 + (0))) := p10
  have p11 : 0 ≤ (-1) + ((-1) * v 1 + (1 * v 2 + (0))) := p11
  have p12 : 0 ≤ 8 + (1 * v 1 + ((-1) * v 2 + (0))) := p12
  obtain ⟨ni, hi⟩ : ∃ n : Nat, v 0 = (n : Int) := ⟨(v 0).toNat, by omega⟩
  obtain ⟨np, hp⟩ : ∃ n : Nat, v 1 = (n : Int) := ⟨(v 1).toNat, by omega⟩
  obtain ⟨nq, hq⟩ : ∃ n : Nat, v 2 = (n : Int) := ⟨(v 2).toNat, by omega⟩
  have rP : ∃ j : Nat, 8462480737302404222943232 + (1 * v 0 + (0)) = (j : Int) ∧ c_gv j (g j) = v 3 := rP
  have eP := t_g7 h ni (by omega) rP (by omega)
  have rN : ∃ j : Nat, 1208925819614629174707199 + (0) = (j : Int) ∧ c_gv j (g j) = v 4 := rN
  have eN := t_rdN h rN (by omega)
  have rT : ∃ j : Nat, 1208925819614629174706176 + (1 * v 1 + (0)) = (j : Int) ∧ c_gv j (g j) = v 5 := rT
  have eT := t_rdT h np (by omega) rT (by omega)
  have bT := t_G_ge h np (by omega)
  have rL : ∃ j : Nat, 3626777458843887524118528 + (1 * v 1 + (0)) = (j : Int) ∧ c_gv j (g j) = v 6 := rL
  have eL := t_g3 h np (by omega) rL (by omega)
  have rK : ∃ j : Nat, 9671406556917033397649408 + (1 * v 0 + (0)) = (j : Int) ∧ c_gv j (g j) = v 7 := rK
  have eK := t_g8 h ni (by omega) rK (by omega)
  have rV : ∃ j : Nat, 12089258196146291747061760 + (1 * v 0 + (0)) = (j : Int) ∧ c_gv j (g j) = v 8 := rV
  have eV := t_g10 h ni (by omega) rV (by omega)
  have rE : ∃ j : Nat, 10880332376531662572355585 + (1 * v 0 + (0)) = (j : Int) ∧ c_gv j (g j) = v 9 := rE
  have eE := t_g9 h (ni+1) (by omega) rE (by omega)
  have rQ : ∃ j : Nat, 6044629098073145873530880 + ((-1023) * v 1 + (1024 * v 2 + (0))) = (j : Int) ∧ c_gv j (g j) = v 10 := rQ
  have eQ := t_g5 h np (nq-np) (by omega) (by omega) rQ (by omega)
  have c0 : t_pl (t_tx g) ni = np := by omega
  obtain ⟨c1, c2, c3⟩ := t_tokW (X := t_tx g) (i := ni) (by omega) (by rw [c0]; omega)
  rw [c0] at c2 c3
  have c4 : t_end t_let (t_tx g) np = nq := by omega
  rw [c4, if_neg (by omega)] at c3
  have c5 := t_pk8 (X := t_tx g) np (k := nq - np) (by omega)
  exact ⟨(by show 0 ≤ (-1) + (1 * v 7 + (0)); omega), (by show 0 ≤ 1 + ((-1) * v 7 + (0)); omega), (by show 0 ≤ 0 + (1 * v 8 + ((-1) * v 10 + (0))); omega), (by show 0 ≤ 0 + ((-1) * v 8 + (1 * v 10 + (0))); omega), (by show 0 ≤ 0 + ((-1) * v 2 + (1 * v 9 + (0))); omega), (by show 0 ≤ 0 + (1 * v 2 + ((-1) * v 9 + (0))); omega), (by show 0 ≤ 0 + ((-1) * v 6 + (1 * v 9 + (0))); omega), (by show 0 ≤ 0 + (1 * v 6 + ((-1) * v 9 + (0))); omega), (by show 0 ≤ (-1) + (1 * v 8 + (0)); omega), (by show 0 ≤ 1099511627775 + ((-1) * v 8 + (0)); omega), trivial⟩
-- kW2
theorem t_q27 {g : Nat → Int} (h : t_G g) : t_ok g 3 ([(8462480737302404222943232, [(0, 1)]), (1208925819614629174707199, []), (1208925819614629174706176, [(1, 1)]), (3626777458843887524118528, [(1, 1)]), (9671406556917033397649408, [(0, 1)]), (12089258196146291747061760, [(0, 1)]), (10880332376531662572355585, [(0, 1)])], [(0, [(0, 1)]), (700, [(0, (-1))]), (0, [(1, 1)]), (600, [(1, (-1))]), (0, [(1, (-1)), (3, 1)]), (0, [(1, 1), (3, (-1))]), ((-1), [(1, (-1)), (4, 1)]), ((-97), [(5, 1)]), (122, [(5, (-1))]), (0, [(2, (-1)), (6, 1)]), (0, [(2, 1), (6, (-1))]), ((-9), [(1, (-1)), (2, 1)])], [((-1), [(7, 1)]), (1, [(7, (-1))]), (0, [(8, 1)]), (0, [(8, (-1))]), (0, [(2, (-1)), (9, 1)]), (0, [(2, 1), (9, (-1))]), (0, [(6, (-1)), (9, 1)]), (0, [(6, 1), (9, (-1))])]) := by
  refine t_okI fun v hr hp => ?_
  obtain ⟨rP, rN, rT, rL, rK, rV, rE, -⟩ := hr
  obtain ⟨p0, p1, p2, p3, p4, p5, p6, p7, p8, p9, p10, p11, -⟩ := hp
  have p0 : 0 ≤ 0 + (1 * v 0 + (0)) := p0
  have p1 : 0 ≤ 700 + ((-1) * v 0 + (0)) := p1
  have p2 : 0 ≤ 0 + (1 * v 1 + (0)) := p2
  have p3 : 0 ≤ 600 + ((-1) * v 1 + (0)) := p3
  have p4 : 0 ≤ 0 + ((-1) * v 1 + (1 * v 3 + (0))) := p4
  have p5 : 0 ≤ 0 + (1 * v 1 + ((-1) * v 3 + (0))) := p5
  have p6 : 0 ≤ (-1) + ((-1) * v 1 + (1 * v 4 + (0))) := p6
  have p7 : 0 ≤ (-97) + (1 * v 5 + (0)) := p7
  have p8 : 0 ≤ 122 + ((-1) * v 5 + (0)) := p8
  have p9 : 0 ≤ 0 + ((-1) * v 2 + (1 * v 6 + (0))) := p9
  have p10 : 0 ≤ 0 + (1 * v 2 + ((-1) * v 6 + (0))) := p10
  have p11 : 0 ≤ (-9) + ((-1) * v 1 + (1 * v 2 + (0))) := p11
  obtain ⟨ni, hi⟩ : ∃ n : Nat, v 0 = (n : Int) := ⟨(v 0).toNat, by omega⟩
  obtain ⟨np, hp⟩ : ∃ n : Nat, v 1 = (n : Int) := ⟨(v 1).toNat, by omega⟩
  obtain ⟨nq, hq⟩ : ∃ n : Nat, v 2 = (n : Int) := ⟨(v 2).toNat, by omega⟩
  have rP : ∃ j : Nat, 8462480737302404222943232 + (1 * v 0 + (0)) = (j : Int) ∧ c_gv j (g j) = v 3 := rP
  have eP := t_g7 h ni (by omega) rP (by omega)
  have rN : ∃ j : Nat, 1208925819614629174707199 + (0) = (j : Int) ∧ c_gv j (g j) = v 4 := rN
  have eN := t_rdN h rN (by omega)
  have rT : ∃ j : Nat, 1208925819614629174706176 + (1 * v 1 + (0)) = (j : Int) ∧ c_gv j (g j) = v 5 := rT
  have eT := t_rdT h np (by omega) rT (by omega)
  have bT := t_G_ge h np (by omega)
  have rL : ∃ j : Nat, 3626777458843887524118528 + (1 * v 1 + (0)) = (j : Int) ∧ c_gv j (g j) = v 6 := rL
  have eL := t_g3 h np (by omega) rL (by omega)
  have rK : ∃ j : Nat, 9671406556917033397649408 + (1 * v 0 + (0)) = (j : Int) ∧ c_gv j (g j) = v 7 := rK
  have eK := t_g8 h ni (by omega) rK (by omega)
  have rV : ∃ j : Nat, 12089258196146291747061760 + (1 * v 0 + (0)) = (j : Int) ∧ c_gv j (g j) = v 8 := rV
  have eV := t_g10 h ni (by omega) rV (by omega)
  have rE : ∃ j : Nat, 10880332376531662572355585 + (1 * v 0 + (0)) = (j : Int) ∧ c_gv j (g j) = v 9 := rE
  have eE := t_g9 h (ni+1) (by omega) rE (by omega)
  have c0 : t_pl (t_tx g) ni = np := by omega
  obtain ⟨c1, c2, c3⟩ := t_tokW (X := t_tx g) (i := ni) (by omega) (by rw [c0]; omega)
  rw [c0] at c2 c3
  have c4 : t_end t_let (t_tx g) np = nq := by omega
  rw [c4, if_pos (by omega)] at c3
  exact ⟨(by show 0 ≤ (-1) + (1 * v 7 + (0)); omega), (by show 0 ≤ 1 + ((-1) * v 7 + (0)); omega), (by show 0 ≤ 0 + (1 * v 8 + (0)); omega), (by show 0 ≤ 0 + ((-1) * v 8 + (0)); omega), (by show 0 ≤ 0 + ((-1) * v 2 + (1 * v 9 + (0))); omega), (by show 0 ≤ 0 + (1 * v 2 + ((-1) * v 9 + (0))); omega), (by show 0 ≤ 0 + ((-1) * v 6 + (1 * v 9 + (0))); omega), (by show 0 ≤ 0 + (1 * v 6 + ((-1) * v 9 + (0))); omega), trivial⟩
-- kD1
theorem t_q28 {g : Nat → Int} (h : t_G g) : t_ok g 3 ([(8462480737302404222943232, [(0, 1)]), (1208925819614629174707199, []), (1208925819614629174706176, [(1, 1)]), (4835703278458516698824704, [(1, 1)]), (9671406556917033397649408, [(0, 1)]), (12089258196146291747061760, [(0, 1)]), (10880332376531662572355585, [(0, 1)]), (7253554917687775048237056, [(1, (-1023)), (2, 1024)])], [(0, [(0, 1)]), (700, [(0, (-1))]), (0, [(1, 1)]), (600, [(1, (-1))]), (0, [(1, (-1)), (3, 1)]), (0, [(1, 1), (3, (-1))]), ((-1), [(1, (-1)), (4, 1)]), ((-48), [(5, 1)]), (57, [(5, (-1))]), (0, [(2, (-1)), (6, 1)]), (0, [(2, 1), (6, (-1))]), ((-1), [(1, (-1)), (2, 1)]), (4, [(1, 1), (2, (-1))])], [((-2), [(7, 1)]), (2, [(7, (-1))]), (0, [(8, 1), (10, (-1))]), (0, [(8, (-1)), (10, 1)]), (0, [(2, (-1)), (9, 1)]), (0, [(2, 1), (9, (-1))]), (0, [(6, (-1)), (9, 1)]), (0, [(6, 1), (9, (-1))]), (0, [(8, 1)]), (9999, [(8, (-1))])]) := by
  refine t_okI fun v hr hp => ?_
  obtain ⟨rP, rN, rT, rL, rK, rV, rE, rQ, -⟩ := hr
  obtain ⟨p0, p1, p2, p3, p4, p5, p6, p7, p8, p9, p10, p11, p12, -⟩ := hp
  have p0 : 0 ≤ 0 + (1 * v 0 + (0)) := p0
  have p1 : 0 ≤ 700 + ((-1) * v 0 + (0)) := p1
  have p2 : 0 ≤ 0 + (1 * v 1 + (0)) := p2
  have p3 : 0 ≤ 600 + ((-1) * v 1 + (0)) := p3
  have p4 : 0 ≤ 0 + ((-1) * v 1 + (1 * v 3 + (0))) := p4
  have p5 : 0 ≤ 0 + (1 * v 1 + ((-1) * v 3 + (0))) := p5
  have p6 : 0 ≤ (-1) + ((-1) * v 1 + (1 * v 4 + (0))) := p6
  have p7 : 0 ≤ (-48) + (1 * v 5 + (0)) := p7
  have p8 : 0 ≤ 57 + ((-1) * v 5 + (0)) := p8
  have p9 : 0 ≤ 0 + ((-1) * v 2 + (1 * v 6 + (0))) := p9
  have p10 : 0 ≤ 0 + (1 * v 2 + ((-1) * v 6 + (0))) := p10
  have p11 : 0 ≤ (-1) + ((-1) * v 1 + (1 * v 2 + (0))) := p11
  have p12 : 0 ≤ 4 + (1 * v 1 + ((-1) * v 2 + (0))) := p12
  obtain ⟨ni, hi⟩ : ∃ n : Nat, v 0 = (n : Int) := ⟨(v 0).toNat, by omega⟩
  obtain ⟨np, hp⟩ : ∃ n : Nat, v 1 = (n : Int) := ⟨(v 1).toNat, by omega⟩
  obtain ⟨nq, hq⟩ : ∃ n : Nat, v 2 = (n : Int) := ⟨(v 2).toNat, by omega⟩
  have rP : ∃ j : Nat, 8462480737302404222943232 + (1 * v 0 + (0)) = (j : Int) ∧ c_gv j (g j) = v 3 := rP
  have eP := t_g7 h ni (by omega) rP (by omega)
  have rN : ∃ j : Nat, 1208925819614629174707199 + (0) = (j : Int) ∧ c_gv j (g j) = v 4 := rN
  have eN := t_rdN h rN (by omega)
  have rT : ∃ j : Nat, 1208925819614629174706176 + (1 * v 1 + (0)) = (j : Int) ∧ c_gv j (g j) = v 5 := rT
  have eT := t_rdT h np (by omega) rT (by omega)
  have bT := t_G_ge h np (by omega)
  have rL : ∃ j : Nat, 4835703278458516698824704 + (1 * v 1 + (0)) = (j : Int) ∧ c_gv j (g j) = v 6 := rL
  have eL := t_g4 h np (by omega) rL (by omega)
  have rK : ∃ j : Nat, 9671406556917033397649408 + (1 * v 0 + (0)) = (j : Int) ∧ c_gv j (g j) = v 7 := rK
  have eK := t_g8 h ni (by omega) rK (by omega)
  have rV : ∃ j : Nat, 12089258196146291747061760 + (1 * v 0 + (0)) = (j : Int) ∧ c_gv j (g j) = v 8 := rV
  have eV := t_g10 h ni (by omega) rV (by omega)
  have rE : ∃ j : Nat, 10880332376531662572355585 + (1 * v 0 + (0)) = (j : Int) ∧ c_gv j (g j) = v 9 := rE
  have eE := t_g9 h (ni+1) (by omega) rE (by omega)
  have rQ : ∃ j : Nat, 7253554917687775048237056 + ((-1023) * v 1 + (1024 * v 2 + (0))) = (j : Int) ∧ c_gv j (g j) = v 10 := rQ
  have eQ := t_g6 h np (nq-np) (by omega) (by omega) rQ (by omega)
  have c0 : t_pl (t_tx g) ni = np := by omega
  obtain ⟨c1, c2, c3⟩ := t_tokD (X := t_tx g) (i := ni) (by omega) (by rw [c0]; omega)
  rw [c0] at c1 c2 c3
  have c4 : t_end t_dig (t_tx g) np = nq := by omega
  rw [c4, if_neg (by omega)] at c1
  rw [c4, show min 4 (nq - np) = nq - np by omega] at c3
  have c5 := t_nm4 (X := t_tx g) np (k := nq - np) (by omega)
  exact ⟨(by show 0 ≤ (-2) + (1 * v 7 + (0)); omega), (by show 0 ≤ 2 + ((-1) * v 7 + (0)); omega), (by show 0 ≤ 0 + (1 * v 8 + ((-1) * v 10 + (0))); omega), (by show 0 ≤ 0 + ((-1) * v 8 + (1 * v 10 + (0))); omega), (by show 0 ≤ 0 + ((-1) * v 2 + (1 * v 9 + (0))); omega), (by show 0 ≤ 0 + (1 * v 2 + ((-1) * v 9 + (0))); omega), (by show 0 ≤ 0 + ((-1) * v 6 + (1 * v 9 + (0))); omega), (by show 0 ≤ 0 + (1 * v 6 + ((-1) * v 9 + (0))); omega), (by show 0 ≤ 0 + (1 * v 8 + (0)); omega), (by show 0 ≤ 9999 + ((-1) * v 8 + (0)); omega), trivial⟩
-- kD2
theorem t_q29 {g : Nat → Int} (h : t_G g) : t_ok g 3 ([(8462480737302404222943232, [(0, 1)]), (1208925819614629174707199, []), (1208925819614629174706176, [(1, 1)]), (4835703278458516698824704, [(1, 1)]), (9671406556917033397649408, [(0, 1)]), (12089258196146291747061760, [(0, 1)]), (10880332376531662572355585, [(0, 1)]), (7253554917687775048241152, [(1, 1)])], [(0, [(0, 1)]), (700, [(0, (-1))]), (0, [(1, 1)]), (600, [(1, (-1))]), (0, [(1, (-1)), (3, 1)]), (0, [(1, 1), (3, (-1))]), ((-1), [(1, (-1)), (4, 1)]), ((-48), [(5, 1)]), (57, [(5, (-1))]), (0, [(2, (-1)), (6, 1)]), (0, [(2, 1), (6, (-1))]), ((-5), [(1, (-1)), (2, 1)])], [((-4), [(7, 1)]), (4, [(7, (-1))]), (0, [(8, 1), (10, (-1))]), (0, [(8, (-1)), (10, 1)]), (0, [(2, (-1)), (9, 1)]), (0, [(2, 1), (9, (-1))]), (0, [(6, (-1)), (9, 1)]), (0, [(6, 1), (9, (-1))]), (0, [(8, 1)]), (9999, [(8, (-1))])]) := by
  refine t_okI fun v hr hp => ?_
  obtain ⟨rP, rN, rT, rL, rK, rV, rE, rQ, -⟩ := hr
  obtain ⟨p0, p1, p2, p3, p4, p5, p6, p7, p8, p9, p10, p11, -⟩ := hp
  have p0 : 0 ≤ 0 + (1 * v 0 + (0)) := p0
  have p1 : 0 ≤ 700 + ((-1) * v 0 + (0)) := p1
  have p2 : 0 ≤ 0 + (1 * v 1 + (0)) := p2
  have p3 : 0 ≤ 600 + ((-1) * v 1 + (0)) := p3
  have p4 : 0 ≤ 0 + ((-1) * v 1 + (1 * v 3 + (0))) := p4
  have p5 : 0 ≤ 0 + (1 * v 1 + ((-1) * v 3 + (0))) := p5
  have p6 : 0 ≤ (-1) + ((-1) * v 1 + (1 * v 4 + (0))) := p6
  have p7 : 0 ≤ (-48) + (1 * v 5 + (0)) := p7
  have p8 : 0 ≤ 57 + ((-1) * v 5 + (0)) := p8
  have p9 : 0 ≤ 0 + ((-1) * v 2 + (1 * v 6 + (0))) := p9
  have p10 : 0 ≤ 0 + (1 * v 2 + ((-1) * v 6 + (0))) := p10
  have p11 : 0 ≤ (-5) + ((-1) * v 1 + (1 * v 2 + (0))) := p11
  obtain ⟨ni, hi⟩ : ∃ n : Nat, v 0 = (n : Int) := ⟨(v 0).toNat, by omega⟩
  obtain ⟨np, hp⟩ : ∃ n : Nat, v 1 = (n : Int) := ⟨(v 1).toNat, by omega⟩
  obtain ⟨nq, hq⟩ : ∃ n : Nat, v 2 = (n : Int) := ⟨(v 2).toNat, by omega⟩
  have rP : ∃ j : Nat, 8462480737302404222943232 + (1 * v 0 + (0)) = (j : Int) ∧ c_gv j (g j) = v 3 := rP
  have eP := t_g7 h ni (by omega) rP (by omega)
  have rN : ∃ j : Nat, 1208925819614629174707199 + (0) = (j : Int) ∧ c_gv j (g j) = v 4 := rN
  have eN := t_rdN h rN (by omega)
  have rT : ∃ j : Nat, 1208925819614629174706176 + (1 * v 1 + (0)) = (j : Int) ∧ c_gv j (g j) = v 5 := rT
  have eT := t_rdT h np (by omega) rT (by omega)
  have bT := t_G_ge h np (by omega)
  have rL : ∃ j : Nat, 4835703278458516698824704 + (1 * v 1 + (0)) = (j : Int) ∧ c_gv j (g j) = v 6 := rL
  have eL := t_g4 h np (by omega) rL (by omega)
  have rK : ∃ j : Nat, 9671406556917033397649408 + (1 * v 0 + (0)) = (j : Int) ∧ c_gv j (g j) = v 7 := rK
  have eK := t_g8 h ni (by omega) rK (by omega)
  have rV : ∃ j : Nat, 12089258196146291747061760 + (1 * v 0 + (0)) = (j : Int) ∧ c_gv j (g j) = v 8 := rV
  have eV := t_g10 h ni (by omega) rV (by omega)
  have rE : ∃ j : Nat, 10880332376531662572355585 + (1 * v 0 + (0)) = (j : Int) ∧ c_gv j (g j) = v 9 := rE
  have eE := t_g9 h (ni+1) (by omega) rE (by omega)
  have rQ : ∃ j : Nat, 7253554917687775048241152 + (1 * v 1 + (0)) = (j : Int) ∧ c_gv j (g j) = v 10 := rQ
  have eQ := t_g6 h np 4 (by omega) (by omega) rQ (by omega)
  have c0 : t_pl (t_tx g) ni = np := by omega
  obtain ⟨c1, c2, c3⟩ := t_tokD (X := t_tx g) (i := ni) (by omega) (by rw [c0]; omega)
  rw [c0] at c1 c2 c3
  have c4 : t_end t_dig (t_tx g) np = nq := by omega
  rw [c4, if_pos (by omega)] at c1
  rw [c4, show min 4 (nq - np) = 4 by omega] at c3
  have c5 := t_nm4 (X := t_tx g) np (k := 4) (by omega)
  exact ⟨(by show 0 ≤ (-4) + (1 * v 7 + (0)); omega), (by show 0 ≤ 4 + ((-1) * v 7 + (0)); omega), (by show 0 ≤ 0 + (1 * v 8 + ((-1) * v 10 + (0))); omega), (by show 0 ≤ 0 + ((-1) * v 8 + (1 * v 10 + (0))); omega), (by show 0 ≤ 0 + ((-1) * v 2 + (1 * v 9 + (0))); omega), (by show 0 ≤ 0 + (1 * v 2 + ((-1) * v 9 + (0))); omega), (by show 0 ≤ 0 + ((-1) * v 6 + (1 * v 9 + (0))); omega), (by show 0 ≤ 0 + (1 * v 6 + ((-1) * v 9 + (0))); omega), (by show 0 ≤ 0 + (1 * v 8 + (0)); omega), (by show 0 ≤ 9999 + ((-1) * v 8 + (0)); omega), trivial⟩
-- kS1
theorem t_q30 {g : Nat → Int} (h : t_G g) : t_ok g 2 ([(8462480737302404222943232, [(0, 1)]), (1208925819614629174707199, []), (1208925819614629174706176, [(1, 1)]), (9671406556917033397649408, [(0, 1)]), (12089258196146291747061760, [(0, 1)]), (10880332376531662572355585, [(0, 1)])], [(0, [(0, 1)]), (700, [(0, (-1))]), (0, [(1, 1)]), (600, [(1, (-1))]), (0, [(1, (-1)), (2, 1)]), (0, [(1, 1), (2, (-1))]), ((-1), [(1, (-1)), (3, 1)]), ((-40), [(4, 1)]), (43, [(4, (-1))])], [((-3), [(5, 1)]), (3, [(5, (-1))]), (0, [(4, (-1)), (6, 1)]), (0, [(4, 1), (6, (-1))]), ((-1), [(1, (-1)), (7, 1)]), (1, [(1, 1), (7, (-1))])]) := by
  refine t_okI fun v hr hp => ?_
  obtain ⟨rP, rN, rT, rK, rV, rE, -⟩ := hr
  obtain ⟨p0, p1, p2, p3, p4, p5, p6, p7, p8, -⟩ := hp
  have p0 : 0 ≤ 0 + (1 * v 0 + (0)) := p0
  have p1 : 0 ≤ 700 + ((-1) * v 0 + (0)) := p1
  have p2 : 0 ≤ 0 + (1 * v 1 + (0)) := p2
  have p3 : 0 ≤ 600 + ((-1) * v 1 + (0)) := p3
  have p4 : 0 ≤ 0 + ((-1) * v 1 + (1 * v 2 + (0))) := p4
  have p5 : 0 ≤ 0 + (1 * v 1 + ((-1) * v 2 + (0))) := p5
  have p6 : 0 ≤ (-1) + ((-1) * v 1 + (1 * v 3 + (0))) := p6
  have p7 : 0 ≤ (-40) + (1 * v 4 + (0)) := p7
  have p8 : 0 ≤ 43 + ((-1) * v 4 + (0)) := p8
  obtain ⟨ni, hi⟩ : ∃ n : Nat, v 0 = (n : Int) := ⟨(v 0).toNat, by omega⟩
  obtain ⟨np, hp⟩ : ∃ n : Nat, v 1 = (n : Int) := ⟨(v 1).toNat, by omega⟩
  have rP : ∃ j : Nat, 8462480737302404222943232 + (1 * v 0 + (0)) = (j : Int) ∧ c_gv j (g j) = v 2 := rP
  have eP := t_g7 h ni (by omega) rP (by omega)
  have rN : ∃ j : Nat, 1208925819614629174707199 + (0) = (j : Int) ∧ c_gv j (g j) = v 3 := rN
  have eN := t_rdN h rN (by omega)
  have rT : ∃ j : Nat, 1208925819614629174706176 + (1 * v 1 + (0)) = (j : Int) ∧ c_gv j (g j) = v 4 := rT
  have eT := t_rdT h np (by omega) rT (by omega)
  have bT := t_G_ge h np (by omega)
  have rK : ∃ j : Nat, 9671406556917033397649408 + (1 * v 0 + (0)) = (j : Int) ∧ c_gv j (g j) = v 5 := rK
  have eK := t_g8 h ni (by omega) rK (by omega)
  have rV : ∃ j : Nat, 12089258196146291747061760 + (1 * v 0 + (0)) = (j : Int) ∧ c_gv j (g j) = v 6 := rV
  have eV := t_g10 h ni (by omega) rV (by omega)
  have rE : ∃ j : Nat, 10880332376531662572355585 + (1 * v 0 + (0)) = (j : Int) ∧ c_gv j (g j) = v 7 := rE
  have eE := t_g9 h (ni+1) (by omega) rE (by omega)
  have c0 : t_pl (t_tx g) ni = np := by omega
  have c := t_tokS (X := t_tx g) (i := ni) (by omega) (by rw [c0]; omega)
  rw [c0] at c
  exact ⟨(by show 0 ≤ (-3) + (1 * v 5 + (0)); omega), (by show 0 ≤ 3 + ((-1) * v 5 + (0)); omega), (by show 0 ≤ 0 + ((-1) * v 4 + (1 * v 6 + (0))); omega), (by show 0 ≤ 0 + (1 * v 4 + ((-1) * v 6 + (0))); omega), (by show 0 ≤ (-1) + ((-1) * v 1 + (1 * v 7 + (0))); omega), (by show 0 ≤ 1 + (1 * v 1 + ((-1) * v 7 + (0))); omega), trivial⟩
-- kS2
theorem t_q31 {g : Nat → Int} (h : t_G g) : t_ok g 2 ([(8462480737302404222943232, [(0, 1)]), (1208925819614629174707199, []), (1208925819614629174706176, [(1, 1)]), (9671406556917033397649408, [(0, 1)]), (12089258196146291747061760, [(0, 1)]), (10880332376531662572355585, [(0, 1)])], [(0, [(0, 1)]), (700, [(0, (-1))]), (0, [(1, 1)]), (600, [(1, (-1))]), (0, [(1, (-1)), (2, 1)]), (0, [(1, 1), (2, (-1))]), ((-1), [(1, (-1)), (3, 1)]), ((-45), [(4, 1)]), (45, [(4, (-1))])], [((-3), [(5, 1)]), (3, [(5, (-1))]), (0, [(4, (-1)), (6, 1)]), (0, [(4, 1), (6, (-1))]), ((-1), [(1, (-1)), (7, 1)]), (1, [(1, 1), (7, (-1))])]) := by
  refine t_okI fun v hr hp => ?_
  obtain ⟨rP, rN, rT, rK, rV, rE, -⟩ := hr
  obtain ⟨p0, p1, p2, p3, p4, p5, p6, p7, p8, -⟩ := hp
  have p0 : 0 ≤ 0 + (1 * v 0 + (0)) := p0
  have p1 : 0 ≤ 700 + ((-1) * v 0 + (0)) := p1
  have p2 : 0 ≤ 0 + (1 * v 1 + (0)) := p2
  have p3 : 0 ≤ 600 + ((-1) * v 1 + (0)) := p3
  have p4 : 0 ≤ 0 + ((-1) * v 1 + (1 * v 2 + (0))) := p4
  have p5 : 0 ≤ 0 + (1 * v 1 + ((-1) * v 2 + (0))) := p5
  have p6 : 0 ≤ (-1) + ((-1) * v 1 + (1 * v 3 + (0))) := p6
  have p7 : 0 ≤ (-45) + (1 * v 4 + (0)) := p7
  have p8 : 0 ≤ 45 + ((-1) * v 4 + (0)) := p8
  obtain ⟨ni, hi⟩ : ∃ n : Nat, v 0 = (n : Int) := ⟨(v 0).toNat, by omega⟩
  obtain ⟨np, hp⟩ : ∃ n : Nat, v 1 = (n : Int) := ⟨(v 1).toNat, by omega⟩
  have rP : ∃ j : Nat, 8462480737302404222943232 + (1 * v 0 + (0)) = (j : Int) ∧ c_gv j (g j) = v 2 := rP
  have eP := t_g7 h ni (by omega) rP (by omega)
  have rN : ∃ j : Nat, 1208925819614629174707199 + (0) = (j : Int) ∧ c_gv j (g j) = v 3 := rN
  have eN := t_rdN h rN (by omega)
  have rT : ∃ j : Nat, 1208925819614629174706176 + (1 * v 1 + (0)) = (j : Int) ∧ c_gv j (g j) = v 4 := rT
  have eT := t_rdT h np (by omega) rT (by omega)
  have bT := t_G_ge h np (by omega)
  have rK : ∃ j : Nat, 9671406556917033397649408 + (1 * v 0 + (0)) = (j : Int) ∧ c_gv j (g j) = v 5 := rK
  have eK := t_g8 h ni (by omega) rK (by omega)
  have rV : ∃ j : Nat, 12089258196146291747061760 + (1 * v 0 + (0)) = (j : Int) ∧ c_gv j (g j) = v 6 := rV
  have eV := t_g10 h ni (by omega) rV (by omega)
  have rE : ∃ j : Nat, 10880332376531662572355585 + (1 * v 0 + (0)) = (j : Int) ∧ c_gv j (g j) = v 7 := rE
  have eE := t_g9 h (ni+1) (by omega) rE (by omega)
  have c0 : t_pl (t_tx g) ni = np := by omega
  have c := t_tokS (X := t_tx g) (i := ni) (by omega) (by rw [c0]; omega)
  rw [c0] at c
  exact ⟨(by show 0 ≤ (-3) + (1 * v 5 + (0)); omega), (by show 0 ≤ 3 + ((-1) * v 5 + (0)); omega), (by show 0 ≤ 0 + ((-1) * v 4 + (1 * v 6 + (0))); omega), (by show 0 ≤ 0 + (1 * v 4 + ((-1) * v 6 + (0))); omega), (by show 0 ≤ (-1) + ((-1) * v 1 + (1 * v 7 + (0))); omega), (by show 0 ≤ 1 + (1 * v 1 + ((-1) * v 7 + (0))); omega), trivial⟩
-- kS3
theorem t_q32 {g : Nat → Int} (h : t_G g) : t_ok g 2 ([(8462480737302404222943232, [(0, 1)]), (1208925819614629174707199, []), (1208925819614629174706176, [(1, 1)]), (9671406556917033397649408, [(0, 1)]), (12089258196146291747061760, [(0, 1)]), (10880332376531662572355585, [(0, 1)])], [(0, [(0, 1)]), (700, [(0, (-1))]), (0, [(1, 1)]), (600, [(1, (-1))]), (0, [(1, (-1)), (2, 1)]), (0, [(1, 1), (2, (-1))]), ((-1), [(1, (-1)), (3, 1)]), ((-47), [(4, 1)]), (47, [(4, (-1))])], [((-3), [(5, 1)]), (3, [(5, (-1))]), (0, [(4, (-1)), (6, 1)]), (0, [(4, 1), (6, (-1))]), ((-1), [(1, (-1)), (7, 1)]), (1, [(1, 1), (7, (-1))])]) := by
  refine t_okI fun v hr hp => ?_
  obtain ⟨rP, rN, rT, rK, rV, rE, -⟩ := hr
  obtain ⟨p0, p1, p2, p3, p4, p5, p6, p7, p8, -⟩ := hp
  have p0 : 0 ≤ 0 + (1 * v 0 + (0)) := p0
  have p1 : 0 ≤ 700 + ((-1) * v 0 + (0)) := p1
  have p2 : 0 ≤ 0 + (1 * v 1 + (0)) := p2
  have p3 : 0 ≤ 600 + ((-1) * v 1 + (0)) := p3
  have p4 : 0 ≤ 0 + ((-1) * v 1 + (1 * v 2 + (0))) := p4
  have p5 : 0 ≤ 0 + (1 * v 1 + ((-1) * v 2 + (0))) := p5
  have p6 : 0 ≤ (-1) + ((-1) * v 1 + (1 * v 3 + (0))) := p6
  have p7 : 0 ≤ (-47) + (1 * v 4 + (0)) := p7
  have p8 : 0 ≤ 47 + ((-1) * v 4 + (0)) := p8
  obtain ⟨ni, hi⟩ : ∃ n : Nat, v 0 = (n : Int) := ⟨(v 0).toNat, by omega⟩
  obtain ⟨np, hp⟩ : ∃ n : Nat, v 1 = (n : Int) := ⟨(v 1).toNat, by omega⟩
  have rP : ∃ j : Nat, 8462480737302404222943232 + (1 * v 0 + (0)) = (j : Int) ∧ c_gv j (g j) = v 2 := rP
  have eP := t_g7 h ni (by omega) rP (by omega)
  have rN : ∃ j : Nat, 1208925819614629174707199 + (0) = (j : Int) ∧ c_gv j (g j) = v 3 := rN
  have eN := t_rdN h rN (by omega)
  have rT : ∃ j : Nat, 1208925819614629174706176 + (1 * v 1 + (0)) = (j : Int) ∧ c_gv j (g j) = v 4 := rT
  have eT := t_rdT h np (by omega) rT (by omega)
  have bT := t_G_ge h np (by omega)
  have rK : ∃ j : Nat, 9671406556917033397649408 + (1 * v 0 + (0)) = (j : Int) ∧ c_gv j (g j) = v 5 := rK
  have eK := t_g8 h ni (by omega) rK (by omega)
  have rV : ∃ j : Nat, 12089258196146291747061760 + (1 * v 0 + (0)) = (j : Int) ∧ c_gv j (g j) = v 6 := rV
  have eV := t_g10 h ni (by omega) rV (by omega)
  have rE : ∃ j : Nat, 10880332376531662572355585 + (1 * v 0 + (0)) = (j : Int) ∧ c_gv j (g j) = v 7 := rE
  have eE := t_g9 h (ni+1) (by omega) rE (by omega)
  have c0 : t_pl (t_tx g) ni = np := by omega
  have c := t_tokS (X := t_tx g) (i := ni) (by omega) (by rw [c0]; omega)
  rw [c0] at c
  exact ⟨(by show 0 ≤ (-3) + (1 * v 5 + (0)); omega), (by show 0 ≤ 3 + ((-1) * v 5 + (0)); omega), (by show 0 ≤ 0 + ((-1) * v 4 + (1 * v 6 + (0))); omega), (by show 0 ≤ 0 + (1 * v 4 + ((-1) * v 6 + (0))); omega), (by show 0 ≤ (-1) + ((-1) * v 1 + (1 * v 7 + (0))); omega), (by show 0 ≤ 1 + (1 * v 1 + ((-1) * v 7 + (0))); omega), trivial⟩
-- kS4
theorem t_q33 {g : Nat → Int} (h : t_G g) : t_ok g 2 ([(8462480737302404222943232, [(0, 1)]), (1208925819614629174707199, []), (1208925819614629174706176, [(1, 1)]), (9671406556917033397649408, [(0, 1)]), (12089258196146291747061760, [(0, 1)]), (10880332376531662572355585, [(0, 1)])], [(0, [(0, 1)]), (700, [(0, (-1))]), (0, [(1, 1)]), (600, [(1, (-1))]), (0, [(1, (-1)), (2, 1)]), (0, [(1, 1), (2, (-1))]), ((-1), [(1, (-1)), (3, 1)]), ((-59), [(4, 1)]), (59, [(4, (-1))])], [((-3), [(5, 1)]), (3, [(5, (-1))]), (0, [(4, (-1)), (6, 1)]), (0, [(4, 1), (6, (-1))]), ((-1), [(1, (-1)), (7, 1)]), (1, [(1, 1), (7, (-1))])]) := by
  refine t_okI fun v hr hp => ?_
  obtain ⟨rP, rN, rT, rK, rV, rE, -⟩ := hr
  obtain ⟨p0, p1, p2, p3, p4, p5, p6, p7, p8, -⟩ := hp
  have p0 : 0 ≤ 0 + (1 * v 0 + (0)) := p0
  have p1 : 0 ≤ 700 + ((-1) * v 0 + (0)) := p1
  have p2 : 0 ≤ 0 + (1 * v 1 + (0)) := p2
  have p3 : 0 ≤ 600 + ((-1) * v 1 + (0)) := p3
  have p4 : 0 ≤ 0 + ((-1) * v 1 + (1 * v 2 + (0))) := p4
  have p5 : 0 ≤ 0 + (1 * v 1 + ((-1) * v 2 + (0))) := p5
  have p6 : 0 ≤ (-1) + ((-1) * v 1 + (1 * v 3 + (0))) := p6
  have p7 : 0 ≤ (-59) + (1 * v 4 + (0)) := p7
  have p8 : 0 ≤ 59 + ((-1) * v 4 + (0)) := p8
  obtain ⟨ni, hi⟩ : ∃ n : Nat, v 0 = (n : Int) := ⟨(v 0).toNat, by omega⟩
  obtain ⟨np, hp⟩ : ∃ n : Nat, v 1 = (n : Int) := ⟨(v 1).toNat, by omega⟩
  have rP : ∃ j : Nat, 8462480737302404222943232 + (1 * v 0 + (0)) = (j : Int) ∧ c_gv j (g j) = v 2 := rP
  have eP := t_g7 h ni (by omega) rP (by omega)
  have rN : ∃ j : Nat, 1208925819614629174707199 + (0) = (j : Int) ∧ c_gv j (g j) = v 3 := rN
  have eN := t_rdN h rN (by omega)
  have rT : ∃ j : Nat, 1208925819614629174706176 + (1 * v 1 + (0)) = (j : Int) ∧ c_gv j (g j) = v 4 := rT
  have eT := t_rdT h np (by omega) rT (by omega)
  have bT := t_G_ge h np (by omega)
  have rK : ∃ j : Nat, 9671406556917033397649408 + (1 * v 0 + (0)) = (j : Int) ∧ c_gv j (g j) = v 5 := rK
  have eK := t_g8 h ni (by omega) rK (by omega)
  have rV : ∃ j : Nat, 12089258196146291747061760 + (1 * v 0 + (0)) = (j : Int) ∧ c_gv j (g j) = v 6 := rV
  have eV := t_g10 h ni (by omega) rV (by omega)
  have rE : ∃ j : Nat, 10880332376531662572355585 + (1 * v 0 + (0)) = (j : Int) ∧ c_gv j (g j) = v 7 := rE
  have eE := t_g9 h (ni+1) (by omega) rE (by omega)
  have c0 : t_pl (t_tx g) ni = np := by omega
  have c := t_tokS (X := t_tx g) (i := ni) (by omega) (by rw [c0]; omega)
  rw [c0] at c
  exact ⟨(by show 0 ≤ (-3) + (1 * v 5 + (0)); omega), (by show 0 ≤ 3 + ((-1) * v 5 + (0)); omega), (by show 0 ≤ 0 + ((-1) * v 4 + (1 * v 6 + (0))); omega), (by show 0 ≤ 0 + (1 * v 4 + ((-1) * v 6 + (0))); omega), (by show 0 ≤ (-1) + ((-1) * v 1 + (1 * v 7 + (0))); omega), (by show 0 ≤ 1 + (1 * v 1 + ((-1) * v 7 + (0))); omega), trivial⟩
-- kB1
theorem t_q34 {g : Nat → Int} (h : t_G g) : t_ok g 2 ([(8462480737302404222943232, [(0, 1)]), (1208925819614629174707199, []), (1208925819614629174706176, [(1, 1)]), (9671406556917033397649408, [(0, 1)]), (12089258196146291747061760, [(0, 1)]), (10880332376531662572355585, [(0, 1)])], [(0, [(0, 1)]), (700, [(0, (-1))]), (0, [(1, 1)]), (600, [(1, (-1))]), (0, [(1, (-1)), (2, 1)]), (0, [(1, 1), (2, (-1))]), ((-1), [(1, (-1)), (3, 1)]), (39, [(4, (-1))])], [((-4), [(5, 1)]), (4, [(5, (-1))]), (0, [(6, 1)]), (0, [(6, (-1))]), (0, [(3, (-1)), (7, 1)]), (0, [(3, 1), (7, (-1))])]) := by
  refine t_okI fun v hr hp => ?_
  obtain ⟨rP, rN, rT, rK, rV, rE, -⟩ := hr
  obtain ⟨p0, p1, p2, p3, p4, p5, p6, p7, -⟩ := hp
  have p0 : 0 ≤ 0 + (1 * v 0 + (0)) := p0
  have p1 : 0 ≤ 700 + ((-1) * v 0 + (0)) := p1
  have p2 : 0 ≤ 0 + (1 * v 1 + (0)) := p2
  have p3 : 0 ≤ 600 + ((-1) * v 1 + (0)) := p3
  have p4 : 0 ≤ 0 + ((-1) * v 1 + (1 * v 2 + (0))) := p4
  have p5 : 0 ≤ 0 + (1 * v 1 + ((-1) * v 2 + (0))) := p5
  have p6 : 0 ≤ (-1) + ((-1) * v 1 + (1 * v 3 + (0))) := p6
  have p7 : 0 ≤ 39 + ((-1) * v 4 + (0)) := p7
  obtain ⟨ni, hi⟩ : ∃ n : Nat, v 0 = (n : Int) := ⟨(v 0).toNat, by omega⟩
  obtain ⟨np, hp⟩ : ∃ n : Nat, v 1 = (n : Int) := ⟨(v 1).toNat, by omega⟩
  have rP : ∃ j : Nat, 8462480737302404222943232 + (1 * v 0 + (0)) = (j : Int) ∧ c_gv j (g j) = v 2 := rP
  have eP := t_g7 h ni (by omega) rP (by omega)
  have rN : ∃ j : Nat, 1208925819614629174707199 + (0) = (j : Int) ∧ c_gv j (g j) = v 3 := rN
  have eN := t_rdN h rN (by omega)
  have rT : ∃ j : Nat, 1208925819614629174706176 + (1 * v 1 + (0)) = (j : Int) ∧ c_gv j (g j) = v 4 := rT
  have eT := t_rdT h np (by omega) rT (by omega)
  have bT := t_G_ge h np (by omega)
  have rK : ∃ j : Nat, 9671406556917033397649408 + (1 * v 0 + (0)) = (j : Int) ∧ c_gv j (g j) = v 5 := rK
  have eK := t_g8 h ni (by omega) rK (by omega)
  have rV : ∃ j : Nat, 12089258196146291747061760 + (1 * v 0 + (0)) = (j : Int) ∧ c_gv j (g j) = v 6 := rV
  have eV := t_g10 h ni (by omega) rV (by omega)
  have rE : ∃ j : Nat, 10880332376531662572355585 + (1 * v 0 + (0)) = (j : Int) ∧ c_gv j (g j) = v 7 := rE
  have eE := t_g9 h (ni+1) (by omega) rE (by omega)
  have c0 : t_pl (t_tx g) ni = np := by omega
  have c := t_tokB (X := t_tx g) (i := ni) (by omega) (by rw [c0]; omega) (by rw [c0]; omega) (by rw [c0]; omega)
  exact ⟨(by show 0 ≤ (-4) + (1 * v 5 + (0)); omega), (by show 0 ≤ 4 + ((-1) * v 5 + (0)); omega), (by show 0 ≤ 0 + (1 * v 6 + (0)); omega), (by show 0 ≤ 0 + ((-1) * v 6 + (0)); omega), (by show 0 ≤ 0 + ((-1) * v 3 + (1 * v 7 + (0))); omega), (by show 0 ≤ 0 + (1 * v 3 + ((-1) * v 7 + (0))); omega), trivial⟩
-- kB2
theorem t_q35 {g : Nat → Int} (h : t_G g) : t_ok g 2 ([(8462480737302404222943232, [(0, 1)]), (1208925819614629174707199, []), (1208925819614629174706176, [(1, 1)]), (9671406556917033397649408, [(0, 1)]), (12089258196146291747061760, [(0, 1)]), (10880332376531662572355585, [(0, 1)])], [(0, [(0, 1)]), (700, [(0, (-1))]), (0, [(1, 1)]), (600, [(1, (-1))]), (0, [(1, (-1)), (2, 1)]), (0, [(1, 1), (2, (-1))]), ((-1), [(1, (-1)), (3, 1)]), ((-44), [(4, 1)]), (44, [(4, (-1))])], [((-4), [(5, 1)]), (4, [(5, (-1))]), (0, [(6, 1)]), (0, [(6, (-1))]), (0, [(3, (-1)), (7, 1)]), (0, [(3, 1), (7, (-1))])]) := by
  refine t_okI fun v hr hp => ?_
  obtain ⟨rP, rN, rT, rK, rV, rE, -⟩ := hr
  obtain ⟨p0, p1, p2, p3, p4, p5, p6, p7, p8, -⟩ := hp
  have p0 : 0 ≤ 0 + (1 * v 0 + (0)) := p0
  have p1 : 0 ≤ 700 + ((-1) * v 0 + (0)) := p1
  have p2 : 0 ≤ 0 + (1 * v 1 + (0)) := p2
  have p3 : 0 ≤ 600 + ((-1) * v 1 + (0)) := p3
  have p4 : 0 ≤ 0 + ((-1) * v 1 + (1 * v 2 + (0))) := p4
  have p5 : 0 ≤ 0 + (1 * v 1 + ((-1) * v 2 + (0))) := p5
  have p6 : 0 ≤ (-1) + ((-1) * v 1 + (1 * v 3 + (0))) := p6
  have p7 : 0 ≤ (-44) + (1 * v 4 + (0)) := p7
  have p8 : 0 ≤ 44 + ((-1) * v 4 + (0)) := p8
  obtain ⟨ni, hi⟩ : ∃ n : Nat, v 0 = (n : Int) := ⟨(v 0).toNat, by omega⟩
  obtain ⟨np, hp⟩ : ∃ n : Nat, v 1 = (n : Int) := ⟨(v 1).toNat, by omega⟩
  have rP : ∃ j : Nat, 8462480737302404222943232 + (1 * v 0 + (0)) = (j : Int) ∧ c_gv j (g j) = v 2 := rP
  have eP := t_g7 h ni (by omega) rP (by omega)
  have rN : ∃ j : Nat, 1208925819614629174707199 + (0) = (j : Int) ∧ c_gv j (g j) = v 3 := rN
  have eN := t_rdN h rN (by omega)
  have rT : ∃ j : Nat, 1208925819614629174706176 + (1 * v 1 + (0)) = (j : Int) ∧ c_gv j (g j) = v 4 := rT
  have eT := t_rdT h np (by omega) rT (by omega)
  have bT := t_G_ge h np (by omega)
  have rK : ∃ j : Nat, 9671406556917033397649408 + (1 * v 0 + (0)) = (j : Int) ∧ c_gv j (g j) = v 5 := rK
  have eK := t_g8 h ni (by omega) rK (by omega)
  have rV : ∃ j : Nat, 12089258196146291747061760 + (1 * v 0 + (0)) = (j : Int) ∧ c_gv j (g j) = v 6 := rV
  have eV := t_g10 h ni (by omega) rV (by omega)
  have rE : ∃ j : Nat, 10880332376531662572355585 + (1 * v 0 + (0)) = (j : Int) ∧ c_gv j (g j) = v 7 := rE
  have eE := t_g9 h (ni+1) (by omega) rE (by omega)
  have c0 : t_pl (t_tx g) ni = np := by omega
  have c := t_tokB (X := t_tx g) (i := ni) (by omega) (by rw [c0]; omega) (by rw [c0]; omega) (by rw [c0]; omega)
  exact ⟨(by show 0 ≤ (-4) + (1 * v 5 + (0)); omega), (by show 0 ≤ 4 + ((-1) * v 5 + (0)); omega), (by show 0 ≤ 0 + (1 * v 6 + (0)); omega), (by show 0 ≤ 0 + ((-1) * v 6 + (0)); omega), (by show 0 ≤ 0 + ((-1) * v 3 + (1 * v 7 + (0))); omega), (by show 0 ≤ 0 + (1 * v 3 + ((-1) * v 7 + (0))); omega), trivial⟩
-- kB3
theorem t_q36 {g : Nat → Int} (h : t_G g) : t_ok g 2 ([(8462480737302404222943232, [(0, 1)]), (1208925819614629174707199, []), (1208925819614629174706176, [(1, 1)]), (9671406556917033397649408, [(0, 1)]), (12089258196146291747061760, [(0, 1)]), (10880332376531662572355585, [(0, 1)])], [(0, [(0, 1)]), (700, [(0, (-1))]), (0, [(1, 1)]), (600, [(1, (-1))]), (0, [(1, (-1)), (2, 1)]), (0, [(1, 1), (2, (-1))]), ((-1), [(1, (-1)), (3, 1)]), ((-46), [(4, 1)]), (46, [(4, (-1))])], [((-4), [(5, 1)]), (4, [(5, (-1))]), (0, [(6, 1)]), (0, [(6, (-1))]), (0, [(3, (-1)), (7, 1)]), (0, [(3, 1), (7, (-1))])]) := by
  refine t_okI fun v hr hp => ?_
  obtain ⟨rP, rN, rT, rK, rV, rE, -⟩ := hr
  obtain ⟨p0, p1, p2, p3, p4, p5, p6, p7, p8, -⟩ := hp
  have p0 : 0 ≤ 0 + (1 * v 0 + (0)) := p0
  have p1 : 0 ≤ 700 + ((-1) * v 0 + (0)) := p1
  have p2 : 0 ≤ 0 + (1 * v 1 + (0)) := p2
  have p3 : 0 ≤ 600 + ((-1) * v 1 + (0)) := p3
  have p4 : 0 ≤ 0 + ((-1) * v 1 + (1 * v 2 + (0))) := p4
  have p5 : 0 ≤ 0 + (1 * v 1 + ((-1) * v 2 + (0))) := p5
  have p6 : 0 ≤ (-1) + ((-1) * v 1 + (1 * v 3 + (0))) := p6
  have p7 : 0 ≤ (-46) + (1 * v 4 + (0)) := p7
  have p8 : 0 ≤ 46 + ((-1) * v 4 + (0)) := p8
  obtain ⟨ni, hi⟩ : ∃ n : Nat, v 0 = (n : Int) := ⟨(v 0).toNat, by omega⟩
  obtain ⟨np, hp⟩ : ∃ n : Nat, v 1 = (n : Int) := ⟨(v 1).toNat, by omega⟩
  have rP : ∃ j : Nat, 8462480737302404222943232 + (1 * v 0 + (0)) = (j : Int) ∧ c_gv j (g j) = v 2 := rP
  have eP := t_g7 h ni (by omega) rP (by omega)
  have rN : ∃ j : Nat, 1208925819614629174707199 + (0) = (j : Int) ∧ c_gv j (g j) = v 3 := rN
  have eN := t_rdN h rN (by omega)
  have rT : ∃ j : Nat, 1208925819614629174706176 + (1 * v 1 + (0)) = (j : Int) ∧ c_gv j (g j) = v 4 := rT
  have eT := t_rdT h np (by omega) rT (by omega)
  have bT := t_G_ge h np (by omega)
  have rK : ∃ j : Nat, 9671406556917033397649408 + (1 * v 0 + (0)) = (j : Int) ∧ c_gv j (g j) = v 5 := rK
  have eK := t_g8 h ni (by omega) rK (by omega)
  have rV : ∃ j : Nat, 12089258196146291747061760 + (1 * v 0 + (0)) = (j : Int) ∧ c_gv j (g j) = v 6 := rV
  have eV := t_g10 h ni (by omega) rV (by omega)
  have rE : ∃ j : Nat, 10880332376531662572355585 + (1 * v 0 + (0)) = (j : Int) ∧ c_gv j (g j) = v 7 := rE
  have eE := t_g9 h (ni+1) (by omega) rE (by omega)
  have c0 : t_pl (t_tx g) ni = np := by omega
  have c := t_tokB (X := t_tx g) (i := ni) (by omega) (by rw [c0]; omega) (by rw [c0]; omega) (by rw [c0]; omega)
  exact ⟨(by show 0 ≤ (-4) + (1 * v 5 + (0)); omega), (by show 0 ≤ 4 + ((-1) * v 5 + (0)); omega), (by show 0 ≤ 0 + (1 * v 6 + (0)); omega), (by show 0 ≤ 0 + ((-1) * v 6 + (0)); omega), (by show 0 ≤ 0 + ((-1) * v 3 + (1 * v 7 + (0))); omega), (by show 0 ≤ 0 + (1 * v 3 + ((-1) * v 7 + (0))); omega), trivial⟩
-- kB4
theorem t_q37 {g : Nat → Int} (h : t_G g) : t_ok g 2 ([(8462480737302404222943232, [(0, 1)]), (1208925819614629174707199, []), (1208925819614629174706176, [(1, 1)]), (9671406556917033397649408, [(0, 1)]), (12089258196146291747061760, [(0, 1)]), (10880332376531662572355585, [(0, 1)])], [(0, [(0, 1)]), (700, [(0, (-1))]), (0, [(1, 1)]), (600, [(1, (-1))]), (0, [(1, (-1)), (2, 1)]), (0, [(1, 1), (2, (-1))]), ((-1), [(1, (-1)), (3, 1)]), ((-58), [(4, 1)]), (58, [(4, (-1))])], [((-4), [(5, 1)]), (4, [(5, (-1))]), (0, [(6, 1)]), (0, [(6, (-1))]), (0, [(3, (-1)), (7, 1)]), (0, [(3, 1), (7, (-1))])]) := by
  refine t_okI fun v hr hp => ?_
  obtain ⟨rP, rN, rT, rK, rV, rE, -⟩ := hr
  obtain ⟨p0, p1, p2, p3, p4, p5, p6, p7, p8, -⟩ := hp
  have p0 : 0 ≤ 0 + (1 * v 0 + (0)) := p0
  have p1 : 0 ≤ 700 + ((-1) * v 0 + (0)) := p1
  have p2 : 0 ≤ 0 + (1 * v 1 + (0)) := p2
  have p3 : 0 ≤ 600 + ((-1) * v 1 + (0)) := p3
  have p4 : 0 ≤ 0 + ((-1) * v 1 + (1 * v 2 + (0))) := p4
  have p5 : 0 ≤ 0 + (1 * v 1 + ((-1) * v 2 + (0))) := p5
  have p6 : 0 ≤ (-1) + ((-1) * v 1 + (1 * v 3 + (0))) := p6
  have p7 : 0 ≤ (-58) + (1 * v 4 + (0)) := p7
  have p8 : 0 ≤ 58 + ((-1) * v 4 + (0)) := p8
  obtain ⟨ni, hi⟩ : ∃ n : Nat, v 0 = (n : Int) := ⟨(v 0).toNat, by omega⟩
  obtain ⟨np, hp⟩ : ∃ n : Nat, v 1 = (n : Int) := ⟨(v 1).toNat, by omega⟩
  have rP : ∃ j : Nat, 8462480737302404222943232 + (1 * v 0 + (0)) = (j : Int) ∧ c_gv j (g j) = v 2 := rP
  have eP := t_g7 h ni (by omega) rP (by omega)
  have rN : ∃ j : Nat, 1208925819614629174707199 + (0) = (j : Int) ∧ c_gv j (g j) = v 3 := rN
  have eN := t_rdN h rN (by omega)
  have rT : ∃ j : Nat, 1208925819614629174706176 + (1 * v 1 + (0)) = (j : Int) ∧ c_gv j (g j) = v 4 := rT
  have eT := t_rdT h np (by omega) rT (by omega)
  have bT := t_G_ge h np (by omega)
  have rK : ∃ j : Nat, 9671406556917033397649408 + (1 * v 0 + (0)) = (j : Int) ∧ c_gv j (g j) = v 5 := rK
  have eK := t_g8 h ni (by omega) rK (by omega)
  have rV : ∃ j : Nat, 12089258196146291747061760 + (1 * v 0 + (0)) = (j : Int) ∧ c_gv j (g j) = v 6 := rV
  have eV := t_g10 h ni (by omega) rV (by omega)
  have rE : ∃ j : Nat, 10880332376531662572355585 + (1 * v 0 + (0)) = (j : Int) ∧ c_gv j (g j) = v 7 := rE
  have eE := t_g9 h (ni+1) (by omega) rE (by omega)
  have c0 : t_pl (t_tx g) ni = np := by omega
  have c := t_tokB (X := t_tx g) (i := ni) (by omega) (by rw [c0]; omega) (by rw [c0]; omega) (by rw [c0]; omega)
  exact ⟨(by show 0 ≤ (-4) + (1 * v 5 + (0)); omega), (by show 0 ≤ 4 + ((-1) * v 5 + (0)); omega), (by show 0 ≤ 0 + (1 * v 6 + (0)); omega), (by show 0 ≤ 0 + ((-1) * v 6 + (0)); omega), (by show 0 ≤ 0 + ((-1) * v 3 + (1 * v 7 + (0))); omega), (by show 0 ≤ 0 + (1 * v 3 + ((-1) * v 7 + (0))); omega), trivial⟩
-- kB5
theorem t_q38 {g : Nat → Int} (h : t_G g) : t_ok g 2 ([(8462480737302404222943232, [(0, 1)]), (1208925819614629174707199, []), (1208925819614629174706176, [(1, 1)]), (9671406556917033397649408, [(0, 1)]), (12089258196146291747061760, [(0, 1)]), (10880332376531662572355585, [(0, 1)])], [(0, [(0, 1)]), (700, [(0, (-1))]), (0, [(1, 1)]), (600, [(1, (-1))]), (0, [(1, (-1)), (2, 1)]), (0, [(1, 1), (2, (-1))]), ((-1), [(1, (-1)), (3, 1)]), ((-60), [(4, 1)]), (96, [(4, (-1))])], [((-4), [(5, 1)]), (4, [(5, (-1))]), (0, [(6, 1)]), (0, [(6, (-1))]), (0, [(3, (-1)), (7, 1)]), (0, [(3, 1), (7, (-1))])]) := by
  refine t_okI fun v hr hp => ?_
  obtain ⟨rP, rN, rT, rK, rV, rE, -⟩ := hr
  obtain ⟨p0, p1, p2, p3, p4, p5, p6, p7, p8, -⟩ := hp
  have p0 : 0 ≤ 0 + (1 * v 0 + (0)) := p0
  have p1 : 0 ≤ 700 + ((-1) * v 0 + (0)) := p1
  have p2 : 0 ≤ 0 + (1 * v 1 + (0)) := p2
  have p3 : 0 ≤ 600 + ((-1) * v 1 + (0)) := p3
  have p4 : 0 ≤ 0 + ((-1) * v 1 + (1 * v 2 + (0))) := p4
  have p5 : 0 ≤ 0 + (1 * v 1 + ((-1) * v 2 + (0))) := p5
  have p6 : 0 ≤ (-1) + ((-1) * v 1 + (1 * v 3 + (0))) := p6
  have p7 : 0 ≤ (-60) + (1 * v 4 + (0)) := p7
  have p8 : 0 ≤ 96 + ((-1) * v 4 + (0)) := p8
  obtain ⟨ni, hi⟩ : ∃ n : Nat, v 0 = (n : Int) := ⟨(v 0).toNat, by omega⟩
  obtain ⟨np, hp⟩ : ∃ n : Nat, v 1 = (n : Int) := ⟨(v 1).toNat, by omega⟩
  have rP : ∃ j : Nat, 8462480737302404222943232 + (1 * v 0 + (0)) = (j : Int) ∧ c_gv j (g j) = v 2 := rP
  have eP := t_g7 h ni (by omega) rP (by omega)
  have rN : ∃ j : Nat, 1208925819614629174707199 + (0) = (j : Int) ∧ c_gv j (g j) = v 3 := rN
  have eN := t_rdN h rN (by omega)
  have rT : ∃ j : Nat, 1208925819614629174706176 + (1 * v 1 + (0)) = (j : Int) ∧ c_gv j (g j) = v 4 := rT
  have eT := t_rdT h np (by omega) rT (by omega)
  have bT := t_G_ge h np (by omega)
  have rK : ∃ j : Nat, 9671406556917033397649408 + (1 * v 0 + (0)) = (j : Int) ∧ c_gv j (g j) = v 5 := rK
  have eK := t_g8 h ni (by omega) rK (by omega)
  have rV : ∃ j : Nat, 12089258196146291747061760 + (1 * v 0 + (0)) = (j : Int) ∧ c_gv j (g j) = v 6 := rV
  have eV := t_g10 h ni (by omega) rV (by omega)
  have rE : ∃ j : Nat, 10880332376531662572355585 + (1 * v 0 + (0)) = (j : Int) ∧ c_gv j (g j) = v 7 := rE
  have eE := t_g9 h (ni+1) (by omega) rE (by omega)
  have c0 : t_pl (t_tx g) ni = np := by omega
  have c := t_tokB (X := t_tx g) (i := ni) (by omega) (by rw [c0]; omega) (by rw [c0]; omega) (by rw [c0]; omega)
  exact ⟨(by show 0 ≤ (-4) + (1 * v 5 + (0)); omega), (by show 0 ≤ 4 + ((-1) * v 5 + (0)); omega), (by show 0 ≤ 0 + (1 * v 6 + (0)); omega), (by show 0 ≤ 0 + ((-1) * v 6 + (0)); omega), (by show 0 ≤ 0 + ((-1) * v 3 + (1 * v 7 + (0))); omega), (by show 0 ≤ 0 + (1 * v 3 + ((-1) * v 7 + (0))); omega), trivial⟩
-- kB6
theorem t_q39 {g : Nat → Int} (h : t_G g) : t_ok g 2 ([(8462480737302404222943232, [(0, 1)]), (1208925819614629174707199, []), (1208925819614629174706176, [(1, 1)]), (9671406556917033397649408, [(0, 1)]), (12089258196146291747061760, [(0, 1)]), (10880332376531662572355585, [(0, 1)])], [(0, [(0, 1)]), (700, [(0, (-1))]), (0, [(1, 1)]), (600, [(1, (-1))]), (0, [(1, (-1)), (2, 1)]), (0, [(1, 1), (2, (-1))]), ((-1), [(1, (-1)), (3, 1)]), ((-123), [(4, 1)])], [((-4), [(5, 1)]), (4, [(5, (-1))]), (0, [(6, 1)]), (0, [(6, (-1))]), (0, [(3, (-1)), (7, 1)]), (0, [(3, 1), (7, (-1))])]) := by
  refine t_okI fun v hr hp => ?_
  obtain ⟨rP, rN, rT, rK, rV, rE, -⟩ := hr
  obtain ⟨p0, p1, p2, p3, p4, p5, p6, p7, -⟩ := hp
  have p0 : 0 ≤ 0 + (1 * v 0 + (0)) := p0
  have p1 : 0 ≤ 700 + ((-1) * v 0 + (0)) := p1
  have p2 : 0 ≤ 0 + (1 * v 1 + (0)) := p2
  have p3 : 0 ≤ 600 + ((-1) * v 1 + (0)) := p3
  have p4 : 0 ≤ 0 + ((-1) * v 1 + (1 * v 2 + (0))) := p4
  have p5 : 0 ≤ 0 + (1 * v 1 + ((-1) * v 2 + (0))) := p5
  have p6 : 0 ≤ (-1) + ((-1) * v 1 + (1 * v 3 + (0))) := p6
  have p7 : 0 ≤ (-123) + (1 * v 4 + (0)) := p7
  obtain ⟨ni, hi⟩ : ∃ n : Nat, v 0 = (n : Int) := ⟨(v 0).toNat, by omega⟩
  obtain ⟨np, hp⟩ : ∃ n : Nat, v 1 = (n : Int) := ⟨(v 1).toNat, by omega⟩
  have rP : ∃ j : Nat, 8462480737302404222943232 + (1 * v 0 + (0)) = (j : Int) ∧ c_gv j (g j) = v 2 := rP
  have eP := t_g7 h ni (by omega) rP (by omega)
  have rN : ∃ j : Nat, 1208925819614629174707199 + (0) = (j : Int) ∧ c_gv j (g j) = v 3 := rN
  have eN := t_rdN h rN (by omega)
  have rT : ∃ j : Nat, 1208925819614629174706176 + (1 * v 1 + (0)) = (j : Int) ∧ c_gv j (g j) = v 4 := rT
  have eT := t_rdT h np (by omega) rT (by omega)
  have bT := t_G_ge h np (by omega)
  have rK : ∃ j : Nat, 9671406556917033397649408 + (1 * v 0 + (0)) = (j : Int) ∧ c_gv j (g j) = v 5 := rK
  have eK := t_g8 h ni (by omega) rK (by omega)
  have rV : ∃ j : Nat, 12089258196146291747061760 + (1 * v 0 + (0)) = (j : Int) ∧ c_gv j (g j) = v 6 := rV
  have eV := t_g10 h ni (by omega) rV (by omega)
  have rE : ∃ j : Nat, 10880332376531662572355585 + (1 * v 0 + (0)) = (j : Int) ∧ c_gv j (g j) = v 7 := rE
  have eE := t_g9 h (ni+1) (by omega) rE (by omega)
  have c0 : t_pl (t_tx g) ni = np := by omega
  have c := t_tokB (X := t_tx g) (i := ni) (by omega) (by rw [c0]; omega) (by rw [c0]; omega) (by rw [c0]; omega)
  exact ⟨(by show 0 ≤ (-4) + (1 * v 5 + (0)); omega), (by show 0 ≤ 4 + ((-1) * v 5 + (0)); omega), (by show 0 ≤ 0 + (1 * v 6 + (0)); omega), (by show 0 ≤ 0 + ((-1) * v 6 + (0)); omega), (by show 0 ≤ 0 + ((-1) * v 3 + (1 * v 7 + (0))); omega), (by show 0 ≤ 0 + (1 * v 3 + ((-1) * v 7 + (0))); omega), trivial⟩
-- kyW
theorem t_q40 {g : Nat → Int} (h : t_G g) : t_ok g 2 ([(9671406556917033397649408, [(0, 1)]), (12089258196146291747061760, [(0, 1)]), (13298184015760920921767936, [(0, 1)]), (14507109835375550096474112, [(1, 1073741824)])], [(0, [(0, 1)]), (700, [(0, (-1))]), ((-1), [(2, 1)]), (1, [(2, (-1))]), (0, [(1, (-1)), (3, 1)]), (0, [(1, 1), (3, (-1))]), (0, [(1, 1)]), (1099511627775, [(1, (-1))])], [(0, [(4, 1), (5, (-1))]), (0, [(4, (-1)), (5, 1)])]) := by
  refine t_okI fun v hr hp => ?_
  obtain ⟨rK, rV, rY, rF, -⟩ := hr
  obtain ⟨p0, p1, p2, p3, p4, p5, p6, p7, -⟩ := hp
  have p0 : 0 ≤ 0 + (1 * v 0 + (0)) := p0
  have p1 : 0 ≤ 700 + ((-1) * v 0 + (0)) := p1
  have p2 : 0 ≤ (-1) + (1 * v 2 + (0)) := p2
  have p3 : 0 ≤ 1 + ((-1) * v 2 + (0)) := p3
  have p4 : 0 ≤ 0 + ((-1) * v 1 + (1 * v 3 + (0))) := p4
  have p5 : 0 ≤ 0 + (1 * v 1 + ((-1) * v 3 + (0))) := p5
  have p6 : 0 ≤ 0 + (1 * v 1 + (0)) := p6
  have p7 : 0 ≤ 1099511627775 + ((-1) * v 1 + (0)) := p7
  obtain ⟨ni, hi⟩ : ∃ n : Nat, v 0 = (n : Int) := ⟨(v 0).toNat, by omega⟩
  obtain ⟨nv, hv⟩ : ∃ n : Nat, v 1 = (n : Int) := ⟨(v 1).toNat, by omega⟩
  have rK : ∃ j : Nat, 9671406556917033397649408 + (1 * v 0 + (0)) = (j : Int) ∧ c_gv j (g j) = v 2 := rK
  have eK := t_g8 h ni (by omega) rK (by omega)
  have rV : ∃ j : Nat, 12089258196146291747061760 + (1 * v 0 + (0)) = (j : Int) ∧ c_gv j (g j) = v 3 := rV
  have eV := t_g10 h ni (by omega) rV (by omega)
  have rY : ∃ j : Nat, 13298184015760920921767936 + (1 * v 0 + (0)) = (j : Int) ∧ c_gv j (g j) = v 4 := rY
  have eY := t_g11 h ni (by omega) rY (by omega)
  have rF : ∃ j : Nat, 14507109835375550096474112 + (1073741824 * v 1 + (0)) = (j : Int) ∧ c_gv j (g j) = v 5 := rF
  have eF := t_g12 h 0 nv (by omega) (by omega) rF (by omega)
  have c : t_ky (t_tx g) ni = t_kf t_keys (t_v (t_tx g) ni) 0 := by
    unfold t_ky
    rw [if_pos (by omega)]
    rfl
  rw [show t_v (t_tx g) ni = (nv : Int) by omega] at c
  have eF : v 5 = t_kf t_keys (nv : Int) 0 := eF
  exact ⟨(by show 0 ≤ 0 + (1 * v 4 + ((-1) * v 5 + (0))); omega), (by show 0 ≤ 0 + ((-1) * v 4 + (1 * v 5 + (0))); omega), trivial⟩
-- kyN1
theorem t_q41 {g : Nat → Int} (h : t_G g) : t_ok g 1 ([(9671406556917033397649408, [(0, 1)]), (13298184015760920921767936, [(0, 1)])], [(0, [(0, 1)]), (700, [(0, (-1))]), (0, [(1, (-1))])], [(1, [(2, 1)]), ((-1), [(2, (-1))])]) := by
  refine t_okI fun v hr hp => ?_
  obtain ⟨rK, rY, -⟩ := hr
  obtain ⟨p0, p1, p2, -⟩ := hp
  have p0 : 0 ≤ 0 + (1 * v 0 + (0)) := p0
  have p1 : 0 ≤ 700 + ((-1) * v 0 + (0)) := p1
  have p2 : 0 ≤ 0 + ((-1) * v 1 + (0)) := p2
  obtain ⟨ni, hi⟩ : ∃ n : Nat, v 0 = (n : Int) := ⟨(v 0).toNat, by omega⟩
  have rK : ∃ j : Nat, 9671406556917033397649408 + (1 * v 0 + (0)) = (j : Int) ∧ c_gv j (g j) = v 1 := rK
  have eK := t_g8 h ni (by omega) rK (by omega)
  have rY : ∃ j : Nat, 13298184015760920921767936 + (1 * v 0 + (0)) = (j : Int) ∧ c_gv j (g j) = v 2 := rY
  have eY := t_g11 h ni (by omega) rY (by omega)
  have cy : t_ky (t_tx g) ni = -1 := by
    unfold t_ky
    rw [if_neg (by omega)]
  exact ⟨(by show 0 ≤ 1 + (1 * v 2 + (0)); omega), (by show 0 ≤ (-1) + ((-1) * v 2 + (0)); omega), trivial⟩
-- kyN2
theorem t_q42 {g : Nat → Int} (h : t_G g) : t_ok g 1 ([(9671406556917033397649408, [(0, 1)]), (13298184015760920921767936, [(0, 1)])], [(0, [(0, 1)]), (700, [(0, (-1))]), ((-2), [(1, 1)])], [(1, [(2, 1)]), ((-1), [(2, (-1))])]) := by
  refine t_okI fun v hr hp => ?_
  obtain ⟨rK, rY, -⟩ := hr
  obtain ⟨p0, p1, p2, -⟩ := hp
  have p0 : 0 ≤ 0 + (1 * v 0 + (0)) := p0
  have p1 : 0 ≤ 700 + ((-1) * v 0 + (0)) := p1
  have p2 : 0 ≤ (-2) + (1 * v 1 + (0)) := p2
  obtain ⟨ni, hi⟩ : ∃ n : Nat, v 0 = (n : Int) := ⟨(v 0).toNat, by omega⟩
  have rK : ∃ j : Nat, 9671406556917033397649408 + (1 * v 0 + (0)) = (j : Int) ∧ c_gv j (g j) = v 1 := rK
  have eK := t_g8 h ni (by omega) rK (by omega)
  have rY : ∃ j : Nat, 13298184015760920921767936 + (1 * v 0 + (0)) = (j : Int) ∧ c_gv j (g j) = v 2 := rY
  have eY := t_g11 h ni (by omega) rY (by omega)
  have cy : t_ky (t_tx g) ni = -1 := by
    unfold t_ky
    rw [if_neg (by omega)]
  exact ⟨(by show 0 ≤ 1 + (1 * v 2 + (0)); omega), (by show 0 ≤ (-1) + ((-1) * v 2 + (0)); omega), trivial⟩
-- kfE
theorem t_q43 {g : Nat → Int} (h : t_G g) : t_ok g 2 ([(14507109835375550096474112, [(0, 1), (1, 1073741824)])], [((-26), [(0, 1)]), (30, [(0, (-1))]), (0, [(1, 1)]), (1099511627775, [(1, (-1))])], [(1, [(2, 1)]), ((-1), [(2, (-1))])]) := by
  refine t_okI fun v hr hp => ?_
  obtain ⟨rF, -⟩ := hr
  obtain ⟨p0, p1, p2, p3, -⟩ := hp
  have p0 : 0 ≤ (-26) + (1 * v 0 + (0)) := p0
  have p1 : 0 ≤ 30 + ((-1) * v 0 + (0)) := p1
  have p2 : 0 ≤ 0 + (1 * v 1 + (0)) := p2
  have p3 : 0 ≤ 1099511627775 + ((-1) * v 1 + (0)) := p3
  obtain ⟨nk, hk⟩ : ∃ n : Nat, v 0 = (n : Int) := ⟨(v 0).toNat, by omega⟩
  obtain ⟨nv, hv⟩ : ∃ n : Nat, v 1 = (n : Int) := ⟨(v 1).toNat, by omega⟩
  have rF : ∃ j : Nat, 14507109835375550096474112 + (1 * v 0 + (1073741824 * v 1 + (0))) = (j : Int) ∧ c_gv j (g j) = v 2 := rF
  have eF := t_g12 h nk nv (by omega) (by omega) rF (by omega)
  have c := t_kf_e (k := nk) (by omega) (nv : Int) (nk : Int)
  exact ⟨(by show 0 ≤ 1 + (1 * v 2 + (0)); omega), (by show 0 ≤ (-1) + ((-1) * v 2 + (0)); omega), trivial⟩
-- kfL
theorem t_q44 {g : Nat → Int} (h : t_G g) : t_ok g 2 ([(16924961474604808445886464, [(0, 1)]), (14507109835375550096474112, [(0, 1), (1, 1073741824)]), (14507109835375550096474113, [(0, 1), (1, 1073741824)])], [(0, [(0, 1)]), (25, [(0, (-1))]), (0, [(1, 1)]), (1099511627775, [(1, (-1))]), ((-1), [(1, 1), (2, (-1))])], [(0, [(3, 1), (4, (-1))]), (0, [(3, (-1)), (4, 1)])]) := by
  refine t_okI fun v hr hp => ?_
  obtain ⟨rC, rF, rG, -⟩ := hr
  obtain ⟨p0, p1, p2, p3, p4, -⟩ := hp
  have p0 : 0 ≤ 0 + (1 * v 0 + (0)) := p0
  have p1 : 0 ≤ 25 + ((-1) * v 0 + (0)) := p1
  have p2 : 0 ≤ 0 + (1 * v 1 + (0)) := p2
  have p3 : 0 ≤ 1099511627775 + ((-1) * v 1 + (0)) := p3
  have p4 : 0 ≤ (-1) + (1 * v 1 + ((-1) * v 2 + (0))) := p4
  obtain ⟨nk, hk⟩ : ∃ n : Nat, v 0 = (n : Int) := ⟨(v 0).toNat, by omega⟩
  obtain ⟨nv, hv⟩ : ∃ n : Nat, v 1 = (n : Int) := ⟨(v 1).toNat, by omega⟩
  have rC : ∃ j : Nat, 16924961474604808445886464 + (1 * v 0 + (0)) = (j : Int) ∧ c_gv j (g j) = v 2 := rC
  have eC := t_g14 h nk (by omega) rC (by omega)
  have rF : ∃ j : Nat, 14507109835375550096474112 + (1 * v 0 + (1073741824 * v 1 + (0))) = (j : Int) ∧ c_gv j (g j) = v 3 := rF
  have eF := t_g12 h nk nv (by omega) (by omega) rF (by omega)
  have rG : ∃ j : Nat, 14507109835375550096474113 + (1 * v 0 + (1073741824 * v 1 + (0))) = (j : Int) ∧ c_gv j (g j) = v 4 := rG
  have eG := t_g12 h (nk+1) nv (by omega) (by omega) rG (by omega)
  have c := t_kf_s (k := nk) (by omega) (nv : Int)
  rw [if_neg (by omega)] at c
  rw [show ((nk + 1 : Nat) : Int) = (nk : Int) + 1 by omega] at eG
  exact ⟨(by show 0 ≤ 0 + (1 * v 3 + ((-1) * v 4 + (0))); omega), (by show 0 ≤ 0 + ((-1) * v 3 + (1 * v 4 + (0))); omega), trivial⟩
-- kfG
theorem t_q45 {g : Nat → Int} (h : t_G g) : t_ok g 2 ([(16924961474604808445886464, [(0, 1)]), (14507109835375550096474112, [(0, 1), (1, 1073741824)]), (14507109835375550096474113, [(0, 1), (1, 1073741824)])], [(0, [(0, 1)]), (25, [(0, (-1))]), (0, [(1, 1)]), (1099511627775, [(1, (-1))]), ((-1), [(1, (-1)), (2, 1)])], [(0, [(3, 1), (4, (-1))]), (0, [(3, (-1)), (4, 1)])]) := by
  refine t_okI fun v hr hp => ?_
  obtain ⟨rC, rF, rG, -⟩ := hr
  obtain ⟨p0, p1, p2, p3, p4, -⟩ := hp
  have p0 : 0 ≤ 0 + (1 * v 0 + (0)) := p0
  have p1 : 0 ≤ 25 + ((-1) * v 0 + (0)) := p1
  have p2 : 0 ≤ 0 + (1 * v 1 + (0)) := p2
  have p3 : 0 ≤ 1099511627775 + ((-1) * v 1 + (0)) := p3
  have p4 : 0 ≤ (-1) + ((-1) * v 1 + (1 * v 2 + (0))) := p4
  obtain ⟨nk, hk⟩ : ∃ n : Nat, v 0 = (n : Int) := ⟨(v 0).toNat, by omega⟩
  obtain ⟨nv, hv⟩ : ∃ n : Nat, v 1 = (n : Int) := ⟨(v 1).toNat, by omega⟩
  have rC : ∃ j : Nat, 16924961474604808445886464 + (1 * v 0 + (0)) = (j : Int) ∧ c_gv j (g j) = v 2 := rC
  have eC := t_g14 h nk (by omega) rC (by omega)
  have rF : ∃ j : Nat, 14507109835375550096474112 + (1 * v 0 + (1073741824 * v 1 + (0))) = (j : Int) ∧ c_gv j (g j) = v 3 := rF
  have eF := t_g12 h nk nv (by omega) (by omega) rF (by omega)
  have rG : ∃ j : Nat, 14507109835375550096474113 + (1 * v 0 + (1073741824 * v 1 + (0))) = (j : Int) ∧ c_gv j (g j) = v 4 := rG
  have eG := t_g12 h (nk+1) nv (by omega) (by omega) rG (by omega)
  have c := t_kf_s (k := nk) (by omega) (nv : Int)
  rw [if_neg (by omega)] at c
  rw [show ((nk + 1 : Nat) : Int) = (nk : Int) + 1 by omega] at eG
  exact ⟨(by show 0 ≤ 0 + (1 * v 3 + ((-1) * v 4 + (0))); omega), (by show 0 ≤ 0 + ((-1) * v 3 + (1 * v 4 + (0))); omega), trivial⟩
-- kfH
theorem t_q46 {g : Nat → Int} (h : t_G g) : t_ok g 2 ([(16924961474604808445886464, [(0, 1)]), (14507109835375550096474112, [(0, 1), (1, 1073741824)])], [(0, [(0, 1)]), (25, [(0, (-1))]), (0, [(1, 1)]), (1099511627775, [(1, (-1))]), (0, [(1, (-1)), (2, 1)]), (0, [(1, 1), (2, (-1))])], [(0, [(0, (-1)), (3, 1)]), (0, [(0, 1), (3, (-1))])]) := by
  refine t_okI fun v hr hp => ?_
  obtain ⟨rC, rF, -⟩ := hr
  obtain ⟨p0, p1, p2, p3, p4, p5, -⟩ := hp
  have p0 : 0 ≤ 0 + (1 * v 0 + (0)) := p0
  have p1 : 0 ≤ 25 + ((-1) * v 0 + (0)) := p1
  have p2 : 0 ≤ 0 + (1 * v 1 + (0)) := p2
  have p3 : 0 ≤ 1099511627775 + ((-1) * v 1 + (0)) := p3
  have p4 : 0 ≤ 0 + ((-1) * v 1 + (1 * v 2 + (0))) := p4
  have p5 : 0 ≤ 0 + (1 * v 1 + ((-1) * v 2 + (0))) := p5
  obtain ⟨nk, hk⟩ : ∃ n : Nat, v 0 = (n : Int) := ⟨(v 0).toNat, by omega⟩
  obtain ⟨nv, hv⟩ : ∃ n : Nat, v 1 = (n : Int) := ⟨(v 1).toNat, by omega⟩
  have rC : ∃ j : Nat, 16924961474604808445886464 + (1 * v 0 + (0)) = (j : Int) ∧ c_gv j (g j) = v 2 := rC
  have eC := t_g14 h nk (by omega) rC (by omega)
  have rF : ∃ j : Nat, 14507109835375550096474112 + (1 * v 0 + (1073741824 * v 1 + (0))) = (j : Int) ∧ c_gv j (g j) = v 3 := rF
  have eF := t_g12 h nk nv (by omega) (by omega) rF (by omega)
  have c := t_kf_s (k := nk) (by omega) (nv : Int)
  rw [if_pos (by omega)] at c
  exact ⟨(by show 0 ≤ 0 + ((-1) * v 0 + (1 * v 3 + (0))); omega), (by show 0 ≤ 0 + (1 * v 0 + ((-1) * v 3 + (0))); omega), trivial⟩
-- kfB
theorem t_q47 {g : Nat → Int} (h : t_G g) : t_ok g 1 ([(14507109835375550096474112, [(0, 1073741824)])], [(0, [(0, 1)]), (1099511627775, [(0, (-1))])], [(1, [(1, 1)]), (25, [(1, (-1))])]) := by
  refine t_okI fun v hr hp => ?_
  obtain ⟨rF, -⟩ := hr
  obtain ⟨p0, p1, -⟩ := hp
  have p0 : 0 ≤ 0 + (1 * v 0 + (0)) := p0
  have p1 : 0 ≤ 1099511627775 + ((-1) * v 0 + (0)) := p1
  obtain ⟨nv, hv⟩ : ∃ n : Nat, v 0 = (n : Int) := ⟨(v 0).toNat, by omega⟩
  have rF : ∃ j : Nat, 14507109835375550096474112 + (1073741824 * v 0 + (0)) = (j : Int) ∧ c_gv j (g j) = v 1 := rF
  have eF := t_g12 h 0 nv (by omega) (by omega) rF (by omega)
  have c := t_key_bd (nv : Int)
  have eF : v 1 = t_key (nv : Int) := eF
  exact ⟨(by show 0 ≤ 1 + (1 * v 1 + (0)); omega), (by show 0 ≤ 25 + ((-1) * v 1 + (0)); omega), trivial⟩
-- kB0
theorem t_q48 {g : Nat → Int} (h : t_G g) : t_ok g 1 ([(9671406556917033397649408, [(0, 1)]), (12089258196146291747061760, [(0, 1)]), (13298184015760920921767936, [(0, 1)]), (8462480737302404222943232, [(0, 1)]), (1208925819614629174707199, [])], [(0, [(0, 1)]), (700, [(0, (-1))])], [(0, [(1, 1)]), (4, [(1, (-1))]), (0, [(2, 1)]), (1099511627775, [(2, (-1))]), (1, [(3, 1)]), (25, [(3, (-1))]), (0, [(4, 1)]), (0, [(4, (-1)), (5, 1)])]) := by
  refine t_okI fun v hr hp => ?_
  obtain ⟨rK, rV, rY, rP, rN, -⟩ := hr
  obtain ⟨p0, p1, -⟩ := hp
  have p0 : 0 ≤ 0 + (1 * v 0 + (0)) := p0
  have p1 : 0 ≤ 700 + ((-1) * v 0 + (0)) := p1
  obtain ⟨ni, hi⟩ : ∃ n : Nat, v 0 = (n : Int) := ⟨(v 0).toNat, by omega⟩
  have rK : ∃ j : Nat, 9671406556917033397649408 + (1 * v 0 + (0)) = (j : Int) ∧ c_gv j (g j) = v 1 := rK
  have eK := t_g8 h ni (by omega) rK (by omega)
  have rV : ∃ j : Nat, 12089258196146291747061760 + (1 * v 0 + (0)) = (j : Int) ∧ c_gv j (g j) = v 2 := rV
  have eV := t_g10 h ni (by omega) rV (by omega)
  have rY : ∃ j : Nat, 13298184015760920921767936 + (1 * v 0 + (0)) = (j : Int) ∧ c_gv j (g j) = v 3 := rY
  have eY := t_g11 h ni (by omega) rY (by omega)
  have rP : ∃ j : Nat, 8462480737302404222943232 + (1 * v 0 + (0)) = (j : Int) ∧ c_gv j (g j) = v 4 := rP
  have eP := t_g7 h ni (by omega) rP (by omega)
  have rN : ∃ j : Nat, 1208925819614629174707199 + (0) = (j : Int) ∧ c_gv j (g j) = v 5 := rN
  have eN := t_rdN h rN (by omega)
  have c1 := t_k_bd (X := t_tx g) ni
  have cv := t_v_bd (X := t_tx g) ni (t_G_by h)
  have c3 := t_ky_bd (X := t_tx g) ni
  have c4 := t_pl_le (X := t_tx g) ni
  exact ⟨(by show 0 ≤ 0 + (1 * v 1 + (0)); omega), (by show 0 ≤ 4 + ((-1) * v 1 + (0)); omega), (by show 0 ≤ 0 + (1 * v 2 + (0)); omega), (by show 0 ≤ 1099511627775 + ((-1) * v 2 + (0)); omega), (by show 0 ≤ 1 + (1 * v 3 + (0)); omega), (by show 0 ≤ 25 + ((-1) * v 3 + (0)); omega), (by show 0 ≤ 0 + (1 * v 4 + (0)); omega), (by show 0 ≤ 0 + ((-1) * v 4 + (1 * v 5 + (0))); omega), trivial⟩
-- szA
theorem t_q49 {g : Nat → Int} (h : t_G g) : t_ok g 1 ([(8462480737302404222943232, [(0, 1)]), (1208925819614629174707199, []), (18133887294219437620592640, [])], [(0, [(0, 1)]), (700, [(0, (-1))]), ((-1), [(0, (-1)), (3, 1)]), ((-1), [(1, (-1)), (2, 1)])], [((-2), [(0, (-1)), (3, 1)])]) := by
  refine t_okI fun v hr hp => ?_
  obtain ⟨rP, rN, rS, -⟩ := hr
  obtain ⟨p0, p1, p2, p3, -⟩ := hp
  have p0 : 0 ≤ 0 + (1 * v 0 + (0)) := p0
  have p1 : 0 ≤ 700 + ((-1) * v 0 + (0)) := p1
  have p2 : 0 ≤ (-1) + ((-1) * v 0 + (1 * v 3 + (0))) := p2
  have p3 : 0 ≤ (-1) + ((-1) * v 1 + (1 * v 2 + (0))) := p3
  obtain ⟨ni, hi⟩ : ∃ n : Nat, v 0 = (n : Int) := ⟨(v 0).toNat, by omega⟩
  have rP : ∃ j : Nat, 8462480737302404222943232 + (1 * v 0 + (0)) = (j : Int) ∧ c_gv j (g j) = v 1 := rP
  have eP := t_g7 h ni (by omega) rP (by omega)
  have rN : ∃ j : Nat, 1208925819614629174707199 + (0) = (j : Int) ∧ c_gv j (g j) = v 2 := rN
  have eN := t_rdN h rN (by omega)
  have rS : ∃ j : Nat, 18133887294219437620592640 + (0) = (j : Int) ∧ c_gv j (g j) = v 3 := rS
  have eS := t_g15 h   rS (by omega)
  obtain ⟨z, z1, z2, z3, z4⟩ := t_sz_is (X := t_tx g) (t_G_ok h)
  have c : ni ≠ z := fun h9 => by
    rw [← h9] at z3
    omega
  exact ⟨(by show 0 ≤ (-2) + ((-1) * v 0 + (1 * v 3 + (0))); omega), trivial⟩
-- szB
theorem t_q50 {g : Nat → Int} (h : t_G g) : t_ok g 1 ([(8462480737302404222943232, [(0, 1)]), (1208925819614629174707199, []), (18133887294219437620592640, [])], [(0, [(0, 1)]), (700, [(0, (-1))]), (0, [(1, 1), (2, (-1))])], [(1, [(0, 1), (3, (-1))])]) := by
  refine t_okI fun v hr hp => ?_
  obtain ⟨rP, rN, rS, -⟩ := hr
  obtain ⟨p0, p1, p2, -⟩ := hp
  have p0 : 0 ≤ 0 + (1 * v 0 + (0)) := p0
  have p1 : 0 ≤ 700 + ((-1) * v 0 + (0)) := p1
  have p2 : 0 ≤ 0 + (1 * v 1 + ((-1) * v 2 + (0))) := p2
  obtain ⟨ni, hi⟩ : ∃ n : Nat, v 0 = (n : Int) := ⟨(v 0).toNat, by omega⟩
  have rP : ∃ j : Nat, 8462480737302404222943232 + (1 * v 0 + (0)) = (j : Int) ∧ c_gv j (g j) = v 1 := rP
  have eP := t_g7 h ni (by omega) rP (by omega)
  have rN : ∃ j : Nat, 1208925819614629174707199 + (0) = (j : Int) ∧ c_gv j (g j) = v 2 := rN
  have eN := t_rdN h rN (by omega)
  have rS : ∃ j : Nat, 18133887294219437620592640 + (0) = (j : Int) ∧ c_gv j (g j) = v 3 := rS
  have eS := t_g15 h   rS (by omega)
  obtain ⟨z, z1, z2, z3, z4⟩ := t_sz_is (X := t_tx g) (t_G_ok h)
  have c : ¬(ni < z) := fun h9 => by
    have := z4 ni h9
    omega
  exact ⟨(by show 0 ≤ 1 + (1 * v 0 + ((-1) * v 3 + (0))); omega), trivial⟩
-- szC
theorem t_q51 {g : Nat → Int} (h : t_G g) : t_ok g 0 ([(18133887294219437620592640, [])], [], [((-1), [(0, 1)]), (601, [(0, (-1))])]) := by
  refine t_okI fun v hr hp => ?_
  obtain ⟨rS, -⟩ := hr
  have rS : ∃ j : Nat, 18133887294219437620592640 + (0) = (j : Int) ∧ c_gv j (g j) = v 0 := rS
  have eS := t_g15 h   rS (by omega)
  obtain ⟨z, z1, z2, z3, z4⟩ := t_sz_is (X := t_tx g) (t_G_ok h)
  exact ⟨(by show 0 ≤ (-1) + (1 * v 0 + (0)); omega), (by show 0 ≤ 601 + ((-1) * v 0 + (0)); omega), trivial⟩
-- asGE
theorem t_q52 {g : Nat → Int} (h : t_G g) : t_ok g 2 ([], [(0, [(0, 1), (1, (-1))])], [(0, [(0, 1), (1, (-1))])]) := by
  refine t_okI fun v hr hp => ?_
  obtain ⟨p0, -⟩ := hp
  have p0 : 0 ≤ 0 + (1 * v 0 + ((-1) * v 1 + (0))) := p0
  exact ⟨(by show 0 ≤ 0 + (1 * v 0 + ((-1) * v 1 + (0))); omega), trivial⟩
-- kV2
theorem t_q53 {g : Nat → Int} (h : t_G g) : t_ok g 1 ([(9671406556917033397649408, [(0, 1)]), (12089258196146291747061760, [(0, 1)])], [(0, [(0, 1)]), (700, [(0, (-1))]), ((-2), [(1, 1)]), (2, [(1, (-1))])], [(0, [(2, 1)]), (9999, [(2, (-1))])]) := by
  refine t_okI fun v hr hp => ?_
  obtain ⟨rK, rV, -⟩ := hr
  obtain ⟨p0, p1, p2, p3, -⟩ := hp
  have p0 : 0 ≤ 0 + (1 * v 0 + (0)) := p0
  have p1 : 0 ≤ 700 + ((-1) * v 0 + (0)) := p1
  have p2 : 0 ≤ (-2) + (1 * v 1 + (0)) := p2
  have p3 : 0 ≤ 2 + ((-1) * v 1 + (0)) := p3
  obtain ⟨ni, hi⟩ : ∃ n : Nat, v 0 = (n : Int) := ⟨(v 0).toNat, by omega⟩
  have rK : ∃ j : Nat, 9671406556917033397649408 + (1 * v 0 + (0)) = (j : Int) ∧ c_gv j (g j) = v 1 := rK
  have eK := t_g8 h ni (by omega) rK (by omega)
  have rV : ∃ j : Nat, 12089258196146291747061760 + (1 * v 0 + (0)) = (j : Int) ∧ c_gv j (g j) = v 2 := rV
  have eV := t_g10 h ni (by omega) rV (by omega)
  have cv := t_v_bd (X := t_tx g) ni (t_G_by h)
  exact ⟨(by show 0 ≤ 0 + (1 * v 2 + (0)); omega), (by show 0 ≤ 9999 + ((-1) * v 2 + (0)); omega), trivial⟩
-- kyK
theorem t_q54 {g : Nat → Int} (h : t_G g) : t_ok g 1 ([(9671406556917033397649408, [(0, 1)]), (13298184015760920921767936, [(0, 1)])], [(0, [(0, 1)]), (700, [(0, (-1))]), (0, [(2, 1)])], [((-1), [(1, 1)]), (1, [(1, (-1))])]) := by
  refine t_okI fun v hr hp => ?_
  obtain ⟨rK, rY, -⟩ := hr
  obtain ⟨p0, p1, p2, -⟩ := hp
  have p0 : 0 ≤ 0 + (1 * v 0 + (0)) := p0
  have p1 : 0 ≤ 700 + ((-1) * v 0 + (0)) := p1
  have p2 : 0 ≤ 0 + (1 * v 2 + (0)) := p2
  obtain ⟨ni, hi⟩ : ∃ n : Nat, v 0 = (n : Int) := ⟨(v 0).toNat, by omega⟩
  have rK : ∃ j : Nat, 9671406556917033397649408 + (1 * v 0 + (0)) = (j : Int) ∧ c_gv j (g j) = v 1 := rK
  have eK := t_g8 h ni (by omega) rK (by omega)
  have rY : ∃ j : Nat, 13298184015760920921767936 + (1 * v 0 + (0)) = (j : Int) ∧ c_gv j (g j) = v 2 := rY
  have eY := t_g11 h ni (by omega) rY (by omega)
  have c := t_ky_k (X := t_tx g) (i := ni) (by omega)
  exact ⟨(by show 0 ≤ (-1) + (1 * v 1 + (0)); omega), (by show 0 ≤ 1 + ((-1) * v 1 + (0)); omega), trivial⟩
-- szK
theorem t_q55 {g : Nat → Int} (h : t_G g) : t_ok g 1 ([(9671406556917033397649408, [(0, 1)]), (18133887294219437620592640, [])], [(0, [(0, 1)]), (700, [(0, (-1))]), ((-1), [(0, (-1)), (2, 1)]), ((-1), [(1, 1)])], [((-2), [(0, (-1)), (2, 1)])]) := by
  refine t_okI fun v hr hp => ?_
  obtain ⟨rK, rS, -⟩ := hr
  obtain ⟨p0, p1, p2, p3, -⟩ := hp
  have p0 : 0 ≤ 0 + (1 * v 0 + (0)) := p0
  have p1 : 0 ≤ 700 + ((-1) * v 0 + (0)) := p1
  have p2 : 0 ≤ (-1) + ((-1) * v 0 + (1 * v 2 + (0))) := p2
  have p3 : 0 ≤ (-1) + (1 * v 1 + (0)) := p3
  obtain ⟨ni, hi⟩ : ∃ n : Nat, v 0 = (n : Int) := ⟨(v 0).toNat, by omega⟩
  have rK : ∃ j : Nat, 9671406556917033397649408 + (1 * v 0 + (0)) = (j : Int) ∧ c_gv j (g j) = v 1 := rK
  have eK := t_g8 h ni (by omega) rK (by omega)
  have rS : ∃ j : Nat, 18133887294219437620592640 + (0) = (j : Int) ∧ c_gv j (g j) = v 2 := rS
  have eS := t_g15 h   rS (by omega)
  have c0 := t_k_lt (X := t_tx g) (i := ni) (by omega)
  obtain ⟨z, z1, z2, z3, z4⟩ := t_sz_is (X := t_tx g) (t_G_ok h)
  have c : ni ≠ z := fun h9 => by
    rw [← h9] at z3
    omega
  exact ⟨(by show 0 ≤ (-2) + ((-1) * v 0 + (1 * v 2 + (0))); omega), trivial⟩
-- isn1
theorem t_q56 {g : Nat → Int} (h : t_G g) : t_ok g 1 ([(9671406556917033397649408, [(0, 1)]), (12089258196146291747061760, [(0, 1)]), (13298184015760920921767936, [(0, 1)]), (19342813113834066795298816, [(0, 1)])], [(0, [(0, 1)]), (700, [(0, (-1))]), ((-1), [(1, 1)]), (1, [(1, (-1))]), ((-1), [(2, 1)]), ((-1), [(3, (-1))])], [((-1), [(4, 1)]), (1, [(4, (-1))])]) := by
  refine t_okI fun v hr hp => ?_
  obtain ⟨rK, rV, rY, rI, -⟩ := hr
  obtain ⟨p0, p1, p2, p3, p4, p5, -⟩ := hp
  have p0 : 0 ≤ 0 + (1 * v 0 + (0)) := p0
  have p1 : 0 ≤ 700 + ((-1) * v 0 + (0)) := p1
  have p2 : 0 ≤ (-1) + (1 * v 1 + (0)) := p2
  have p3 : 0 ≤ 1 + ((-1) * v 1 + (0)) := p3
  have p4 : 0 ≤ (-1) + (1 * v 2 + (0)) := p4
  have p5 : 0 ≤ (-1) + ((-1) * v 3 + (0)) := p5
  obtain ⟨ni, hi⟩ : ∃ n : Nat, v 0 = (n : Int) := ⟨(v 0).toNat, by omega⟩
  have rK : ∃ j : Nat, 9671406556917033397649408 + (1 * v 0 + (0)) = (j : Int) ∧ c_gv j (g j) = v 1 := rK
  have eK := t_g8 h ni (by omega) rK (by omega)
  have rV : ∃ j : Nat, 12089258196146291747061760 + (1 * v 0 + (0)) = (j : Int) ∧ c_gv j (g j) = v 2 := rV
  have eV := t_g10 h ni (by omega) rV (by omega)
  have rY : ∃ j : Nat, 13298184015760920921767936 + (1 * v 0 + (0)) = (j : Int) ∧ c_gv j (g j) = v 3 := rY
  have eY := t_g11 h ni (by omega) rY (by omega)
  have rI : ∃ j : Nat, 19342813113834066795298816 + (1 * v 0 + (0)) = (j : Int) ∧ c_gv j (g j) = v 4 := rI
  have eI := t_g16 h ni (by omega) rI (by omega)
  have ceI : t_nam (t_tx g) ni = true := t_nam_iff.mpr ⟨⟨by omega, by omega⟩, by omega⟩
  rw [ceI] at eI
  have eI : v 4 = 1 := eI
  exact ⟨(by show 0 ≤ (-1) + (1 * v 4 + (0)); omega), (by show 0 ≤ 1 + ((-1) * v 4 + (0)); omega), trivial⟩
-- isn2
theorem t_q57 {g : Nat → Int} (h : t_G g) : t_ok g 1 ([(9671406556917033397649408, [(0, 1)]), (12089258196146291747061760, [(0, 1)]), (13298184015760920921767936, [(0, 1)]), (19342813113834066795298816, [(0, 1)])], [(0, [(0, 1)]), (700, [(0, (-1))]), ((-1), [(1, 1)]), (1, [(1, (-1))]), ((-1), [(2, 1)]), ((-8), [(3, 1)])], [((-1), [(4, 1)]), (1, [(4, (-1))])]) := by
  refine t_okI fun v hr hp => ?_
  obtain ⟨rK, rV, rY, rI, -⟩ := hr
  obtain ⟨p0, p1, p2, p3, p4, p5, -⟩ := hp
  have p0 : 0 ≤ 0 + (1 * v 0 + (0)) := p0
  have p1 : 0 ≤ 700 + ((-1) * v 0 + (0)) := p1
  have p2 : 0 ≤ (-1) + (1 * v 1 + (0)) := p2
  have p3 : 0 ≤ 1 + ((-1) * v 1 + (0)) := p3
  have p4 : 0 ≤ (-1) + (1 * v 2 + (0)) := p4
  have p5 : 0 ≤ (-8) + (1 * v 3 + (0)) := p5
  obtain ⟨ni, hi⟩ : ∃ n : Nat, v 0 = (n : Int) := ⟨(v 0).toNat, by omega⟩
  have rK : ∃ j : Nat, 9671406556917033397649408 + (1 * v 0 + (0)) = (j : Int) ∧ c_gv j (g j) = v 1 := rK
  have eK := t_g8 h ni (by omega) rK (by omega)
  have rV : ∃ j : Nat, 12089258196146291747061760 + (1 * v 0 + (0)) = (j : Int) ∧ c_gv j (g j) = v 2 := rV
  have eV := t_g10 h ni (by omega) rV (by omega)
  have rY : ∃ j : Nat, 13298184015760920921767936 + (1 * v 0 + (0)) = (j : Int) ∧ c_gv j (g j) = v 3 := rY
  have eY := t_g11 h ni (by omega) rY (by omega)
  have rI : ∃ j : Nat, 19342813113834066795298816 + (1 * v 0 + (0)) = (j : Int) ∧ c_gv j (g j) = v 4 := rI
  have eI := t_g16 h ni (by omega) rI (by omega)
  have ceI : t_nam (t_tx g) ni = true := t_nam_iff.mpr ⟨⟨by omega, by omega⟩, by omega⟩
  rw [ceI] at eI
  have eI : v 4 = 1 := eI
  exact ⟨(by show 0 ≤ (-1) + (1 * v 4 + (0)); omega), (by show 0 ≤ 1 + ((-1) * v 4 + (0)); omega), trivial⟩
-- isn3
theorem t_q58 {g : Nat → Int} (h : t_G g) : t_ok g 1 ([(9671406556917033397649408, [(0, 1)]), (12089258196146291747061760, [(0, 1)]), (13298184015760920921767936, [(0, 1)]), (19342813113834066795298816, [(0, 1)])], [(0, [(0, 1)]), (700, [(0, (-1))]), (0, [(3, 1)]), (7, [(3, (-1))])], [(0, [(4, 1)]), (0, [(4, (-1))])]) := by
  refine t_okI fun v hr hp => ?_
  obtain ⟨rK, rV, rY, rI, -⟩ := hr
  obtain ⟨p0, p1, p2, p3, -⟩ := hp
  have p0 : 0 ≤ 0 + (1 * v 0 + (0)) := p0
  have p1 : 0 ≤ 700 + ((-1) * v 0 + (0)) := p1
  have p2 : 0 ≤ 0 + (1 * v 3 + (0)) := p2
  have p3 : 0 ≤ 7 + ((-1) * v 3 + (0)) := p3
  obtain ⟨ni, hi⟩ : ∃ n : Nat, v 0 = (n : Int) := ⟨(v 0).toNat, by omega⟩
  have rK : ∃ j : Nat, 9671406556917033397649408 + (1 * v 0 + (0)) = (j : Int) ∧ c_gv j (g j) = v 1 := rK
  have eK := t_g8 h ni (by omega) rK (by omega)
  have rV : ∃ j : Nat, 12089258196146291747061760 + (1 * v 0 + (0)) = (j : Int) ∧ c_gv j (g j) = v 2 := rV
  have eV := t_g10 h ni (by omega) rV (by omega)
  have rY : ∃ j : Nat, 13298184015760920921767936 + (1 * v 0 + (0)) = (j : Int) ∧ c_gv j (g j) = v 3 := rY
  have eY := t_g11 h ni (by omega) rY (by omega)
  have rI : ∃ j : Nat, 19342813113834066795298816 + (1 * v 0 + (0)) = (j : Int) ∧ c_gv j (g j) = v 4 := rI
  have eI := t_g16 h ni (by omega) rI (by omega)
  have ceI : t_nam (t_tx g) ni = false := by
    cases h9 : t_nam (t_tx g) ni with
    | false => rfl
    | true =>
      exfalso
      have h8 := t_nam_iff.mp h9
      omega
  rw [ceI] at eI
  have eI : v 4 = 0 := eI
  exact ⟨(by show 0 ≤ 0 + (1 * v 4 + (0)); omega), (by show 0 ≤ 0 + ((-1) * v 4 + (0)); omega), trivial⟩
-- isn4
theorem t_q59 {g : Nat → Int} (h : t_G g) : t_ok g 1 ([(9671406556917033397649408, [(0, 1)]), (12089258196146291747061760, [(0, 1)]), (13298184015760920921767936, [(0, 1)]), (19342813113834066795298816, [(0, 1)])], [(0, [(0, 1)]), (700, [(0, (-1))]), (0, [(2, 1)]), (0, [(2, (-1))])], [(0, [(4, 1)]), (0, [(4, (-1))])]) := by
  refine t_okI fun v hr hp => ?_
  obtain ⟨rK, rV, rY, rI, -⟩ := hr
  obtain ⟨p0, p1, p2, p3, -⟩ := hp
  have p0 : 0 ≤ 0 + (1 * v 0 + (0)) := p0
  have p1 : 0 ≤ 700 + ((-1) * v 0 + (0)) := p1
  have p2 : 0 ≤ 0 + (1 * v 2 + (0)) := p2
  have p3 : 0 ≤ 0 + ((-1) * v 2 + (0)) := p3
  obtain ⟨ni, hi⟩ : ∃ n : Nat, v 0 = (n : Int) := ⟨(v 0).toNat, by omega⟩
  have rK : ∃ j : Nat, 9671406556917033397649408 + (1 * v 0 + (0)) = (j : Int) ∧ c_gv j (g j) = v 1 := rK
  have eK := t_g8 h ni (by omega) rK (by omega)
  have rV : ∃ j : Nat, 12089258196146291747061760 + (1 * v 0 + (0)) = (j : Int) ∧ c_gv j (g j) = v 2 := rV
  have eV := t_g10 h ni (by omega) rV (by omega)
  have rY : ∃ j : Nat, 13298184015760920921767936 + (1 * v 0 + (0)) = (j : Int) ∧ c_gv j (g j) = v 3 := rY
  have eY := t_g11 h ni (by omega) rY (by omega)
  have rI : ∃ j : Nat, 19342813113834066795298816 + (1 * v 0 + (0)) = (j : Int) ∧ c_gv j (g j) = v 4 := rI
  have eI := t_g16 h ni (by omega) rI (by omega)
  have ceI : t_nam (t_tx g) ni = false := by
    cases h9 : t_nam (t_tx g) ni with
    | false => rfl
    | true =>
      exfalso
      have h8 := t_nam_iff.mp h9
      omega
  rw [ceI] at eI
  have eI : v 4 = 0 := eI
  exact ⟨(by show 0 ≤ 0 + (1 * v 4 + (0)); omega), (by show 0 ≤ 0 + ((-1) * v 4 + (0)); omega), trivial⟩
-- isn5
theorem t_q60 {g : Nat → Int} (h : t_G g) : t_ok g 1 ([(9671406556917033397649408, [(0, 1)]), (12089258196146291747061760, [(0, 1)]), (13298184015760920921767936, [(0, 1)]), (19342813113834066795298816, [(0, 1)])], [(0, [(0, 1)]), (700, [(0, (-1))]), (0, [(1, (-1))])], [(0, [(4, 1)]), (0, [(4, (-1))])]) := by
  refine t_okI fun v hr hp => ?_
  obtain ⟨rK, rV, rY, rI, -⟩ := hr
  obtain ⟨p0, p1, p2, -⟩ := hp
  have p0 : 0 ≤ 0 + (1 * v 0 + (0)) := p0
  have p1 : 0 ≤ 700 + ((-1) * v 0 + (0)) := p1
  have p2 : 0 ≤ 0 + ((-1) * v 1 + (0)) := p2
  obtain ⟨ni, hi⟩ : ∃ n : Nat, v 0 = (n : Int) := ⟨(v 0).toNat, by omega⟩
  have rK : ∃ j : Nat, 9671406556917033397649408 + (1 * v 0 + (0)) = (j : Int) ∧ c_gv j (g j) = v 1 := rK
  have eK := t_g8 h ni (by omega) rK (by omega)
  have rV : ∃ j : Nat, 12089258196146291747061760 + (1 * v 0 + (0)) = (j : Int) ∧ c_gv j (g j) = v 2 := rV
  have eV := t_g10 h ni (by omega) rV (by omega)
  have rY : ∃ j : Nat, 13298184015760920921767936 + (1 * v 0 + (0)) = (j : Int) ∧ c_gv j (g j) = v 3 := rY
  have eY := t_g11 h ni (by omega) rY (by omega)
  have rI : ∃ j : Nat, 19342813113834066795298816 + (1 * v 0 + (0)) = (j : Int) ∧ c_gv j (g j) = v 4 := rI
  have eI := t_g16 h ni (by omega) rI (by omega)
  have ceI : t_nam (t_tx g) ni = false := by
    cases h9 : t_nam (t_tx g) ni with
    | false => rfl
    | true =>
      exfalso
      have h8 := t_nam_iff.mp h9
      omega
  rw [ceI] at eI
  have eI : v 4 = 0 := eI
  exact ⟨(by show 0 ≤ 0 + (1 * v 4 + (0)); omega), (by show 0 ≤ 0 + ((-1) * v 4 + (0)); omega), trivial⟩
-- isn6
theorem t_q61 {g : Nat → Int} (h : t_G g) : t_ok g 1 ([(9671406556917033397649408, [(0, 1)]), (12089258196146291747061760, [(0, 1)]), (13298184015760920921767936, [(0, 1)]), (19342813113834066795298816, [(0, 1)])], [(0, [(0, 1)]), (700, [(0, (-1))]), ((-2), [(1, 1)])], [(0, [(4, 1)]), (0, [(4, (-1))])]) := by
  refine t_okI fun v hr hp => ?_
  obtain ⟨rK, rV, rY, rI, -⟩ := hr
  obtain ⟨p0, p1, p2, -⟩ := hp
  have p0 : 0 ≤ 0 + (1 * v 0 + (0)) := p0
  have p1 : 0 ≤ 700 + ((-1) * v 0 + (0)) := p1
  have p2 : 0 ≤ (-2) + (1 * v 1 + (0)) := p2
  obtain ⟨ni, hi⟩ : ∃ n : Nat, v 0 = (n : Int) := ⟨(v 0).toNat, by omega⟩
  have rK : ∃ j : Nat, 9671406556917033397649408 + (1 * v 0 + (0)) = (j : Int) ∧ c_gv j (g j) = v 1 := rK
  have eK := t_g8 h ni (by omega) rK (by omega)
  have rV : ∃ j : Nat, 12089258196146291747061760 + (1 * v 0 + (0)) = (j : Int) ∧ c_gv j (g j) = v 2 := rV
  have eV := t_g10 h ni (by omega) rV (by omega)
  have rY : ∃ j : Nat, 13298184015760920921767936 + (1 * v 0 + (0)) = (j : Int) ∧ c_gv j (g j) = v 3 := rY
  have eY := t_g11 h ni (by omega) rY (by omega)
  have rI : ∃ j : Nat, 19342813113834066795298816 + (1 * v 0 + (0)) = (j : Int) ∧ c_gv j (g j) = v 4 := rI
  have eI := t_g16 h ni (by omega) rI (by omega)
  have ceI : t_nam (t_tx g) ni = false := by
    cases h9 : t_nam (t_tx g) ni with
    | false => rfl
    | true =>
      exfalso
      have h8 := t_nam_iff.mp h9
      omega
  rw [ceI] at eI
  have eI : v 4 = 0 := eI
  exact ⟨(by show 0 ≤ 0 + (1 * v 4 + (0)); omega), (by show 0 ≤ 0 + ((-1) * v 4 + (0)); omega), trivial⟩
-- isnK
theorem t_q62 {g : Nat → Int} (h : t_G g) : t_ok g 1 ([(9671406556917033397649408, [(0, 1)]), (12089258196146291747061760, [(0, 1)]), (19342813113834066795298816, [(0, 1)])], [(0, [(0, 1)]), (700, [(0, (-1))]), ((-1), [(3, 1)]), (1, [(3, (-1))])], [((-1), [(1, 1)]), (1, [(1, (-1))]), ((-1), [(2, 1)])]) := by
  refine t_okI fun v hr hp => ?_
  obtain ⟨rK, rV, rI, -⟩ := hr
  obtain ⟨p0, p1, p2, p3, -⟩ := hp
  have p0 : 0 ≤ 0 + (1 * v 0 + (0)) := p0
  have p1 : 0 ≤ 700 + ((-1) * v 0 + (0)) := p1
  have p2 : 0 ≤ (-1) + (1 * v 3 + (0)) := p2
  have p3 : 0 ≤ 1 + ((-1) * v 3 + (0)) := p3
  obtain ⟨ni, hi⟩ : ∃ n : Nat, v 0 = (n : Int) := ⟨(v 0).toNat, by omega⟩
  have rK : ∃ j : Nat, 9671406556917033397649408 + (1 * v 0 + (0)) = (j : Int) ∧ c_gv j (g j) = v 1 := rK
  have eK := t_g8 h ni (by omega) rK (by omega)
  have rV : ∃ j : Nat, 12089258196146291747061760 + (1 * v 0 + (0)) = (j : Int) ∧ c_gv j (g j) = v 2 := rV
  have eV := t_g10 h ni (by omega) rV (by omega)
  have rI : ∃ j : Nat, 19342813113834066795298816 + (1 * v 0 + (0)) = (j : Int) ∧ c_gv j (g j) = v 3 := rI
  have eI := t_g16 h ni (by omega) rI (by omega)
  have ceI : t_nam (t_tx g) ni = true := by
    cases h9 : t_nam (t_tx g) ni with
    | true => rfl
    | false =>
      exfalso
      rw [h9] at eI
      have eI : v 3 = 0 := eI
      omega
  have deI := t_nam_iff.mp ceI
  have cv := t_v_bd (X := t_tx g) ni (t_G_by h)
  exact ⟨(by show 0 ≤ (-1) + (1 * v 1 + (0)); omega), (by show 0 ≤ 1 + ((-1) * v 1 + (0)); omega), (by show 0 ≤ (-1) + (1 * v 2 + (0)); omega), trivial⟩
-- nd1
theorem t_q63 {g : Nat → Int} (h : t_G g) : t_ok g 2 ([(9671406556917033397649408, [(0, 1)]), (12089258196146291747061760, [(0, 1)]), (20551738933448695970004992, [(0, 1), (1, 1024)])], [(0, [(0, 1)]), (700, [(0, (-1))]), (0, [(1, 1)]), (127, [(1, (-1))]), ((-3), [(2, 1)]), (3, [(2, (-1))]), (0, [(1, (-1)), (3, 1)]), (0, [(1, 1), (3, (-1))])], [((-1), [(0, (-1)), (4, 1)]), (1, [(0, 1), (4, (-1))])]) := by
  refine t_okI fun v hr hp => ?_
  obtain ⟨rK, rV, rD, -⟩ := hr
  obtain ⟨p0, p1, p2, p3, p4, p5, p6, p7, -⟩ := hp
  have p0 : 0 ≤ 0 + (1 * v 0 + (0)) := p0
  have p1 : 0 ≤ 700 + ((-1) * v 0 + (0)) := p1
  have p2 : 0 ≤ 0 + (1 * v 1 + (0)) := p2
  have p3 : 0 ≤ 127 + ((-1) * v 1 + (0)) := p3
  have p4 : 0 ≤ (-3) + (1 * v 2 + (0)) := p4
  have p5 : 0 ≤ 3 + ((-1) * v 2 + (0)) := p5
  have p6 : 0 ≤ 0 + ((-1) * v 1 + (1 * v 3 + (0))) := p6
  have p7 : 0 ≤ 0 + (1 * v 1 + ((-1) * v 3 + (0))) := p7
  obtain ⟨ni, hi⟩ : ∃ n : Nat, v 0 = (n : Int) := ⟨(v 0).toNat, by omega⟩
  obtain ⟨nx, hx⟩ : ∃ n : Nat, v 1 = (n : Int) := ⟨(v 1).toNat, by omega⟩
  have rK : ∃ j : Nat, 9671406556917033397649408 + (1 * v 0 + (0)) = (j : Int) ∧ c_gv j (g j) = v 2 := rK
  have eK := t_g8 h ni (by omega) rK (by omega)
  have rV : ∃ j : Nat, 12089258196146291747061760 + (1 * v 0 + (0)) = (j : Int) ∧ c_gv j (g j) = v 3 := rV
  have eV := t_g10 h ni (by omega) rV (by omega)
  have rD : ∃ j : Nat, 20551738933448695970004992 + (1 * v 0 + (1024 * v 1 + (0))) = (j : Int) ∧ c_gv j (g j) = v 4 := rD
  have eD := t_g17 h ni nx (by omega) (by omega) rD (by omega)
  rw [t_need_is, if_pos ⟨by omega, by omega⟩] at eD
  exact ⟨(by show 0 ≤ (-1) + ((-1) * v 0 + (1 * v 4 + (0))); omega), (by show 0 ≤ 1 + (1 * v 0 + ((-1) * v 4 + (0))); omega), trivial⟩
-- nd2
theorem t_q64 {g : Nat → Int} (h : t_G g) : t_ok g 2 ([(9671406556917033397649408, [(0, 1)]), (12089258196146291747061760, [(0, 1)]), (20551738933448695970004992, [(0, 1), (1, 1024)])], [(0, [(0, 1)]), (700, [(0, (-1))]), (0, [(1, 1)]), (127, [(1, (-1))]), (2, [(2, (-1))])], [(1, [(4, 1)]), ((-1), [(4, (-1))])]) := by
  refine t_okI fun v hr hp => ?_
  obtain ⟨rK, rV, rD, -⟩ := hr
  obtain ⟨p0, p1, p2, p3, p4, -⟩ := hp
  have p0 : 0 ≤ 0 + (1 * v 0 + (0)) := p0
  have p1 : 0 ≤ 700 + ((-1) * v 0 + (0)) := p1
  have p2 : 0 ≤ 0 + (1 * v 1 + (0)) := p2
  have p3 : 0 ≤ 127 + ((-1) * v 1 + (0)) := p3
  have p4 : 0 ≤ 2 + ((-1) * v 2 + (0)) := p4
  obtain ⟨ni, hi⟩ : ∃ n : Nat, v 0 = (n : Int) := ⟨(v 0).toNat, by omega⟩
  obtain ⟨nx, hx⟩ : ∃ n : Nat, v 1 = (n : Int) := ⟨(v 1).toNat, by omega⟩
  have rK : ∃ j : Nat, 9671406556917033397649408 + (1 * v 0 + (0)) = (j : Int) ∧ c_gv j (g j) = v 2 := rK
  have eK := t_g8 h ni (by omega) rK (by omega)
  have rV : ∃ j : Nat, 12089258196146291747061760 + (1 * v 0 + (0)) = (j : Int) ∧ c_gv j (g j) = v 3 := rV
  have eV := t_g10 h ni (by omega) rV (by omega)
  have rD : ∃ j : Nat, 20551738933448695970004992 + (1 * v 0 + (1024 * v 1 + (0))) = (j : Int) ∧ c_gv j (g j) = v 4 := rD
  have eD := t_g17 h ni nx (by omega) (by omega) rD (by omega)
  rw [t_need_is, if_neg (by omega)] at eD
  exact ⟨(by show 0 ≤ 1 + (1 * v 4 + (0)); omega), (by show 0 ≤ (-1) + ((-1) * v 4 + (0)); omega), trivial⟩
