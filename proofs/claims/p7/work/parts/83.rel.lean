/-! trays: sorts and sizes alike -/
theorem k_inK {E : cEff} {pros : List Nat} {w w' : cWld} {a t : Nat} (h : c_ext E pros w w') (hp : pros.all (fun t => Nat.ble 101 t) = true) (ht : t ≤ 100) (hf : c_in w a t) : c_in w' a t := by
  obtain ⟨e, h1, h2⟩ := hf
  obtain ⟨e', g1, g2⟩ := h.1 _ h1
  rcases g2 with ⟨g2, g3⟩ | g2
  · exact ⟨e', g1, g2.trans h2⟩
  · exfalso
    have h5 := Nat.le_of_ble_eq_true (List.all_eq_true.mp hp _ g2)
    dsimp only at h5
    omega
theorem k_fnU {AA : Nat → Prop} {w : cWld} {a t t' i : Nat} {z z' : Int} (hD : va_D AA w.2.1) (h : k_fn w a t i z) (h' : k_fn w a t' i z') : z = z' :=
  c_cell_fun (p := fun _ => (a : Int)) (p' := fun _ => (a : Int)) (b := 0 + 1) (idx := ((i : Int), [])) hD (fun _ => rfl) rfl (k_fnC h rfl (by show (i : Int) + 0 = _; omega)) (k_fnC h' rfl (by show (i : Int) + 0 = _; omega))
theorem k_fnT {w : cWld} {dA : Nat → ClassId} {a t i : Nat} {z lo hi : Int} (hT : c_TW k_K dA w) (hf : k_fn w a t i z) (hty : c_ty k_K t i = (0, lo, hi)) : lo ≤ z ∧ z ≤ hi := by
  obtain ⟨e, v, h1, h2, h3, h4⟩ := hf
  have h := (hT _ h1).2.1 i v h3
  dsimp only at h
  rw [h2, hty] at h
  obtain ⟨x, rfl, h5, h6⟩ := h
  have h4 : x.toInt = z := h4
  exact ⟨h4 ▸ h5, h4 ▸ h6⟩
theorem k_fnRf {w : cWld} {dA : Nat → ClassId} {a t i t' : Nat} {z : Int} (hT : c_TW k_K dA w) (hf : k_fn w a t i z) (hty : c_ty k_K t i = (3, (t' : Int), 0)) : ∃ x : Nat, z = (x : Int) ∧ c_in w x t' := by
  obtain ⟨e, v, h1, h2, h3, h4⟩ := hf
  have h := (hT _ h1).2.1 i v h3
  dsimp only at h
  rw [h2, hty] at h
  obtain ⟨x, rfl, h5⟩ := h
  exact ⟨x, h4.symm, h5⟩
theorem k_fnA {w : cWld} {dA : Nat → ClassId} {a t i N ci : Nat} (hT : c_TW k_K dA w) (hin : c_in w a t) (hs : k_K.2.1 t = (1, N, ci)) (hi : i < N) : ∃ z, k_fn w a t i z := by
  obtain ⟨e, h1, h2⟩ := hin
  have hf := (hT _ h1).1
  dsimp only at hf
  rw [h2, hs] at hf
  obtain ⟨f, rfl⟩ := hf
  exact ⟨_, _, .int (f i), h1, h2, if_pos hi, rfl⟩
def k_tq (s z m u : Int) : Prop := (s = -1 ∧ m = -1) ∨ (0 ≤ s ∧ 0 ≤ z ∧ m = z ∧ u = s)
def k_tr (w : cWld) (so si tm ts t : Nat) : Prop := ∃ s z m u : Int, k_fn w so 14 t s ∧ k_fn w si 15 t z ∧ k_fn w tm 60 t m ∧ k_fn w ts 59 t u ∧ k_tq s z m u
def k_T (a1 a2 : Nat) (w : cWld) (so si tm ts : Nat) : Prop := k_fn w a1 12 4 (so : Int) ∧ c_in w so 14 ∧ k_fn w a1 12 5 (si : Int) ∧ c_in w si 15 ∧ k_fn w a2 13 5 (tm : Int) ∧ c_in w tm 60 ∧ k_fn w a2 13 4 (ts : Int) ∧ c_in w ts 59
def k_R6 (a1 a2 : Nat) (w : cWld) : Prop := ∃ so si tm ts : Nat, k_T a1 a2 w so si tm ts ∧ ∀ t, t < 4 → k_tr w so si tm ts t
def k_off0 (E : cEff) : Bool := c_off E 12 4 4 && c_off E 12 5 5 && c_off E 13 4 4 && c_off E 13 5 5
def k_none (E : cEff) (t : Nat) : Bool := E.all (fun x => !(Nat.beq x.1 t))
def k_off6 (E : cEff) : Bool := k_off0 E && k_none E 14 && k_none E 15 && k_none E 59 && k_none E 60
theorem k_none_ok {E : cEff} {t : Nat} (h : k_none E t = true) (lo hi : Int) : c_off E t lo hi = true := by
  unfold c_off
  refine List.all_eq_true.mpr fun x hx => ?_
  have := List.all_eq_true.mp h x hx
  rw [this]
  rfl
section RT
variable {E : cEff} {pros : List Nat} {w w' : cWld} {a1 a2 so si tm ts t : Nat}
theorem k_TK (h : c_ext E pros w w') (hp : pros.all (fun t => Nat.ble 101 t) = true) (hE : k_off0 E = true) (hR : k_T a1 a2 w so si tm ts) : k_T a1 a2 w' so si tm ts := by
  unfold k_off0 at hE
  rw [Bool.and_eq_true, Bool.and_eq_true, Bool.and_eq_true] at hE
  obtain ⟨⟨⟨e1, e2⟩, e3⟩, e4⟩ := hE
  obtain ⟨h1, h2, h3, h4, h5, h6, h7, h8⟩ := hR
  exact ⟨k_fnK h hp (by decide) e1 h1, k_inK h hp (by decide) h2, k_fnK h hp (by decide) e2 h3, k_inK h hp (by decide) h4, k_fnK h hp (by decide) e4 h5, k_inK h hp (by decide) h6, k_fnK h hp (by decide) e3 h7, k_inK h hp (by decide) h8⟩
theorem k_trK (h : c_ext E pros w w') (hp : pros.all (fun t => Nat.ble 101 t) = true) (hE : (c_off E 14 (t : Int) (t : Int) && c_off E 15 (t : Int) (t : Int) && c_off E 60 (t : Int) (t : Int) && c_off E 59 (t : Int) (t : Int)) = true) (hR : k_tr w so si tm ts t) : k_tr w' so si tm ts t := by
  rw [Bool.and_eq_true, Bool.and_eq_true, Bool.and_eq_true] at hE
  obtain ⟨⟨⟨e1, e2⟩, e3⟩, e4⟩ := hE
  obtain ⟨s, z, m, u, h1, h2, h3, h4, h5⟩ := hR
  exact ⟨s, z, m, u, k_fnK h hp (by decide) e1 h1, k_fnK h hp (by decide) e2 h2, k_fnK h hp (by decide) e3 h3, k_fnK h hp (by decide) e4 h4, h5⟩
theorem k_RK6 (h : c_ext E pros w w') (hp : pros.all (fun t => Nat.ble 101 t) = true) (hE : k_off6 E = true) (hR : k_R6 a1 a2 w) : k_R6 a1 a2 w' := by
  unfold k_off6 at hE
  rw [Bool.and_eq_true, Bool.and_eq_true, Bool.and_eq_true, Bool.and_eq_true] at hE
  obtain ⟨⟨⟨⟨e0, e1⟩, e2⟩, e3⟩, e4⟩ := hE
  obtain ⟨so, si, tm, ts, h1, h2⟩ := hR
  exact ⟨so, si, tm, ts, k_TK h hp e0 h1, fun t ht => k_trK h hp (by rw [k_none_ok e1, k_none_ok e2, k_none_ok e4, k_none_ok e3]; rfl) (h2 t ht)⟩
end RT
theorem k_trayC0 {w w' : cWld} {a so si : Nat} {x2 x3 s z r : Int} (h : c_Post k_c123_3 (k_rv [(a : Int), (0 : Int), x2, x3, (so : Int), (si : Int), s, z]) w w' [r]) (i1 : c_in w' so 14) (i2 : c_in w' si 15) : ∃ s' z' : Int, k_fn w' so 14 0 s' ∧ k_fn w' si 15 0 z' ∧ ((0 ≤ x2 ∧ x2 ≤ 3 ∧ 0 ≤ x3 ∧ x3 ≤ 60 ∧ s' = x2 ∧ z' = x3 ∧ r = 1) ∨ (¬ (0 ≤ x2 ∧ x2 ≤ 3 ∧ 0 ≤ x3 ∧ x3 ≤ 60) ∧ s' = s ∧ z' = z ∧ r = 0)) := by
  obtain ⟨-, -, d, hd, rr, q1, q2, q3, q4, -⟩ := h
  have e1 : rr 1 = (a : Int) := q1 1 (by decide)
  have e2 : rr 2 = (0 : Int) := q1 2 (by decide)
  have e3 : rr 3 = x2 := q1 3 (by decide)
  have e4 : rr 4 = x3 := q1 4 (by decide)
  have e5 : rr 5 = (so : Int) := q1 5 (by decide)
  have e6 : rr 6 = (si : Int) := q1 6 (by decide)
  have e7 : rr 7 = s := q1 7 (by decide)
  have e8 : rr 8 = z := q1 8 (by decide)
  have er : rr 9 = r := q2 0 _ rfl
  have hd : d ∈ ct_post k_c123_3 := hd
  simp only [ct_post, k_c123_3, List.mem_cons, List.not_mem_nil, or_false] at hd
  rcases hd with rfl | rfl | rfl | rfl | rfl <;>
    (have c1 : k_fn w' so 14 0 (rr 10) := k_fnD (b := 4) (q3 0 _ rfl) e5 (by show (0 : Int) + (1 * rr 2 + 0) = _; rw [e2]; rfl) i1
     have c2 : k_fn w' si 15 0 (rr 11) := k_fnD (b := 5) (q3 1 _ rfl) e6 (by show (0 : Int) + (1 * rr 2 + 0) = _; rw [e2]; rfl) i2
     simp only [List.forall_mem_cons, c_ev, c_evs, List.not_mem_nil, false_implies, implies_true, and_true, e3, e4, e7, e8, er] at q4
     exact ⟨rr 10, rr 11, c1, c2, by omega⟩)
theorem k_trayM0 {w w' : cWld} {a tm ts : Nat} {x2 x3 s z r : Int} (h : c_Post k_c210_3 (k_rv [(a : Int), (0 : Int), x2, x3, (tm : Int), (ts : Int), s, z]) w w' [r]) (i1 : c_in w' tm 60) (i2 : c_in w' ts 59) : ∃ s' z' : Int, k_fn w' tm 60 0 s' ∧ k_fn w' ts 59 0 z' ∧ ((0 ≤ x2 ∧ x2 ≤ 3 ∧ 0 ≤ x3 ∧ x3 ≤ 60 ∧ s' = x3 ∧ z' = x2 ∧ r = 1) ∨ (¬ (0 ≤ x2 ∧ x2 ≤ 3 ∧ 0 ≤ x3 ∧ x3 ≤ 60) ∧ s' = s ∧ z' = z ∧ r = 0)) := by
  obtain ⟨-, -, d, hd, rr, q1, q2, q3, q4, -⟩ := h
  have e1 : rr 1 = (a : Int) := q1 1 (by decide)
  have e2 : rr 2 = (0 : Int) := q1 2 (by decide)
  have e3 : rr 3 = x2 := q1 3 (by decide)
  have e4 : rr 4 = x3 := q1 4 (by decide)
  have e5 : rr 5 = (tm : Int) := q1 5 (by decide)
  have e6 : rr 6 = (ts : Int) := q1 6 (by decide)
  have e7 : rr 7 = s := q1 7 (by decide)
  have e8 : rr 8 = z := q1 8 (by decide)
  have er : rr 9 = r := q2 0 _ rfl
  have hd : d ∈ ct_post k_c210_3 := hd
  simp only [ct_post, k_c210_3, List.mem_cons, List.not_mem_nil, or_false] at hd
  rcases hd with rfl | rfl | rfl | rfl | rfl <;>
    (have c1 : k_fn w' tm 60 0 (rr 10) := k_fnD (b := 4) (q3 0 _ rfl) e5 (by show (0 : Int) + (1 * rr 2 + 0) = _; rw [e2]; rfl) i1
     have c2 : k_fn w' ts 59 0 (rr 11) := k_fnD (b := 5) (q3 1 _ rfl) e6 (by show (0 : Int) + (1 * rr 2 + 0) = _; rw [e2]; rfl) i2
     simp only [List.forall_mem_cons, c_ev, c_evs, List.not_mem_nil, false_implies, implies_true, and_true, e3, e4, e7, e8, er] at q4
     exact ⟨rr 10, rr 11, c1, c2, by omega⟩)
theorem k_trayC1 {w w' : cWld} {a so si : Nat} {x2 x3 s z r : Int} (h : c_Post k_c123_4 (k_rv [(a : Int), (1 : Int), x2, x3, (so : Int), (si : Int), s, z]) w w' [r]) (i1 : c_in w' so 14) (i2 : c_in w' si 15) : ∃ s' z' : Int, k_fn w' so 14 1 s' ∧ k_fn w' si 15 1 z' ∧ ((0 ≤ x2 ∧ x2 ≤ 3 ∧ 0 ≤ x3 ∧ x3 ≤ 60 ∧ s' = x2 ∧ z' = x3 ∧ r = 1) ∨ (¬ (0 ≤ x2 ∧ x2 ≤ 3 ∧ 0 ≤ x3 ∧ x3 ≤ 60) ∧ s' = s ∧ z' = z ∧ r = 0)) := by
  obtain ⟨-, -, d, hd, rr, q1, q2, q3, q4, -⟩ := h
  have e1 : rr 1 = (a : Int) := q1 1 (by decide)
  have e2 : rr 2 = (1 : Int) := q1 2 (by decide)
  have e3 : rr 3 = x2 := q1 3 (by decide)
  have e4 : rr 4 = x3 := q1 4 (by decide)
  have e5 : rr 5 = (so : Int) := q1 5 (by decide)
  have e6 : rr 6 = (si : Int) := q1 6 (by decide)
  have e7 : rr 7 = s := q1 7 (by decide)
  have e8 : rr 8 = z := q1 8 (by decide)
  have er : rr 9 = r := q2 0 _ rfl
  have hd : d ∈ ct_post k_c123_4 := hd
  simp only [ct_post, k_c123_4, List.mem_cons, List.not_mem_nil, or_false] at hd
  rcases hd with rfl | rfl | rfl | rfl | rfl <;>
    (have c1 : k_fn w' so 14 1 (rr 10) := k_fnD (b := 4) (q3 0 _ rfl) e5 (by show (0 : Int) + (1 * rr 2 + 0) = _; rw [e2]; rfl) i1
     have c2 : k_fn w' si 15 1 (rr 11) := k_fnD (b := 5) (q3 1 _ rfl) e6 (by show (0 : Int) + (1 * rr 2 + 0) = _; rw [e2]; rfl) i2
     simp only [List.forall_mem_cons, c_ev, c_evs, List.not_mem_nil, false_implies, implies_true, and_true, e3, e4, e7, e8, er] at q4
     exact ⟨rr 10, rr 11, c1, c2, by omega⟩)
theorem k_trayM1 {w w' : cWld} {a tm ts : Nat} {x2 x3 s z r : Int} (h : c_Post k_c210_4 (k_rv [(a : Int), (1 : Int), x2, x3, (tm : Int), (ts : Int), s, z]) w w' [r]) (i1 : c_in w' tm 60) (i2 : c_in w' ts 59) : ∃ s' z' : Int, k_fn w' tm 60 1 s' ∧ k_fn w' ts 59 1 z' ∧ ((0 ≤ x2 ∧ x2 ≤ 3 ∧ 0 ≤ x3 ∧ x3 ≤ 60 ∧ s' = x3 ∧ z' = x2 ∧ r = 1) ∨ (¬ (0 ≤ x2 ∧ x2 ≤ 3 ∧ 0 ≤ x3 ∧ x3 ≤ 60) ∧ s' = s ∧ z' = z ∧ r = 0)) := by
  obtain ⟨-, -, d, hd, rr, q1, q2, q3, q4, -⟩ := h
  have e1 : rr 1 = (a : Int) := q1 1 (by decide)
  have e2 : rr 2 = (1 : Int) := q1 2 (by decide)
  have e3 : rr 3 = x2 := q1 3 (by decide)
  have e4 : rr 4 = x3 := q1 4 (by decide)
  have e5 : rr 5 = (tm : Int) := q1 5 (by decide)
  have e6 : rr 6 = (ts : Int) := q1 6 (by decide)
  have e7 : rr 7 = s := q1 7 (by decide)
  have e8 : rr 8 = z := q1 8 (by decide)
  have er : rr 9 = r := q2 0 _ rfl
  have hd : d ∈ ct_post k_c210_4 := hd
  simp only [ct_post, k_c210_4, List.mem_cons, List.not_mem_nil, or_false] at hd
  rcases hd with rfl | rfl | rfl | rfl | rfl <;>
    (have c1 : k_fn w' tm 60 1 (rr 10) := k_fnD (b := 4) (q3 0 _ rfl) e5 (by show (0 : Int) + (1 * rr 2 + 0) = _; rw [e2]; rfl) i1
     have c2 : k_fn w' ts 59 1 (rr 11) := k_fnD (b := 5) (q3 1 _ rfl) e6 (by show (0 : Int) + (1 * rr 2 + 0) = _; rw [e2]; rfl) i2
     simp only [List.forall_mem_cons, c_ev, c_evs, List.not_mem_nil, false_implies, implies_true, and_true, e3, e4, e7, e8, er] at q4
     exact ⟨rr 10, rr 11, c1, c2, by omega⟩)
theorem k_trayC2 {w w' : cWld} {a so si : Nat} {x2 x3 s z r : Int} (h : c_Post k_c123_5 (k_rv [(a : Int), (2 : Int), x2, x3, (so : Int), (si : Int), s, z]) w w' [r]) (i1 : c_in w' so 14) (i2 : c_in w' si 15) : ∃ s' z' : Int, k_fn w' so 14 2 s' ∧ k_fn w' si 15 2 z' ∧ ((0 ≤ x2 ∧ x2 ≤ 3 ∧ 0 ≤ x3 ∧ x3 ≤ 60 ∧ s' = x2 ∧ z' = x3 ∧ r = 1) ∨ (¬ (0 ≤ x2 ∧ x2 ≤ 3 ∧ 0 ≤ x3 ∧ x3 ≤ 60) ∧ s' = s ∧ z' = z ∧ r = 0)) := by
  obtain ⟨-, -, d, hd, rr, q1, q2, q3, q4, -⟩ := h
  have e1 : rr 1 = (a : Int) := q1 1 (by decide)
  have e2 : rr 2 = (2 : Int) := q1 2 (by decide)
  have e3 : rr 3 = x2 := q1 3 (by decide)
  have e4 : rr 4 = x3 := q1 4 (by decide)
  have e5 : rr 5 = (so : Int) := q1 5 (by decide)
  have e6 : rr 6 = (si : Int) := q1 6 (by decide)
  have e7 : rr 7 = s := q1 7 (by decide)
  have e8 : rr 8 = z := q1 8 (by decide)
  have er : rr 9 = r := q2 0 _ rfl
  have hd : d ∈ ct_post k_c123_5 := hd
  simp only [ct_post, k_c123_5, List.mem_cons, List.not_mem_nil, or_false] at hd
  rcases hd with rfl | rfl | rfl | rfl | rfl <;>
    (have c1 : k_fn w' so 14 2 (rr 10) := k_fnD (b := 4) (q3 0 _ rfl) e5 (by show (0 : Int) + (1 * rr 2 + 0) = _; rw [e2]; rfl) i1
     have c2 : k_fn w' si 15 2 (rr 11) := k_fnD (b := 5) (q3 1 _ rfl) e6 (by show (0 : Int) + (1 * rr 2 + 0) = _; rw [e2]; rfl) i2
     simp only [List.forall_mem_cons, c_ev, c_evs, List.not_mem_nil, false_implies, implies_true, and_true, e3, e4, e7, e8, er] at q4
     exact ⟨rr 10, rr 11, c1, c2, by omega⟩)
theorem k_trayM2 {w w' : cWld} {a tm ts : Nat} {x2 x3 s z r : Int} (h : c_Post k_c210_5 (k_rv [(a : Int), (2 : Int), x2, x3, (tm : Int), (ts : Int), s, z]) w w' [r]) (i1 : c_in w' tm 60) (i2 : c_in w' ts 59) : ∃ s' z' : Int, k_fn w' tm 60 2 s' ∧ k_fn w' ts 59 2 z' ∧ ((0 ≤ x2 ∧ x2 ≤ 3 ∧ 0 ≤ x3 ∧ x3 ≤ 60 ∧ s' = x3 ∧ z' = x2 ∧ r = 1) ∨ (¬ (0 ≤ x2 ∧ x2 ≤ 3 ∧ 0 ≤ x3 ∧ x3 ≤ 60) ∧ s' = s ∧ z' = z ∧ r = 0)) := by
  obtain ⟨-, -, d, hd, rr, q1, q2, q3, q4, -⟩ := h
  have e1 : rr 1 = (a : Int) := q1 1 (by decide)
  have e2 : rr 2 = (2 : Int) := q1 2 (by decide)
  have e3 : rr 3 = x2 := q1 3 (by decide)
  have e4 : rr 4 = x3 := q1 4 (by decide)
  have e5 : rr 5 = (tm : Int) := q1 5 (by decide)
  have e6 : rr 6 = (ts : Int) := q1 6 (by decide)
  have e7 : rr 7 = s := q1 7 (by decide)
  have e8 : rr 8 = z := q1 8 (by decide)
  have er : rr 9 = r := q2 0 _ rfl
  have hd : d ∈ ct_post k_c210_5 := hd
  simp only [ct_post, k_c210_5, List.mem_cons, List.not_mem_nil, or_false] at hd
  rcases hd with rfl | rfl | rfl | rfl | rfl <;>
    (have c1 : k_fn w' tm 60 2 (rr 10) := k_fnD (b := 4) (q3 0 _ rfl) e5 (by show (0 : Int) + (1 * rr 2 + 0) = _; rw [e2]; rfl) i1
     have c2 : k_fn w' ts 59 2 (rr 11) := k_fnD (b := 5) (q3 1 _ rfl) e6 (by show (0 : Int) + (1 * rr 2 + 0) = _; rw [e2]; rfl) i2
     simp only [List.forall_mem_cons, c_ev, c_evs, List.not_mem_nil, false_implies, implies_true, and_true, e3, e4, e7, e8, er] at q4
     exact ⟨rr 10, rr 11, c1, c2, by omega⟩)
theorem k_trayC3 {w w' : cWld} {a so si : Nat} {x2 x3 s z r : Int} (h : c_Post k_c123_6 (k_rv [(a : Int), (3 : Int), x2, x3, (so : Int), (si : Int), s, z]) w w' [r]) (i1 : c_in w' so 14) (i2 : c_in w' si 15) : ∃ s' z' : Int, k_fn w' so 14 3 s' ∧ k_fn w' si 15 3 z' ∧ ((0 ≤ x2 ∧ x2 ≤ 3 ∧ 0 ≤ x3 ∧ x3 ≤ 60 ∧ s' = x2 ∧ z' = x3 ∧ r = 1) ∨ (¬ (0 ≤ x2 ∧ x2 ≤ 3 ∧ 0 ≤ x3 ∧ x3 ≤ 60) ∧ s' = s ∧ z' = z ∧ r = 0)) := by
  obtain ⟨-, -, d, hd, rr, q1, q2, q3, q4, -⟩ := h
  have e1 : rr 1 = (a : Int) := q1 1 (by decide)
  have e2 : rr 2 = (3 : Int) := q1 2 (by decide)
  have e3 : rr 3 = x2 := q1 3 (by decide)
  have e4 : rr 4 = x3 := q1 4 (by decide)
  have e5 : rr 5 = (so : Int) := q1 5 (by decide)
  have e6 : rr 6 = (si : Int) := q1 6 (by decide)
  have e7 : rr 7 = s := q1 7 (by decide)
  have e8 : rr 8 = z := q1 8 (by decide)
  have er : rr 9 = r := q2 0 _ rfl
  have hd : d ∈ ct_post k_c123_6 := hd
  simp only [ct_post, k_c123_6, List.mem_cons, List.not_mem_nil, or_false] at hd
  rcases hd with rfl | rfl | rfl | rfl | rfl <;>
    (have c1 : k_fn w' so 14 3 (rr 10) := k_fnD (b := 4) (q3 0 _ rfl) e5 (by show (0 : Int) + (1 * rr 2 + 0) = _; rw [e2]; rfl) i1
     have c2 : k_fn w' si 15 3 (rr 11) := k_fnD (b := 5) (q3 1 _ rfl) e6 (by show (0 : Int) + (1 * rr 2 + 0) = _; rw [e2]; rfl) i2
     simp only [List.forall_mem_cons, c_ev, c_evs, List.not_mem_nil, false_implies, implies_true, and_true, e3, e4, e7, e8, er] at q4
     exact ⟨rr 10, rr 11, c1, c2, by omega⟩)
theorem k_trayM3 {w w' : cWld} {a tm ts : Nat} {x2 x3 s z r : Int} (h : c_Post k_c210_6 (k_rv [(a : Int), (3 : Int), x2, x3, (tm : Int), (ts : Int), s, z]) w w' [r]) (i1 : c_in w' tm 60) (i2 : c_in w' ts 59) : ∃ s' z' : Int, k_fn w' tm 60 3 s' ∧ k_fn w' ts 59 3 z' ∧ ((0 ≤ x2 ∧ x2 ≤ 3 ∧ 0 ≤ x3 ∧ x3 ≤ 60 ∧ s' = x3 ∧ z' = x2 ∧ r = 1) ∨ (¬ (0 ≤ x2 ∧ x2 ≤ 3 ∧ 0 ≤ x3 ∧ x3 ≤ 60) ∧ s' = s ∧ z' = z ∧ r = 0)) := by
  obtain ⟨-, -, d, hd, rr, q1, q2, q3, q4, -⟩ := h
  have e1 : rr 1 = (a : Int) := q1 1 (by decide)
  have e2 : rr 2 = (3 : Int) := q1 2 (by decide)
  have e3 : rr 3 = x2 := q1 3 (by decide)
  have e4 : rr 4 = x3 := q1 4 (by decide)
  have e5 : rr 5 = (tm : Int) := q1 5 (by decide)
  have e6 : rr 6 = (ts : Int) := q1 6 (by decide)
  have e7 : rr 7 = s := q1 7 (by decide)
  have e8 : rr 8 = z := q1 8 (by decide)
  have er : rr 9 = r := q2 0 _ rfl
  have hd : d ∈ ct_post k_c210_6 := hd
  simp only [ct_post, k_c210_6, List.mem_cons, List.not_mem_nil, or_false] at hd
  rcases hd with rfl | rfl | rfl | rfl | rfl <;>
    (have c1 : k_fn w' tm 60 3 (rr 10) := k_fnD (b := 4) (q3 0 _ rfl) e5 (by show (0 : Int) + (1 * rr 2 + 0) = _; rw [e2]; rfl) i1
     have c2 : k_fn w' ts 59 3 (rr 11) := k_fnD (b := 5) (q3 1 _ rfl) e6 (by show (0 : Int) + (1 * rr 2 + 0) = _; rw [e2]; rfl) i2
     simp only [List.forall_mem_cons, c_ev, c_evs, List.not_mem_nil, false_implies, implies_true, and_true, e3, e4, e7, e8, er] at q4
     exact ⟨rr 10, rr 11, c1, c2, by omega⟩)
theorem k_writeC {w w' : cWld} {a so si : Nat} {x1 x2 v s z r : Int} (h : c_Post k_c125_3 (k_rv [(a : Int), x1, x2, v, (so : Int), (si : Int), s, z]) w w' [r]) : (r = 1 ∧ (0 ≤ s ∧ 0 ≤ x2 ∧ x2 < z)) ∨ (r = 0 ∧ ¬ (0 ≤ s ∧ 0 ≤ x2 ∧ x2 < z)) := by
  obtain ⟨-, -, d, hd, rr, q1, q2, q3, q4, -⟩ := h
  have e1 : rr 1 = (a : Int) := q1 1 (by decide)
  have e2 : rr 2 = x1 := q1 2 (by decide)
  have e3 : rr 3 = x2 := q1 3 (by decide)
  have e4 : rr 4 = v := q1 4 (by decide)
  have e5 : rr 5 = (so : Int) := q1 5 (by decide)
  have e6 : rr 6 = (si : Int) := q1 6 (by decide)
  have e7 : rr 7 = s := q1 7 (by decide)
  have e8 : rr 8 = z := q1 8 (by decide)
  have er : rr 9 = r := q2 0 _ rfl
  have hd : d ∈ ct_post k_c125_3 := hd
  simp only [ct_post, k_c125_3, List.mem_cons, List.not_mem_nil, or_false] at hd
  rcases hd with rfl | rfl | rfl | rfl | rfl | rfl | rfl <;>
    (simp only [List.forall_mem_cons, c_ev, c_evs, List.not_mem_nil, false_implies, implies_true, and_true, e3, e7, e8, er] at q4
     omega)
theorem k_writeM {w w' : cWld} {a tm : Nat} {x1 x2 v m r : Int} (h : c_Post k_c213_3 (k_rv [(a : Int), x1, x2, v, (tm : Int), m]) w w' [r]) : (r = 1 ∧ (0 ≤ x2 ∧ x2 < m)) ∨ (r = 0 ∧ ¬ (0 ≤ x2 ∧ x2 < m)) := by
  obtain ⟨-, -, d, hd, rr, q1, q2, q3, q4, -⟩ := h
  have e1 : rr 1 = (a : Int) := q1 1 (by decide)
  have e2 : rr 2 = x1 := q1 2 (by decide)
  have e3 : rr 3 = x2 := q1 3 (by decide)
  have e4 : rr 4 = v := q1 4 (by decide)
  have e5 : rr 5 = (tm : Int) := q1 5 (by decide)
  have e6 : rr 6 = m := q1 6 (by decide)
  have er : rr 7 = r := q2 0 _ rfl
  have hd : d ∈ ct_post k_c213_3 := hd
  simp only [ct_post, k_c213_3, List.mem_cons, List.not_mem_nil, or_false] at hd
  rcases hd with rfl | rfl | rfl | rfl <;>
    (simp only [List.forall_mem_cons, c_ev, c_evs, List.not_mem_nil, false_implies, implies_true, and_true, e3, e6, er] at q4
     omega)
theorem k_pourC {w w' : cWld} {a so si : Nat} {x1 x2 x3 x4 x5 s z s2 z2 r : Int} (h : c_Post k_c128_5 (k_rv [(a : Int), x1, x2, x3, x4, x5, (so : Int), (si : Int), s, z, s2, z2]) w w' [r]) : (r = 1 ∧ (0 ≤ s ∧ 0 ≤ s2 ∧ s = s2 ∧ 0 ≤ x5 ∧ 0 ≤ x2 ∧ 0 ≤ x4 ∧ x2 + x5 ≤ z ∧ x4 + x5 ≤ z2)) ∨ (r = 0 ∧ ¬ (0 ≤ s ∧ 0 ≤ s2 ∧ s = s2 ∧ 0 ≤ x5 ∧ 0 ≤ x2 ∧ 0 ≤ x4 ∧ x2 + x5 ≤ z ∧ x4 + x5 ≤ z2)) := by
  obtain ⟨-, -, d, hd, rr, q1, q2, q3, q4, -⟩ := h
  have e1 : rr 1 = (a : Int) := q1 1 (by decide)
  have e2 : rr 2 = x1 := q1 2 (by decide)
  have e3 : rr 3 = x2 := q1 3 (by decide)
  have e4 : rr 4 = x3 := q1 4 (by decide)
  have e5 : rr 5 = x4 := q1 5 (by decide)
  have e6 : rr 6 = x5 := q1 6 (by decide)
  have e7 : rr 7 = (so : Int) := q1 7 (by decide)
  have e8 : rr 8 = (si : Int) := q1 8 (by decide)
  have e9 : rr 9 = s := q1 9 (by decide)
  have e10 : rr 10 = z := q1 10 (by decide)
  have e11 : rr 11 = s2 := q1 11 (by decide)
  have e12 : rr 12 = z2 := q1 12 (by decide)
  have er : rr 13 = r := q2 0 _ rfl
  have hd : d ∈ ct_post k_c128_5 := hd
  simp only [ct_post, k_c128_5, List.mem_cons, List.not_mem_nil, or_false] at hd
  rcases hd with rfl | rfl | rfl | rfl | rfl | rfl | rfl <;>
    (simp only [List.forall_mem_cons, c_ev, c_evs, List.not_mem_nil, false_implies, implies_true, and_true, e3, e5, e6, e9, e10, e11, e12, er] at q4
     omega)
theorem k_pourM {w w' : cWld} {a tm ts : Nat} {x1 x2 x3 x4 x5 m u m2 u2 r : Int} (h : c_Post k_c215_5 (k_rv [(a : Int), x1, x2, x3, x4, x5, (tm : Int), (ts : Int), m, u, m2, u2]) w w' [r]) : (r = 1 ∧ (0 ≤ m ∧ 0 ≤ m2 ∧ u = u2 ∧ 0 ≤ x5 ∧ 0 ≤ x2 ∧ 0 ≤ x4 ∧ x2 + x5 ≤ m ∧ x4 + x5 ≤ m2)) ∨ (r = 0 ∧ ¬ (0 ≤ m ∧ 0 ≤ m2 ∧ u = u2 ∧ 0 ≤ x5 ∧ 0 ≤ x2 ∧ 0 ≤ x4 ∧ x2 + x5 ≤ m ∧ x4 + x5 ≤ m2)) := by
  obtain ⟨-, -, d, hd, rr, q1, q2, q3, q4, -⟩ := h
  have e1 : rr 1 = (a : Int) := q1 1 (by decide)
  have e2 : rr 2 = x1 := q1 2 (by decide)
  have e3 : rr 3 = x2 := q1 3 (by decide)
  have e4 : rr 4 = x3 := q1 4 (by decide)
  have e5 : rr 5 = x4 := q1 5 (by decide)
  have e6 : rr 6 = x5 := q1 6 (by decide)
  have e7 : rr 7 = (tm : Int) := q1 7 (by decide)
  have e8 : rr 8 = (ts : Int) := q1 8 (by decide)
  have e9 : rr 9 = m := q1 9 (by decide)
  have e10 : rr 10 = u := q1 10 (by decide)
  have e11 : rr 11 = m2 := q1 11 (by decide)
  have e12 : rr 12 = u2 := q1 12 (by decide)
  have er : rr 13 = r := q2 0 _ rfl
  have hd : d ∈ ct_post k_c215_5 := hd
  simp only [ct_post, k_c215_5, List.mem_cons, List.not_mem_nil, or_false] at hd
  rcases hd with rfl | rfl | rfl | rfl | rfl | rfl | rfl | rfl <;>
    (simp only [List.forall_mem_cons, c_ev, c_evs, List.not_mem_nil, false_implies, implies_true, and_true, e3, e5, e6, e9, e10, e11, e12, er] at q4
     omega)
theorem k_writeCL {w w' : cWld} {a : Nat} {x1 x2 x3 r : Int} (h : c_Post k_c125_1 (k_rv [(a : Int), x1, x2, x3]) w w' [r]) : r = 0 := by
  obtain ⟨-, -, d, hd, rr, q1, q2, q3, q4, -⟩ := h
  have er : rr 5 = r := q2 0 _ rfl
  have hd : d ∈ ct_post k_c125_1 := hd
  simp only [ct_post, k_c125_1, List.mem_cons, List.not_mem_nil, or_false] at hd
  rcases hd with rfl <;>
    (simp only [List.forall_mem_cons, c_ev, c_evs, List.not_mem_nil, false_implies, implies_true, and_true, er] at q4
     omega)
theorem k_writeML {w w' : cWld} {a : Nat} {x1 x2 x3 r : Int} (h : c_Post k_c213_1 (k_rv [(a : Int), x1, x2, x3]) w w' [r]) : r = 0 := by
  obtain ⟨-, -, d, hd, rr, q1, q2, q3, q4, -⟩ := h
  have er : rr 5 = r := q2 0 _ rfl
  have hd : d ∈ ct_post k_c213_1 := hd
  simp only [ct_post, k_c213_1, List.mem_cons, List.not_mem_nil, or_false] at hd
  rcases hd with rfl <;>
    (simp only [List.forall_mem_cons, c_ev, c_evs, List.not_mem_nil, false_implies, implies_true, and_true, er] at q4
     omega)
theorem k_writeCH {w w' : cWld} {a : Nat} {x1 x2 x3 r : Int} (h : c_Post k_c125_2 (k_rv [(a : Int), x1, x2, x3]) w w' [r]) : r = 0 := by
  obtain ⟨-, -, d, hd, rr, q1, q2, q3, q4, -⟩ := h
  have er : rr 5 = r := q2 0 _ rfl
  have hd : d ∈ ct_post k_c125_2 := hd
  simp only [ct_post, k_c125_2, List.mem_cons, List.not_mem_nil, or_false] at hd
  rcases hd with rfl <;>
    (simp only [List.forall_mem_cons, c_ev, c_evs, List.not_mem_nil, false_implies, implies_true, and_true, er] at q4
     omega)
theorem k_writeMH {w w' : cWld} {a : Nat} {x1 x2 x3 r : Int} (h : c_Post k_c213_2 (k_rv [(a : Int), x1, x2, x3]) w w' [r]) : r = 0 := by
  obtain ⟨-, -, d, hd, rr, q1, q2, q3, q4, -⟩ := h
  have er : rr 5 = r := q2 0 _ rfl
  have hd : d ∈ ct_post k_c213_2 := hd
  simp only [ct_post, k_c213_2, List.mem_cons, List.not_mem_nil, or_false] at hd
  rcases hd with rfl <;>
    (simp only [List.forall_mem_cons, c_ev, c_evs, List.not_mem_nil, false_implies, implies_true, and_true, er] at q4
     omega)
theorem k_pourCL {w w' : cWld} {a : Nat} {x1 x2 x3 x4 x5 r : Int} (h : c_Post k_c128_1 (k_rv [(a : Int), x1, x2, x3, x4, x5]) w w' [r]) : r = 0 := by
  obtain ⟨-, -, d, hd, rr, q1, q2, q3, q4, -⟩ := h
  have er : rr 7 = r := q2 0 _ rfl
  have hd : d ∈ ct_post k_c128_1 := hd
  simp only [ct_post, k_c128_1, List.mem_cons, List.not_mem_nil, or_false] at hd
  rcases hd with rfl <;>
    (simp only [List.forall_mem_cons, c_ev, c_evs, List.not_mem_nil, false_implies, implies_true, and_true, er] at q4
     omega)
theorem k_pourML {w w' : cWld} {a : Nat} {x1 x2 x3 x4 x5 r : Int} (h : c_Post k_c215_1 (k_rv [(a : Int), x1, x2, x3, x4, x5]) w w' [r]) : r = 0 := by
  obtain ⟨-, -, d, hd, rr, q1, q2, q3, q4, -⟩ := h
  have er : rr 7 = r := q2 0 _ rfl
  have hd : d ∈ ct_post k_c215_1 := hd
  simp only [ct_post, k_c215_1, List.mem_cons, List.not_mem_nil, or_false] at hd
  rcases hd with rfl <;>
    (simp only [List.forall_mem_cons, c_ev, c_evs, List.not_mem_nil, false_implies, implies_true, and_true, er] at q4
     omega)
theorem k_pourCH {w w' : cWld} {a : Nat} {x1 x2 x3 x4 x5 r : Int} (h : c_Post k_c128_2 (k_rv [(a : Int), x1, x2, x3, x4, x5]) w w' [r]) : r = 0 := by
  obtain ⟨-, -, d, hd, rr, q1, q2, q3, q4, -⟩ := h
  have er : rr 7 = r := q2 0 _ rfl
  have hd : d ∈ ct_post k_c128_2 := hd
  simp only [ct_post, k_c128_2, List.mem_cons, List.not_mem_nil, or_false] at hd
  rcases hd with rfl <;>
    (simp only [List.forall_mem_cons, c_ev, c_evs, List.not_mem_nil, false_implies, implies_true, and_true, er] at q4
     omega)
theorem k_pourMH {w w' : cWld} {a : Nat} {x1 x2 x3 x4 x5 r : Int} (h : c_Post k_c215_2 (k_rv [(a : Int), x1, x2, x3, x4, x5]) w w' [r]) : r = 0 := by
  obtain ⟨-, -, d, hd, rr, q1, q2, q3, q4, -⟩ := h
  have er : rr 7 = r := q2 0 _ rfl
  have hd : d ∈ ct_post k_c215_2 := hd
  simp only [ct_post, k_c215_2, List.mem_cons, List.not_mem_nil, or_false] at hd
  rcases hd with rfl <;>
    (simp only [List.forall_mem_cons, c_ev, c_evs, List.not_mem_nil, false_implies, implies_true, and_true, er] at q4
     omega)
theorem k_pourCML {w w' : cWld} {a : Nat} {x1 x2 x3 x4 x5 r : Int} (h : c_Post k_c128_3 (k_rv [(a : Int), x1, x2, x3, x4, x5]) w w' [r]) : r = 0 := by
  obtain ⟨-, -, d, hd, rr, q1, q2, q3, q4, -⟩ := h
  have er : rr 7 = r := q2 0 _ rfl
  have hd : d ∈ ct_post k_c128_3 := hd
  simp only [ct_post, k_c128_3, List.mem_cons, List.not_mem_nil, or_false] at hd
  rcases hd with rfl <;>
    (simp only [List.forall_mem_cons, c_ev, c_evs, List.not_mem_nil, false_implies, implies_true, and_true, er] at q4
     omega)
theorem k_pourMML {w w' : cWld} {a : Nat} {x1 x2 x3 x4 x5 r : Int} (h : c_Post k_c215_3 (k_rv [(a : Int), x1, x2, x3, x4, x5]) w w' [r]) : r = 0 := by
  obtain ⟨-, -, d, hd, rr, q1, q2, q3, q4, -⟩ := h
  have er : rr 7 = r := q2 0 _ rfl
  have hd : d ∈ ct_post k_c215_3 := hd
  simp only [ct_post, k_c215_3, List.mem_cons, List.not_mem_nil, or_false] at hd
  rcases hd with rfl <;>
    (simp only [List.forall_mem_cons, c_ev, c_evs, List.not_mem_nil, false_implies, implies_true, and_true, er] at q4
     omega)
theorem k_pourCMH {w w' : cWld} {a : Nat} {x1 x2 x3 x4 x5 r : Int} (h : c_Post k_c128_4 (k_rv [(a : Int), x1, x2, x3, x4, x5]) w w' [r]) : r = 0 := by
  obtain ⟨-, -, d, hd, rr, q1, q2, q3, q4, -⟩ := h
  have er : rr 7 = r := q2 0 _ rfl
  have hd : d ∈ ct_post k_c128_4 := hd
  simp only [ct_post, k_c128_4, List.mem_cons, List.not_mem_nil, or_false] at hd
  rcases hd with rfl <;>
    (simp only [List.forall_mem_cons, c_ev, c_evs, List.not_mem_nil, false_implies, implies_true, and_true, er] at q4
     omega)
theorem k_pourMMH {w w' : cWld} {a : Nat} {x1 x2 x3 x4 x5 r : Int} (h : c_Post k_c215_4 (k_rv [(a : Int), x1, x2, x3, x4, x5]) w w' [r]) : r = 0 := by
  obtain ⟨-, -, d, hd, rr, q1, q2, q3, q4, -⟩ := h
  have er : rr 7 = r := q2 0 _ rfl
  have hd : d ∈ ct_post k_c215_4 := hd
  simp only [ct_post, k_c215_4, List.mem_cons, List.not_mem_nil, or_false] at hd
  rcases hd with rfl <;>
    (simp only [List.forall_mem_cons, c_ev, c_evs, List.not_mem_nil, false_implies, implies_true, and_true, er] at q4
     omega)
theorem k_pourCMa {w w' : cWld} {a so si : Nat} {x1 x2 x3 x4 x5 s z s2 z2 r : Int} (h : c_Post k_c128_6 (k_rv [(a : Int), x1, x2, x3, x4, x5, (so : Int), (si : Int), s, z, s2, z2]) w w' [r]) : r = 0 := by
  obtain ⟨-, -, d, hd, rr, q1, q2, q3, q4, -⟩ := h
  have er : rr 13 = r := q2 0 _ rfl
  have hd : d ∈ ct_post k_c128_6 := hd
  simp only [ct_post, k_c128_6, List.mem_cons, List.not_mem_nil, or_false] at hd
  rcases hd with rfl | rfl <;>
    (simp only [List.forall_mem_cons, c_ev, c_evs, List.not_mem_nil, false_implies, implies_true, and_true, er] at q4
     omega)
theorem k_pourMMa {w w' : cWld} {a tm ts : Nat} {x1 x2 x3 x4 x5 m u m2 u2 r : Int} (h : c_Post k_c215_6 (k_rv [(a : Int), x1, x2, x3, x4, x5, (tm : Int), (ts : Int), m, u, m2, u2]) w w' [r]) : r = 0 := by
  obtain ⟨-, -, d, hd, rr, q1, q2, q3, q4, -⟩ := h
  have er : rr 13 = r := q2 0 _ rfl
  have hd : d ∈ ct_post k_c215_6 := hd
  simp only [ct_post, k_c215_6, List.mem_cons, List.not_mem_nil, or_false] at hd
  rcases hd with rfl | rfl | rfl <;>
    (simp only [List.forall_mem_cons, c_ev, c_evs, List.not_mem_nil, false_implies, implies_true, and_true, er] at q4
     omega)
theorem k_pourCMc {w w' : cWld} {a so si : Nat} {x1 x2 x3 x4 x5 s z s2 z2 r : Int} (h : c_Post k_c128_7 (k_rv [(a : Int), x1, x2, x3, x4, x5, (so : Int), (si : Int), s, z, s2, z2]) w w' [r]) : r = 0 := by
  obtain ⟨-, -, d, hd, rr, q1, q2, q3, q4, -⟩ := h
  have er : rr 13 = r := q2 0 _ rfl
  have hd : d ∈ ct_post k_c128_7 := hd
  simp only [ct_post, k_c128_7, List.mem_cons, List.not_mem_nil, or_false] at hd
  rcases hd with rfl | rfl <;>
    (simp only [List.forall_mem_cons, c_ev, c_evs, List.not_mem_nil, false_implies, implies_true, and_true, er] at q4
     omega)
theorem k_pourMMc {w w' : cWld} {a tm ts : Nat} {x1 x2 x3 x4 x5 m u m2 u2 r : Int} (h : c_Post k_c215_7 (k_rv [(a : Int), x1, x2, x3, x4, x5, (tm : Int), (ts : Int), m, u, m2, u2]) w w' [r]) : r = 0 := by
  obtain ⟨-, -, d, hd, rr, q1, q2, q3, q4, -⟩ := h
  have er : rr 13 = r := q2 0 _ rfl
  have hd : d ∈ ct_post k_c215_7 := hd
  simp only [ct_post, k_c215_7, List.mem_cons, List.not_mem_nil, or_false] at hd
  rcases hd with rfl | rfl | rfl <;>
    (simp only [List.forall_mem_cons, c_ev, c_evs, List.not_mem_nil, false_implies, implies_true, and_true, er] at q4
     omega)
set_option maxRecDepth 20000 in
theorem j_pm123_0 : j_c123_0 ∈ j_P.2.1 123 := by
  have h : j_P.2.1 123 = [j_c123_0, j_c123_1, j_c123_2, j_c123_3, j_c123_4, j_c123_5] := by rfl
  rw [h]
  exact List.mem_cons_self
set_option maxRecDepth 20000 in
theorem j_pm123_1 : j_c123_1 ∈ j_P.2.1 123 := by
  have h : j_P.2.1 123 = [j_c123_0, j_c123_1, j_c123_2, j_c123_3, j_c123_4, j_c123_5] := by rfl
  rw [h]
  exact List.mem_cons_of_mem _ (List.mem_cons_self)
set_option maxRecDepth 20000 in
theorem j_pm123_2 : j_c123_2 ∈ j_P.2.1 123 := by
  have h : j_P.2.1 123 = [j_c123_0, j_c123_1, j_c123_2, j_c123_3, j_c123_4, j_c123_5] := by rfl
  rw [h]
  exact List.mem_cons_of_mem _ (List.mem_cons_of_mem _ (List.mem_cons_self))
set_option maxRecDepth 20000 in
theorem j_pm123_3 : j_c123_3 ∈ j_P.2.1 123 := by
  have h : j_P.2.1 123 = [j_c123_0, j_c123_1, j_c123_2, j_c123_3, j_c123_4, j_c123_5] := by rfl
  rw [h]
  exact List.mem_cons_of_mem _ (List.mem_cons_of_mem _ (List.mem_cons_of_mem _ (List.mem_cons_self)))
set_option maxRecDepth 20000 in
theorem j_pm125_0 : j_c125_0 ∈ j_P.2.1 125 := by
  have h : j_P.2.1 125 = [j_c125_0, j_c125_1, j_c125_2, j_c125_3, j_c125_4, j_c125_5, j_c125_6, j_c125_7, j_c125_8, j_c125_9, j_c125_10, j_c125_11, j_c125_12, j_c125_13, j_c125_14, j_c125_15] := by rfl
  rw [h]
  exact List.mem_cons_self
set_option maxRecDepth 20000 in
theorem j_pm125_1 : j_c125_1 ∈ j_P.2.1 125 := by
  have h : j_P.2.1 125 = [j_c125_0, j_c125_1, j_c125_2, j_c125_3, j_c125_4, j_c125_5, j_c125_6, j_c125_7, j_c125_8, j_c125_9, j_c125_10, j_c125_11, j_c125_12, j_c125_13, j_c125_14, j_c125_15] := by rfl
  rw [h]
  exact List.mem_cons_of_mem _ (List.mem_cons_self)
set_option maxRecDepth 20000 in
theorem j_pm125_2 : j_c125_2 ∈ j_P.2.1 125 := by
  have h : j_P.2.1 125 = [j_c125_0, j_c125_1, j_c125_2, j_c125_3, j_c125_4, j_c125_5, j_c125_6, j_c125_7, j_c125_8, j_c125_9, j_c125_10, j_c125_11, j_c125_12, j_c125_13, j_c125_14, j_c125_15] := by rfl
  rw [h]
  exact List.mem_cons_of_mem _ (List.mem_cons_of_mem _ (List.mem_cons_self))
set_option maxRecDepth 20000 in
theorem j_pm125_3 : j_c125_3 ∈ j_P.2.1 125 := by
  have h : j_P.2.1 125 = [j_c125_0, j_c125_1, j_c125_2, j_c125_3, j_c125_4, j_c125_5, j_c125_6, j_c125_7, j_c125_8, j_c125_9, j_c125_10, j_c125_11, j_c125_12, j_c125_13, j_c125_14, j_c125_15] := by rfl
  rw [h]
  exact List.mem_cons_of_mem _ (List.mem_cons_of_mem _ (List.mem_cons_of_mem _ (List.mem_cons_self)))
set_option maxRecDepth 20000 in
theorem j_pm125_4 : j_c125_4 ∈ j_P.2.1 125 := by
  have h : j_P.2.1 125 = [j_c125_0, j_c125_1, j_c125_2, j_c125_3, j_c125_4, j_c125_5, j_c125_6, j_c125_7, j_c125_8, j_c125_9, j_c125_10, j_c125_11, j_c125_12, j_c125_13, j_c125_14, j_c125_15] := by rfl
  rw [h]
  exact List.mem_cons_of_mem _ (List.mem_cons_of_mem _ (List.mem_cons_of_mem _ (List.mem_cons_of_mem _ (List.mem_cons_self))))
set_option maxRecDepth 20000 in
theorem j_pm125_5 : j_c125_5 ∈ j_P.2.1 125 := by
  have h : j_P.2.1 125 = [j_c125_0, j_c125_1, j_c125_2, j_c125_3, j_c125_4, j_c125_5, j_c125_6, j_c125_7, j_c125_8, j_c125_9, j_c125_10, j_c125_11, j_c125_12, j_c125_13, j_c125_14, j_c125_15] := by rfl
  rw [h]
  exact List.mem_cons_of_mem _ (List.mem_cons_of_mem _ (List.mem_cons_of_mem _ (List.mem_cons_of_mem _ (List.mem_cons_of_mem _ (List.mem_cons_self)))))
set_option maxRecDepth 20000 in
theorem j_pm125_6 : j_c125_6 ∈ j_P.2.1 125 := by
  have h : j_P.2.1 125 = [j_c125_0, j_c125_1, j_c125_2, j_c125_3, j_c125_4, j_c125_5, j_c125_6, j_c125_7, j_c125_8, j_c125_9, j_c125_10, j_c125_11, j_c125_12, j_c125_13, j_c125_14, j_c125_15] := by rfl
  rw [h]
  exact List.mem_cons_of_mem _ (List.mem_cons_of_mem _ (List.mem_cons_of_mem _ (List.mem_cons_of_mem _ (List.mem_cons_of_mem _ (List.mem_cons_of_mem _ (List.mem_cons_self))))))
set_option maxRecDepth 20000 in
theorem j_pm125_7 : j_c125_7 ∈ j_P.2.1 125 := by
  have h : j_P.2.1 125 = [j_c125_0, j_c125_1, j_c125_2, j_c125_3, j_c125_4, j_c125_5, j_c125_6, j_c125_7, j_c125_8, j_c125_9, j_c125_10, j_c125_11, j_c125_12, j_c125_13, j_c125_14, j_c125_15] := by rfl
  rw [h]
  exact List.mem_cons_of_mem _ (List.mem_cons_of_mem _ (List.mem_cons_of_mem _ (List.mem_cons_of_mem _ (List.mem_cons_of_mem _ (List.mem_cons_of_mem _ (List.mem_cons_of_mem _ (List.mem_cons_self)))))))
set_option maxRecDepth 20000 in
theorem j_pm125_8 : j_c125_8 ∈ j_P.2.1 125 := by
  have h : j_P.2.1 125 = [j_c125_0, j_c125_1, j_c125_2, j_c125_3, j_c125_4, j_c125_5, j_c125_6, j_c125_7, j_c125_8, j_c125_9, j_c125_10, j_c125_11, j_c125_12, j_c125_13, j_c125_14, j_c125_15] := by rfl
  rw [h]
  exact List.mem_cons_of_mem _ (List.mem_cons_of_mem _ (List.mem_cons_of_mem _ (List.mem_cons_of_mem _ (List.mem_cons_of_mem _ (List.mem_cons_of_mem _ (List.mem_cons_of_mem _ (List.mem_cons_of_mem _ (List.mem_cons_self))))))))
set_option maxRecDepth 20000 in
theorem j_pm125_9 : j_c125_9 ∈ j_P.2.1 125 := by
  have h : j_P.2.1 125 = [j_c125_0, j_c125_1, j_c125_2, j_c125_3, j_c125_4, j_c125_5, j_c125_6, j_c125_7, j_c125_8, j_c125_9, j_c125_10, j_c125_11, j_c125_12, j_c125_13, j_c125_14, j_c125_15] := by rfl
  rw [h]
  exact List.mem_cons_of_mem _ (List.mem_cons_of_mem _ (List.mem_cons_of_mem _ (List.mem_cons_of_mem _ (List.mem_cons_of_mem _ (List.mem_cons_of_mem _ (List.mem_cons_of_mem _ (List.mem_cons_of_mem _ (List.mem_cons_of_mem _ (List.mem_cons_self)))))))))
set_option maxRecDepth 20000 in
theorem j_pm125_10 : j_c125_10 ∈ j_P.2.1 125 := by
  have h : j_P.2.1 125 = [j_c125_0, j_c125_1, j_c125_2, j_c125_3, j_c125_4, j_c125_5, j_c125_6, j_c125_7, j_c125_8, j_c125_9, j_c125_10, j_c125_11, j_c125_12, j_c125_13, j_c125_14, j_c125_15] := by rfl
  rw [h]
  exact List.mem_cons_of_mem _ (List.mem_cons_of_mem _ (List.mem_cons_of_mem _ (List.mem_cons_of_mem _ (List.mem_cons_of_mem _ (List.mem_cons_of_mem _ (List.mem_cons_of_mem _ (List.mem_cons_of_mem _ (List.mem_cons_of_mem _ (List.mem_cons_of_mem _ (List.mem_cons_self))))))))))
set_option maxRecDepth 20000 in
theorem j_pm125_11 : j_c125_11 ∈ j_P.2.1 125 := by
  have h : j_P.2.1 125 = [j_c125_0, j_c125_1, j_c125_2, j_c125_3, j_c125_4, j_c125_5, j_c125_6, j_c125_7, j_c125_8, j_c125_9, j_c125_10, j_c125_11, j_c125_12, j_c125_13, j_c125_14, j_c125_15] := by rfl
  rw [h]
  exact List.mem_cons_of_mem _ (List.mem_cons_of_mem _ (List.mem_cons_of_mem _ (List.mem_cons_of_mem _ (List.mem_cons_of_mem _ (List.mem_cons_of_mem _ (List.mem_cons_of_mem _ (List.mem_cons_of_mem _ (List.mem_cons_of_mem _ (List.mem_cons_of_mem _ (List.mem_cons_of_mem _ (List.mem_cons_self)))))))))))
set_option maxRecDepth 20000 in
theorem j_pm125_12 : j_c125_12 ∈ j_P.2.1 125 := by
  have h : j_P.2.1 125 = [j_c125_0, j_c125_1, j_c125_2, j_c125_3, j_c125_4, j_c125_5, j_c125_6, j_c125_7, j_c125_8, j_c125_9, j_c125_10, j_c125_11, j_c125_12, j_c125_13, j_c125_14, j_c125_15] := by rfl
  rw [h]
  exact List.mem_cons_of_mem _ (List.mem_cons_of_mem _ (List.mem_cons_of_mem _ (List.mem_cons_of_mem _ (List.mem_cons_of_mem _ (List.mem_cons_of_mem _ (List.mem_cons_of_mem _ (List.mem_cons_of_mem _ (List.mem_cons_of_mem _ (List.mem_cons_of_mem _ (List.mem_cons_of_mem _ (List.mem_cons_of_mem _ (List.mem_cons_self))))))))))))
set_option maxRecDepth 20000 in
theorem j_pm125_13 : j_c125_13 ∈ j_P.2.1 125 := by
  have h : j_P.2.1 125 = [j_c125_0, j_c125_1, j_c125_2, j_c125_3, j_c125_4, j_c125_5, j_c125_6, j_c125_7, j_c125_8, j_c125_9, j_c125_10, j_c125_11, j_c125_12, j_c125_13, j_c125_14, j_c125_15] := by rfl
  rw [h]
  exact List.mem_cons_of_mem _ (List.mem_cons_of_mem _ (List.mem_cons_of_mem _ (List.mem_cons_of_mem _ (List.mem_cons_of_mem _ (List.mem_cons_of_mem _ (List.mem_cons_of_mem _ (List.mem_cons_of_mem _ (List.mem_cons_of_mem _ (List.mem_cons_of_mem _ (List.mem_cons_of_mem _ (List.mem_cons_of_mem _ (List.mem_cons_of_mem _ (List.mem_cons_self)))))))))))))
set_option maxRecDepth 20000 in
theorem j_pm127_0 : j_c127_0 ∈ j_P.2.1 127 := by
  have h : j_P.2.1 127 = [j_c127_0, j_c127_1, j_c127_2, j_c127_3, j_c127_4, j_c127_5, j_c127_6, j_c127_7, j_c127_8, j_c127_9, j_c127_10, j_c127_11, j_c127_12, j_c127_13] := by rfl
  rw [h]
  exact List.mem_cons_self
set_option maxRecDepth 20000 in
theorem j_pm127_1 : j_c127_1 ∈ j_P.2.1 127 := by
  have h : j_P.2.1 127 = [j_c127_0, j_c127_1, j_c127_2, j_c127_3, j_c127_4, j_c127_5, j_c127_6, j_c127_7, j_c127_8, j_c127_9, j_c127_10, j_c127_11, j_c127_12, j_c127_13] := by rfl
  rw [h]
  exact List.mem_cons_of_mem _ (List.mem_cons_self)
set_option maxRecDepth 20000 in
theorem j_pm127_2 : j_c127_2 ∈ j_P.2.1 127 := by
  have h : j_P.2.1 127 = [j_c127_0, j_c127_1, j_c127_2, j_c127_3, j_c127_4, j_c127_5, j_c127_6, j_c127_7, j_c127_8, j_c127_9, j_c127_10, j_c127_11, j_c127_12, j_c127_13] := by rfl
  rw [h]
  exact List.mem_cons_of_mem _ (List.mem_cons_of_mem _ (List.mem_cons_self))
set_option maxRecDepth 20000 in
theorem j_pm127_3 : j_c127_3 ∈ j_P.2.1 127 := by
  have h : j_P.2.1 127 = [j_c127_0, j_c127_1, j_c127_2, j_c127_3, j_c127_4, j_c127_5, j_c127_6, j_c127_7, j_c127_8, j_c127_9, j_c127_10, j_c127_11, j_c127_12, j_c127_13] := by rfl
  rw [h]
  exact List.mem_cons_of_mem _ (List.mem_cons_of_mem _ (List.mem_cons_of_mem _ (List.mem_cons_self)))
set_option maxRecDepth 20000 in
theorem j_pm127_4 : j_c127_4 ∈ j_P.2.1 127 := by
  have h : j_P.2.1 127 = [j_c127_0, j_c127_1, j_c127_2, j_c127_3, j_c127_4, j_c127_5, j_c127_6, j_c127_7, j_c127_8, j_c127_9, j_c127_10, j_c127_11, j_c127_12, j_c127_13] := by rfl
  rw [h]
  exact List.mem_cons_of_mem _ (List.mem_cons_of_mem _ (List.mem_cons_of_mem _ (List.mem_cons_of_mem _ (List.mem_cons_self))))
set_option maxRecDepth 20000 in
theorem j_pm127_5 : j_c127_5 ∈ j_P.2.1 127 := by
  have h : j_P.2.1 127 = [j_c127_0, j_c127_1, j_c127_2, j_c127_3, j_c127_4, j_c127_5, j_c127_6, j_c127_7, j_c127_8, j_c127_9, j_c127_10, j_c127_11, j_c127_12, j_c127_13] := by rfl
  rw [h]
  exact List.mem_cons_of_mem _ (List.mem_cons_of_mem _ (List.mem_cons_of_mem _ (List.mem_cons_of_mem _ (List.mem_cons_of_mem _ (List.mem_cons_self)))))
set_option maxRecDepth 20000 in
theorem j_pm127_6 : j_c127_6 ∈ j_P.2.1 127 := by
  have h : j_P.2.1 127 = [j_c127_0, j_c127_1, j_c127_2, j_c127_3, j_c127_4, j_c127_5, j_c127_6, j_c127_7, j_c127_8, j_c127_9, j_c127_10, j_c127_11, j_c127_12, j_c127_13] := by rfl
  rw [h]
  exact List.mem_cons_of_mem _ (List.mem_cons_of_mem _ (List.mem_cons_of_mem _ (List.mem_cons_of_mem _ (List.mem_cons_of_mem _ (List.mem_cons_of_mem _ (List.mem_cons_self))))))
set_option maxRecDepth 20000 in
theorem j_pm127_7 : j_c127_7 ∈ j_P.2.1 127 := by
  have h : j_P.2.1 127 = [j_c127_0, j_c127_1, j_c127_2, j_c127_3, j_c127_4, j_c127_5, j_c127_6, j_c127_7, j_c127_8, j_c127_9, j_c127_10, j_c127_11, j_c127_12, j_c127_13] := by rfl
  rw [h]
  exact List.mem_cons_of_mem _ (List.mem_cons_of_mem _ (List.mem_cons_of_mem _ (List.mem_cons_of_mem _ (List.mem_cons_of_mem _ (List.mem_cons_of_mem _ (List.mem_cons_of_mem _ (List.mem_cons_self)))))))
set_option maxRecDepth 20000 in
theorem j_pm127_8 : j_c127_8 ∈ j_P.2.1 127 := by
  have h : j_P.2.1 127 = [j_c127_0, j_c127_1, j_c127_2, j_c127_3, j_c127_4, j_c127_5, j_c127_6, j_c127_7, j_c127_8, j_c127_9, j_c127_10, j_c127_11, j_c127_12, j_c127_13] := by rfl
  rw [h]
  exact List.mem_cons_of_mem _ (List.mem_cons_of_mem _ (List.mem_cons_of_mem _ (List.mem_cons_of_mem _ (List.mem_cons_of_mem _ (List.mem_cons_of_mem _ (List.mem_cons_of_mem _ (List.mem_cons_of_mem _ (List.mem_cons_self))))))))
set_option maxRecDepth 20000 in
theorem j_pm127_9 : j_c127_9 ∈ j_P.2.1 127 := by
  have h : j_P.2.1 127 = [j_c127_0, j_c127_1, j_c127_2, j_c127_3, j_c127_4, j_c127_5, j_c127_6, j_c127_7, j_c127_8, j_c127_9, j_c127_10, j_c127_11, j_c127_12, j_c127_13] := by rfl
  rw [h]
  exact List.mem_cons_of_mem _ (List.mem_cons_of_mem _ (List.mem_cons_of_mem _ (List.mem_cons_of_mem _ (List.mem_cons_of_mem _ (List.mem_cons_of_mem _ (List.mem_cons_of_mem _ (List.mem_cons_of_mem _ (List.mem_cons_of_mem _ (List.mem_cons_self)))))))))
set_option maxRecDepth 20000 in
theorem j_pm127_10 : j_c127_10 ∈ j_P.2.1 127 := by
  have h : j_P.2.1 127 = [j_c127_0, j_c127_1, j_c127_2, j_c127_3, j_c127_4, j_c127_5, j_c127_6, j_c127_7, j_c127_8, j_c127_9, j_c127_10, j_c127_11, j_c127_12, j_c127_13] := by rfl
  rw [h]
  exact List.mem_cons_of_mem _ (List.mem_cons_of_mem _ (List.mem_cons_of_mem _ (List.mem_cons_of_mem _ (List.mem_cons_of_mem _ (List.mem_cons_of_mem _ (List.mem_cons_of_mem _ (List.mem_cons_of_mem _ (List.mem_cons_of_mem _ (List.mem_cons_of_mem _ (List.mem_cons_self))))))))))
set_option maxRecDepth 20000 in
theorem j_pm127_11 : j_c127_11 ∈ j_P.2.1 127 := by
  have h : j_P.2.1 127 = [j_c127_0, j_c127_1, j_c127_2, j_c127_3, j_c127_4, j_c127_5, j_c127_6, j_c127_7, j_c127_8, j_c127_9, j_c127_10, j_c127_11, j_c127_12, j_c127_13] := by rfl
  rw [h]
  exact List.mem_cons_of_mem _ (List.mem_cons_of_mem _ (List.mem_cons_of_mem _ (List.mem_cons_of_mem _ (List.mem_cons_of_mem _ (List.mem_cons_of_mem _ (List.mem_cons_of_mem _ (List.mem_cons_of_mem _ (List.mem_cons_of_mem _ (List.mem_cons_of_mem _ (List.mem_cons_of_mem _ (List.mem_cons_self)))))))))))
set_option maxRecDepth 20000 in
theorem j_pm127_12 : j_c127_12 ∈ j_P.2.1 127 := by
  have h : j_P.2.1 127 = [j_c127_0, j_c127_1, j_c127_2, j_c127_3, j_c127_4, j_c127_5, j_c127_6, j_c127_7, j_c127_8, j_c127_9, j_c127_10, j_c127_11, j_c127_12, j_c127_13] := by rfl
  rw [h]
  exact List.mem_cons_of_mem _ (List.mem_cons_of_mem _ (List.mem_cons_of_mem _ (List.mem_cons_of_mem _ (List.mem_cons_of_mem _ (List.mem_cons_of_mem _ (List.mem_cons_of_mem _ (List.mem_cons_of_mem _ (List.mem_cons_of_mem _ (List.mem_cons_of_mem _ (List.mem_cons_of_mem _ (List.mem_cons_of_mem _ (List.mem_cons_self))))))))))))
set_option maxRecDepth 20000 in
theorem j_pm127_13 : j_c127_13 ∈ j_P.2.1 127 := by
  have h : j_P.2.1 127 = [j_c127_0, j_c127_1, j_c127_2, j_c127_3, j_c127_4, j_c127_5, j_c127_6, j_c127_7, j_c127_8, j_c127_9, j_c127_10, j_c127_11, j_c127_12, j_c127_13] := by rfl
  rw [h]
  exact List.mem_cons_of_mem _ (List.mem_cons_of_mem _ (List.mem_cons_of_mem _ (List.mem_cons_of_mem _ (List.mem_cons_of_mem _ (List.mem_cons_of_mem _ (List.mem_cons_of_mem _ (List.mem_cons_of_mem _ (List.mem_cons_of_mem _ (List.mem_cons_of_mem _ (List.mem_cons_of_mem _ (List.mem_cons_of_mem _ (List.mem_cons_of_mem _ (List.mem_cons_self)))))))))))))
set_option maxRecDepth 20000 in
theorem j_pm128_0 : j_c128_0 ∈ j_P.2.1 128 := by
  have h : j_P.2.1 128 = [j_c128_0, j_c128_1, j_c128_2, j_c128_3, j_c128_4, j_c128_5, j_c128_6, j_c128_7, j_c128_8, j_c128_9, j_c128_10, j_c128_11, j_c128_12, j_c128_13, j_c128_14, j_c128_15, j_c128_16, j_c128_17, j_c128_18, j_c128_19, j_c128_20, j_c128_21, j_c128_22, j_c128_23, j_c128_24, j_c128_25, j_c128_26, j_c128_27, j_c128_28, j_c128_29, j_c128_30, j_c128_31, j_c128_32, j_c128_33, j_c128_34, j_c128_35, j_c128_36, j_c128_37, j_c128_38, j_c128_39, j_c128_40, j_c128_41, j_c128_42, j_c128_43, j_c128_44, j_c128_45, j_c128_46, j_c128_47, j_c128_48, j_c128_49, j_c128_50, j_c128_51, j_c128_52, j_c128_53, j_c128_54, j_c128_55, j_c128_56, j_c128_57, j_c128_58, j_c128_59, j_c128_60, j_c128_61, j_c128_62, j_c128_63, j_c128_64, j_c128_65, j_c128_66, j_c128_67] := by rfl
  rw [h]
  exact List.mem_cons_self
set_option maxRecDepth 20000 in
theorem j_pm128_1 : j_c128_1 ∈ j_P.2.1 128 := by
  have h : j_P.2.1 128 = [j_c128_0, j_c128_1, j_c128_2, j_c128_3, j_c128_4, j_c128_5, j_c128_6, j_c128_7, j_c128_8, j_c128_9, j_c128_10, j_c128_11, j_c128_12, j_c128_13, j_c128_14, j_c128_15, j_c128_16, j_c128_17, j_c128_18, j_c128_19, j_c128_20, j_c128_21, j_c128_22, j_c128_23, j_c128_24, j_c128_25, j_c128_26, j_c128_27, j_c128_28, j_c128_29, j_c128_30, j_c128_31, j_c128_32, j_c128_33, j_c128_34, j_c128_35, j_c128_36, j_c128_37, j_c128_38, j_c128_39, j_c128_40, j_c128_41, j_c128_42, j_c128_43, j_c128_44, j_c128_45, j_c128_46, j_c128_47, j_c128_48, j_c128_49, j_c128_50, j_c128_51, j_c128_52, j_c128_53, j_c128_54, j_c128_55, j_c128_56, j_c128_57, j_c128_58, j_c128_59, j_c128_60, j_c128_61, j_c128_62, j_c128_63, j_c128_64, j_c128_65, j_c128_66, j_c128_67] := by rfl
  rw [h]
  exact List.mem_cons_of_mem _ (List.mem_cons_self)
set_option maxRecDepth 20000 in
theorem j_pm128_2 : j_c128_2 ∈ j_P.2.1 128 := by
  have h : j_P.2.1 128 = [j_c128_0, j_c128_1, j_c128_2, j_c128_3, j_c128_4, j_c128_5, j_c128_6, j_c128_7, j_c128_8, j_c128_9, j_c128_10, j_c128_11, j_c128_12, j_c128_13, j_c128_14, j_c128_15, j_c128_16, j_c128_17, j_c128_18, j_c128_19, j_c128_20, j_c128_21, j_c128_22, j_c128_23, j_c128_24, j_c128_25, j_c128_26, j_c128_27, j_c128_28, j_c128_29, j_c128_30, j_c128_31, j_c128_32, j_c128_33, j_c128_34, j_c128_35, j_c128_36, j_c128_37, j_c128_38, j_c128_39, j_c128_40, j_c128_41, j_c128_42, j_c128_43, j_c128_44, j_c128_45, j_c128_46, j_c128_47, j_c128_48, j_c128_49, j_c128_50, j_c128_51, j_c128_52, j_c128_53, j_c128_54, j_c128_55, j_c128_56, j_c128_57, j_c128_58, j_c128_59, j_c128_60, j_c128_61, j_c128_62, j_c128_63, j_c128_64, j_c128_65, j_c128_66, j_c128_67] := by rfl
  rw [h]
  exact List.mem_cons_of_mem _ (List.mem_cons_of_mem _ (List.mem_cons_self))
set_option maxRecDepth 20000 in
theorem j_pm128_3 : j_c128_3 ∈ j_P.2.1 128 := by
  have h : j_P.2.1 128 = [j_c128_0, j_c128_1, j_c128_2, j_c128_3, j_c128_4, j_c128_5, j_c128_6, j_c128_7, j_c128_8, j_c128_9, j_c128_10, j_c128_11, j_c128_12, j_c128_13, j_c128_14, j_c128_15, j_c128_16, j_c128_17, j_c128_18, j_c128_19, j_c128_20, j_c128_21, j_c128_22, j_c128_23, j_c128_24, j_c128_25, j_c128_26, j_c128_27, j_c128_28, j_c128_29, j_c128_30, j_c128_31, j_c128_32, j_c128_33, j_c128_34, j_c128_35, j_c128_36, j_c128_37, j_c128_38, j_c128_39, j_c128_40, j_c128_41, j_c128_42, j_c128_43, j_c128_44, j_c128_45, j_c128_46, j_c128_47, j_c128_48, j_c128_49, j_c128_50, j_c128_51, j_c128_52, j_c128_53, j_c128_54, j_c128_55, j_c128_56, j_c128_57, j_c128_58, j_c128_59, j_c128_60, j_c128_61, j_c128_62, j_c128_63, j_c128_64, j_c128_65, j_c128_66, j_c128_67] := by rfl
  rw [h]
  exact List.mem_cons_of_mem _ (List.mem_cons_of_mem _ (List.mem_cons_of_mem _ (List.mem_cons_self)))
set_option maxRecDepth 20000 in
theorem j_pm128_4 : j_c128_4 ∈ j_P.2.1 128 := by
  have h : j_P.2.1 128 = [j_c128_0, j_c128_1, j_c128_2, j_c128_3, j_c128_4, j_c128_5, j_c128_6, j_c128_7, j_c128_8, j_c128_9, j_c128_10, j_c128_11, j_c128_12, j_c128_13, j_c128_14, j_c128_15, j_c128_16, j_c128_17, j_c128_18, j_c128_19, j_c128_20, j_c128_21, j_c128_22, j_c128_23, j_c128_24, j_c128_25, j_c128_26, j_c128_27, j_c128_28, j_c128_29, j_c128_30, j_c128_31, j_c128_32, j_c128_33, j_c128_34, j_c128_35, j_c128_36, j_c128_37, j_c128_38, j_c128_39, j_c128_40, j_c128_41, j_c128_42, j_c128_43, j_c128_44, j_c128_45, j_c128_46, j_c128_47, j_c128_48, j_c128_49, j_c128_50, j_c128_51, j_c128_52, j_c128_53, j_c128_54, j_c128_55, j_c128_56, j_c128_57, j_c128_58, j_c128_59, j_c128_60, j_c128_61, j_c128_62, j_c128_63, j_c128_64, j_c128_65, j_c128_66, j_c128_67] := by rfl
  rw [h]
  exact List.mem_cons_of_mem _ (List.mem_cons_of_mem _ (List.mem_cons_of_mem _ (List.mem_cons_of_mem _ (List.mem_cons_self))))
set_option maxRecDepth 20000 in
theorem j_pm128_5 : j_c128_5 ∈ j_P.2.1 128 := by
  have h : j_P.2.1 128 = [j_c128_0, j_c128_1, j_c128_2, j_c128_3, j_c128_4, j_c128_5, j_c128_6, j_c128_7, j_c128_8, j_c128_9, j_c128_10, j_c128_11, j_c128_12, j_c128_13, j_c128_14, j_c128_15, j_c128_16, j_c128_17, j_c128_18, j_c128_19, j_c128_20, j_c128_21, j_c128_22, j_c128_23, j_c128_24, j_c128_25, j_c128_26, j_c128_27, j_c128_28, j_c128_29, j_c128_30, j_c128_31, j_c128_32, j_c128_33, j_c128_34, j_c128_35, j_c128_36, j_c128_37, j_c128_38, j_c128_39, j_c128_40, j_c128_41, j_c128_42, j_c128_43, j_c128_44, j_c128_45, j_c128_46, j_c128_47, j_c128_48, j_c128_49, j_c128_50, j_c128_51, j_c128_52, j_c128_53, j_c128_54, j_c128_55, j_c128_56, j_c128_57, j_c128_58, j_c128_59, j_c128_60, j_c128_61, j_c128_62, j_c128_63, j_c128_64, j_c128_65, j_c128_66, j_c128_67] := by rfl
  rw [h]
  exact List.mem_cons_of_mem _ (List.mem_cons_of_mem _ (List.mem_cons_of_mem _ (List.mem_cons_of_mem _ (List.mem_cons_of_mem _ (List.mem_cons_self)))))
set_option maxRecDepth 20000 in
theorem j_pm128_6 : j_c128_6 ∈ j_P.2.1 128 := by
  have h : j_P.2.1 128 = [j_c128_0, j_c128_1, j_c128_2, j_c128_3, j_c128_4, j_c128_5, j_c128_6, j_c128_7, j_c128_8, j_c128_9, j_c128_10, j_c128_11, j_c128_12, j_c128_13, j_c128_14, j_c128_15, j_c128_16, j_c128_17, j_c128_18, j_c128_19, j_c128_20, j_c128_21, j_c128_22, j_c128_23, j_c128_24, j_c128_25, j_c128_26, j_c128_27, j_c128_28, j_c128_29, j_c128_30, j_c128_31, j_c128_32, j_c128_33, j_c128_34, j_c128_35, j_c128_36, j_c128_37, j_c128_38, j_c128_39, j_c128_40, j_c128_41, j_c128_42, j_c128_43, j_c128_44, j_c128_45, j_c128_46, j_c128_47, j_c128_48, j_c128_49, j_c128_50, j_c128_51, j_c128_52, j_c128_53, j_c128_54, j_c128_55, j_c128_56, j_c128_57, j_c128_58, j_c128_59, j_c128_60, j_c128_61, j_c128_62, j_c128_63, j_c128_64, j_c128_65, j_c128_66, j_c128_67] := by rfl
  rw [h]
  exact List.mem_cons_of_mem _ (List.mem_cons_of_mem _ (List.mem_cons_of_mem _ (List.mem_cons_of_mem _ (List.mem_cons_of_mem _ (List.mem_cons_of_mem _ (List.mem_cons_self))))))
set_option maxRecDepth 20000 in
theorem j_pm128_7 : j_c128_7 ∈ j_P.2.1 128 := by
  have h : j_P.2.1 128 = [j_c128_0, j_c128_1, j_c128_2, j_c128_3, j_c128_4, j_c128_5, j_c128_6, j_c128_7, j_c128_8, j_c128_9, j_c128_10, j_c128_11, j_c128_12, j_c128_13, j_c128_14, j_c128_15, j_c128_16, j_c128_17, j_c128_18, j_c128_19, j_c128_20, j_c128_21, j_c128_22, j_c128_23, j_c128_24, j_c128_25, j_c128_26, j_c128_27, j_c128_28, j_c128_29, j_c128_30, j_c128_31, j_c128_32, j_c128_33, j_c128_34, j_c128_35, j_c128_36, j_c128_37, j_c128_38, j_c128_39, j_c128_40, j_c128_41, j_c128_42, j_c128_43, j_c128_44, j_c128_45, j_c128_46, j_c128_47, j_c128_48, j_c128_49, j_c128_50, j_c128_51, j_c128_52, j_c128_53, j_c128_54, j_c128_55, j_c128_56, j_c128_57, j_c128_58, j_c128_59, j_c128_60, j_c128_61, j_c128_62, j_c128_63, j_c128_64, j_c128_65, j_c128_66, j_c128_67] := by rfl
  rw [h]
  exact List.mem_cons_of_mem _ (List.mem_cons_of_mem _ (List.mem_cons_of_mem _ (List.mem_cons_of_mem _ (List.mem_cons_of_mem _ (List.mem_cons_of_mem _ (List.mem_cons_of_mem _ (List.mem_cons_self)))))))
set_option maxRecDepth 20000 in
theorem j_pm128_8 : j_c128_8 ∈ j_P.2.1 128 := by
  have h : j_P.2.1 128 = [j_c128_0, j_c128_1, j_c128_2, j_c128_3, j_c128_4, j_c128_5, j_c128_6, j_c128_7, j_c128_8, j_c128_9, j_c128_10, j_c128_11, j_c128_12, j_c128_13, j_c128_14, j_c128_15, j_c128_16, j_c128_17, j_c128_18, j_c128_19, j_c128_20, j_c128_21, j_c128_22, j_c128_23, j_c128_24, j_c128_25, j_c128_26, j_c128_27, j_c128_28, j_c128_29, j_c128_30, j_c128_31, j_c128_32, j_c128_33, j_c128_34, j_c128_35, j_c128_36, j_c128_37, j_c128_38, j_c128_39, j_c128_40, j_c128_41, j_c128_42, j_c128_43, j_c128_44, j_c128_45, j_c128_46, j_c128_47, j_c128_48, j_c128_49, j_c128_50, j_c128_51, j_c128_52, j_c128_53, j_c128_54, j_c128_55, j_c128_56, j_c128_57, j_c128_58, j_c128_59, j_c128_60, j_c128_61, j_c128_62, j_c128_63, j_c128_64, j_c128_65, j_c128_66, j_c128_67] := by rfl
  rw [h]
  exact List.mem_cons_of_mem _ (List.mem_cons_of_mem _ (List.mem_cons_of_mem _ (List.mem_cons_of_mem _ (List.mem_cons_of_mem _ (List.mem_cons_of_mem _ (List.mem_cons_of_mem _ (List.mem_cons_of_mem _ (List.mem_cons_self))))))))
set_option maxRecDepth 20000 in
theorem j_pm128_9 : j_c128_9 ∈ j_P.2.1 128 := by
  have h : j_P.2.1 128 = [j_c128_0, j_c128_1, j_c128_2, j_c128_3, j_c128_4, j_c128_5, j_c128_6, j_c128_7, j_c128_8, j_c128_9, j_c128_10, j_c128_11, j_c128_12, j_c128_13, j_c128_14, j_c128_15, j_c128_16, j_c128_17, j_c128_18, j_c128_19, j_c128_20, j_c128_21, j_c128_22, j_c128_23, j_c128_24, j_c128_25, j_c128_26, j_c128_27, j_c128_28, j_c128_29, j_c128_30, j_c128_31, j_c128_32, j_c128_33, j_c128_34, j_c128_35, j_c128_36, j_c128_37, j_c128_38, j_c128_39, j_c128_40, j_c128_41, j_c128_42, j_c128_43, j_c128_44, j_c128_45, j_c128_46, j_c128_47, j_c128_48, j_c128_49, j_c128_50, j_c128_51, j_c128_52, j_c128_53, j_c128_54, j_c128_55, j_c128_56, j_c128_57, j_c128_58, j_c128_59, j_c128_60, j_c128_61, j_c128_62, j_c128_63, j_c128_64, j_c128_65, j_c128_66, j_c128_67] := by rfl
  rw [h]
  exact List.mem_cons_of_mem _ (List.mem_cons_of_mem _ (List.mem_cons_of_mem _ (List.mem_cons_of_mem _ (List.mem_cons_of_mem _ (List.mem_cons_of_mem _ (List.mem_cons_of_mem _ (List.mem_cons_of_mem _ (List.mem_cons_of_mem _ (List.mem_cons_self)))))))))
set_option maxRecDepth 20000 in
theorem j_pm128_10 : j_c128_10 ∈ j_P.2.1 128 := by
  have h : j_P.2.1 128 = [j_c128_0, j_c128_1, j_c128_2, j_c128_3, j_c128_4, j_c128_5, j_c128_6, j_c128_7, j_c128_8, j_c128_9, j_c128_10, j_c128_11, j_c128_12, j_c128_13, j_c128_14, j_c128_15, j_c128_16, j_c128_17, j_c128_18, j_c128_19, j_c128_20, j_c128_21, j_c128_22, j_c128_23, j_c128_24, j_c128_25, j_c128_26, j_c128_27, j_c128_28, j_c128_29, j_c128_30, j_c128_31, j_c128_32, j_c128_33, j_c128_34, j_c128_35, j_c128_36, j_c128_37, j_c128_38, j_c128_39, j_c128_40, j_c128_41, j_c128_42, j_c128_43, j_c128_44, j_c128_45, j_c128_46, j_c128_47, j_c128_48, j_c128_49, j_c128_50, j_c128_51, j_c128_52, j_c128_53, j_c128_54, j_c128_55, j_c128_56, j_c128_57, j_c128_58, j_c128_59, j_c128_60, j_c128_61, j_c128_62, j_c128_63, j_c128_64, j_c128_65, j_c128_66, j_c128_67] := by rfl
  rw [h]
  exact List.mem_cons_of_mem _ (List.mem_cons_of_mem _ (List.mem_cons_of_mem _ (List.mem_cons_of_mem _ (List.mem_cons_of_mem _ (List.mem_cons_of_mem _ (List.mem_cons_of_mem _ (List.mem_cons_of_mem _ (List.mem_cons_of_mem _ (List.mem_cons_of_mem _ (List.mem_cons_self))))))))))
set_option maxRecDepth 20000 in
theorem j_pm128_11 : j_c128_11 ∈ j_P.2.1 128 := by
  have h : j_P.2.1 128 = [j_c128_0, j_c128_1, j_c128_2, j_c128_3, j_c128_4, j_c128_5, j_c128_6, j_c128_7, j_c128_8, j_c128_9, j_c128_10, j_c128_11, j_c128_12, j_c128_13, j_c128_14, j_c128_15, j_c128_16, j_c128_17, j_c128_18, j_c128_19, j_c128_20, j_c128_21, j_c128_22, j_c128_23, j_c128_24, j_c128_25, j_c128_26, j_c128_27, j_c128_28, j_c128_29, j_c128_30, j_c128_31, j_c128_32, j_c128_33, j_c128_34, j_c128_35, j_c128_36, j_c128_37, j_c128_38, j_c128_39, j_c128_40, j_c128_41, j_c128_42, j_c128_43, j_c128_44, j_c128_45, j_c128_46, j_c128_47, j_c128_48, j_c128_49, j_c128_50, j_c128_51, j_c128_52, j_c128_53, j_c128_54, j_c128_55, j_c128_56, j_c128_57, j_c128_58, j_c128_59, j_c128_60, j_c128_61, j_c128_62, j_c128_63, j_c128_64, j_c128_65, j_c128_66, j_c128_67] := by rfl
  rw [h]
  exact List.mem_cons_of_mem _ (List.mem_cons_of_mem _ (List.mem_cons_of_mem _ (List.mem_cons_of_mem _ (List.mem_cons_of_mem _ (List.mem_cons_of_mem _ (List.mem_cons_of_mem _ (List.mem_cons_of_mem _ (List.mem_cons_of_mem _ (List.mem_cons_of_mem _ (List.mem_cons_of_mem _ (List.mem_cons_self)))))))))))
set_option maxRecDepth 20000 in
theorem j_pm128_12 : j_c128_12 ∈ j_P.2.1 128 := by
  have h : j_P.2.1 128 = [j_c128_0, j_c128_1, j_c128_2, j_c128_3, j_c128_4, j_c128_5, j_c128_6, j_c128_7, j_c128_8, j_c128_9, j_c128_10, j_c128_11, j_c128_12, j_c128_13, j_c128_14, j_c128_15, j_c128_16, j_c128_17, j_c128_18, j_c128_19, j_c128_20, j_c128_21, j_c128_22, j_c128_23, j_c128_24, j_c128_25, j_c128_26, j_c128_27, j_c128_28, j_c128_29, j_c128_30, j_c128_31, j_c128_32, j_c128_33, j_c128_34, j_c128_35, j_c128_36, j_c128_37, j_c128_38, j_c128_39, j_c128_40, j_c128_41, j_c128_42, j_c128_43, j_c128_44, j_c128_45, j_c128_46, j_c128_47, j_c128_48, j_c128_49, j_c128_50, j_c128_51, j_c128_52, j_c128_53, j_c128_54, j_c128_55, j_c128_56, j_c128_57, j_c128_58, j_c128_59, j_c128_60, j_c128_61, j_c128_62, j_c128_63, j_c128_64, j_c128_65, j_c128_66, j_c128_67] := by rfl
  rw [h]
  exact List.mem_cons_of_mem _ (List.mem_cons_of_mem _ (List.mem_cons_of_mem _ (List.mem_cons_of_mem _ (List.mem_cons_of_mem _ (List.mem_cons_of_mem _ (List.mem_cons_of_mem _ (List.mem_cons_of_mem _ (List.mem_cons_of_mem _ (List.mem_cons_of_mem _ (List.mem_cons_of_mem _ (List.mem_cons_of_mem _ (List.mem_cons_self))))))))))))
set_option maxRecDepth 20000 in
theorem j_pm128_13 : j_c128_13 ∈ j_P.2.1 128 := by
  have h : j_P.2.1 128 = [j_c128_0, j_c128_1, j_c128_2, j_c128_3, j_c128_4, j_c128_5, j_c128_6, j_c128_7, j_c128_8, j_c128_9, j_c128_10, j_c128_11, j_c128_12, j_c128_13, j_c128_14, j_c128_15, j_c128_16, j_c128_17, j_c128_18, j_c128_19, j_c128_20, j_c128_21, j_c128_22, j_c128_23, j_c128_24, j_c128_25, j_c128_26, j_c128_27, j_c128_28, j_c128_29, j_c128_30, j_c128_31, j_c128_32, j_c128_33, j_c128_34, j_c128_35, j_c128_36, j_c128_37, j_c128_38, j_c128_39, j_c128_40, j_c128_41, j_c128_42, j_c128_43, j_c128_44, j_c128_45, j_c128_46, j_c128_47, j_c128_48, j_c128_49, j_c128_50, j_c128_51, j_c128_52, j_c128_53, j_c128_54, j_c128_55, j_c128_56, j_c128_57, j_c128_58, j_c128_59, j_c128_60, j_c128_61, j_c128_62, j_c128_63, j_c128_64, j_c128_65, j_c128_66, j_c128_67] := by rfl
  rw [h]
  exact List.mem_cons_of_mem _ (List.mem_cons_of_mem _ (List.mem_cons_of_mem _ (List.mem_cons_of_mem _ (List.mem_cons_of_mem _ (List.mem_cons_of_mem _ (List.mem_cons_of_mem _ (List.mem_cons_of_mem _ (List.mem_cons_of_mem _ (List.mem_cons_of_mem _ (List.mem_cons_of_mem _ (List.mem_cons_of_mem _ (List.mem_cons_of_mem _ (List.mem_cons_self)))))))))))))
set_option maxRecDepth 20000 in
theorem j_pm128_14 : j_c128_14 ∈ j_P.2.1 128 := by
  have h : j_P.2.1 128 = [j_c128_0, j_c128_1, j_c128_2, j_c128_3, j_c128_4, j_c128_5, j_c128_6, j_c128_7, j_c128_8, j_c128_9, j_c128_10, j_c128_11, j_c128_12, j_c128_13, j_c128_14, j_c128_15, j_c128_16, j_c128_17, j_c128_18, j_c128_19, j_c128_20, j_c128_21, j_c128_22, j_c128_23, j_c128_24, j_c128_25, j_c128_26, j_c128_27, j_c128_28, j_c128_29, j_c128_30, j_c128_31, j_c128_32, j_c128_33, j_c128_34, j_c128_35, j_c128_36, j_c128_37, j_c128_38, j_c128_39, j_c128_40, j_c128_41, j_c128_42, j_c128_43, j_c128_44, j_c128_45, j_c128_46, j_c128_47, j_c128_48, j_c128_49, j_c128_50, j_c128_51, j_c128_52, j_c128_53, j_c128_54, j_c128_55, j_c128_56, j_c128_57, j_c128_58, j_c128_59, j_c128_60, j_c128_61, j_c128_62, j_c128_63, j_c128_64, j_c128_65, j_c128_66, j_c128_67] := by rfl
  rw [h]
  exact List.mem_cons_of_mem _ (List.mem_cons_of_mem _ (List.mem_cons_of_mem _ (List.mem_cons_of_mem _ (List.mem_cons_of_mem _ (List.mem_cons_of_mem _ (List.mem_cons_of_mem _ (List.mem_cons_of_mem _ (List.mem_cons_of_mem _ (List.mem_cons_of_mem _ (List.mem_cons_of_mem _ (List.mem_cons_of_mem _ (List.mem_cons_of_mem _ (List.mem_cons_of_mem _ (List.mem_cons_self))))))))))))))
set_option maxRecDepth 20000 in
theorem j_pm128_15 : j_c128_15 ∈ j_P.2.1 128 := by
  have h : j_P.2.1 128 = [j_c128_0, j_c128_1, j_c128_2, j_c128_3, j_c128_4, j_c128_5, j_c128_6, j_c128_7, j_c128_8, j_c128_9, j_c128_10, j_c128_11, j_c128_12, j_c128_13, j_c128_14, j_c128_15, j_c128_16, j_c128_17, j_c128_18, j_c128_19, j_c128_20, j_c128_21, j_c128_22, j_c128_23, j_c128_24, j_c128_25, j_c128_26, j_c128_27, j_c128_28, j_c128_29, j_c128_30, j_c128_31, j_c128_32, j_c128_33, j_c128_34, j_c128_35, j_c128_36, j_c128_37, j_c128_38, j_c128_39, j_c128_40, j_c128_41, j_c128_42, j_c128_43, j_c128_44, j_c128_45, j_c128_46, j_c128_47, j_c128_48, j_c128_49, j_c128_50, j_c128_51, j_c128_52, j_c128_53, j_c128_54, j_c128_55, j_c128_56, j_c128_57, j_c128_58, j_c128_59, j_c128_60, j_c128_61, j_c128_62, j_c128_63, j_c128_64, j_c128_65, j_c128_66, j_c128_67] := by rfl
  rw [h]
  exact List.mem_cons_of_mem _ (List.mem_cons_of_mem _ (List.mem_cons_of_mem _ (List.mem_cons_of_mem _ (List.mem_cons_of_mem _ (List.mem_cons_of_mem _ (List.mem_cons_of_mem _ (List.mem_cons_of_mem _ (List.mem_cons_of_mem _ (List.mem_cons_of_mem _ (List.mem_cons_of_mem _ (List.mem_cons_of_mem _ (List.mem_cons_of_mem _ (List.mem_cons_of_mem _ (List.mem_cons_of_mem _ (List.mem_cons_self)))))))))))))))
set_option maxRecDepth 20000 in
theorem j_pm128_16 : j_c128_16 ∈ j_P.2.1 128 := by
  have h : j_P.2.1 128 = [j_c128_0, j_c128_1, j_c128_2, j_c128_3, j_c128_4, j_c128_5, j_c128_6, j_c128_7, j_c128_8, j_c128_9, j_c128_10, j_c128_11, j_c128_12, j_c128_13, j_c128_14, j_c128_15, j_c128_16, j_c128_17, j_c128_18, j_c128_19, j_c128_20, j_c128_21, j_c128_22, j_c128_23, j_c128_24, j_c128_25, j_c128_26, j_c128_27, j_c128_28, j_c128_29, j_c128_30, j_c128_31, j_c128_32, j_c128_33, j_c128_34, j_c128_35, j_c128_36, j_c128_37, j_c128_38, j_c128_39, j_c128_40, j_c128_41, j_c128_42, j_c128_43, j_c128_44, j_c128_45, j_c128_46, j_c128_47, j_c128_48, j_c128_49, j_c128_50, j_c128_51, j_c128_52, j_c128_53, j_c128_54, j_c128_55, j_c128_56, j_c128_57, j_c128_58, j_c128_59, j_c128_60, j_c128_61, j_c128_62, j_c128_63, j_c128_64, j_c128_65, j_c128_66, j_c128_67] := by rfl
  rw [h]
  exact List.mem_cons_of_mem _ (List.mem_cons_of_mem _ (List.mem_cons_of_mem _ (List.mem_cons_of_mem _ (List.mem_cons_of_mem _ (List.mem_cons_of_mem _ (List.mem_cons_of_mem _ (List.mem_cons_of_mem _ (List.mem_cons_of_mem _ (List.mem_cons_of_mem _ (List.mem_cons_of_mem _ (List.mem_cons_of_mem _ (List.mem_cons_of_mem _ (List.mem_cons_of_mem _ (List.mem_cons_of_mem _ (List.mem_cons_of_mem _ (List.mem_cons_self))))))))))))))))
set_option maxRecDepth 20000 in
theorem j_pm128_17 : j_c128_17 ∈ j_P.2.1 128 := by
  have h : j_P.2.1 128 = [j_c128_0, j_c128_1, j_c128_2, j_c128_3, j_c128_4, j_c128_5, j_c128_6, j_c128_7, j_c128_8, j_c128_9, j_c128_10, j_c128_11, j_c128_12, j_c128_13, j_c128_14, j_c128_15, j_c128_16, j_c128_17, j_c128_18, j_c128_19, j_c128_20, j_c128_21, j_c128_22, j_c128_23, j_c128_24, j_c128_25, j_c128_26, j_c128_27, j_c128_28, j_c128_29, j_c128_30, j_c128_31, j_c128_32, j_c128_33, j_c128_34, j_c128_35, j_c128_36, j_c128_37, j_c128_38, j_c128_39, j_c128_40, j_c128_41, j_c128_42, j_c128_43, j_c128_44, j_c128_45, j_c128_46, j_c128_47, j_c128_48, j_c128_49, j_c128_50, j_c128_51, j_c128_52, j_c128_53, j_c128_54, j_c128_55, j_c128_56, j_c128_57, j_c128_58, j_c128_59, j_c128_60, j_c128_61, j_c128_62, j_c128_63, j_c128_64, j_c128_65, j_c128_66, j_c128_67] := by rfl
  rw [h]
  exact List.mem_cons_of_mem _ (List.mem_cons_of_mem _ (List.mem_cons_of_mem _ (List.mem_cons_of_mem _ (List.mem_cons_of_mem _ (List.mem_cons_of_mem _ (List.mem_cons_of_mem _ (List.mem_cons_of_mem _ (List.mem_cons_of_mem _ (List.mem_cons_of_mem _ (List.mem_cons_of_mem _ (List.mem_cons_of_mem _ (List.mem_cons_of_mem _ (List.mem_cons_of_mem _ (List.mem_cons_of_mem _ (List.mem_cons_of_mem _ (List.mem_cons_of_mem _ (List.mem_cons_self)))))))))))))))))
set_option maxRecDepth 20000 in
theorem j_pm128_18 : j_c128_18 ∈ j_P.2.1 128 := by
  have h : j_P.2.1 128 = [j_c128_0, j_c128_1, j_c128_2, j_c128_3, j_c128_4, j_c128_5, j_c128_6, j_c128_7, j_c128_8, j_c128_9, j_c128_10, j_c128_11, j_c128_12, j_c128_13, j_c128_14, j_c128_15, j_c128_16, j_c128_17, j_c128_18, j_c128_19, j_c128_20, j_c128_21, j_c128_22, j_c128_23, j_c128_24, j_c128_25, j_c128_26, j_c128_27, j_c128_28, j_c128_29, j_c128_30, j_c128_31, j_c128_32, j_c128_33, j_c128_34, j_c128_35, j_c128_36, j_c128_37, j_c128_38, j_c128_39, j_c128_40, j_c128_41, j_c128_42, j_c128_43, j_c128_44, j_c128_45, j_c128_46, j_c128_47, j_c128_48, j_c128_49, j_c128_50, j_c128_51, j_c128_52, j_c128_53, j_c128_54, j_c128_55, j_c128_56, j_c128_57, j_c128_58, j_c128_59, j_c128_60, j_c128_61, j_c128_62, j_c128_63, j_c128_64, j_c128_65, j_c128_66, j_c128_67] := by rfl
  rw [h]
  exact List.mem_cons_of_mem _ (List.mem_cons_of_mem _ (List.mem_cons_of_mem _ (List.mem_cons_of_mem _ (List.mem_cons_of_mem _ (List.mem_cons_of_mem _ (List.mem_cons_of_mem _ (List.mem_cons_of_mem _ (List.mem_cons_of_mem _ (List.mem_cons_of_mem _ (List.mem_cons_of_mem _ (List.mem_cons_of_mem _ (List.mem_cons_of_mem _ (List.mem_cons_of_mem _ (List.mem_cons_of_mem _ (List.mem_cons_of_mem _ (List.mem_cons_of_mem _ (List.mem_cons_of_mem _ (List.mem_cons_self))))))))))))))))))
set_option maxRecDepth 20000 in
theorem j_pm128_19 : j_c128_19 ∈ j_P.2.1 128 := by
  have h : j_P.2.1 128 = [j_c128_0, j_c128_1, j_c128_2, j_c128_3, j_c128_4, j_c128_5, j_c128_6, j_c128_7, j_c128_8, j_c128_9, j_c128_10, j_c128_11, j_c128_12, j_c128_13, j_c128_14, j_c128_15, j_c128_16, j_c128_17, j_c128_18, j_c128_19, j_c128_20, j_c128_21, j_c128_22, j_c128_23, j_c128_24, j_c128_25, j_c128_26, j_c128_27, j_c128_28, j_c128_29, j_c128_30, j_c128_31, j_c128_32, j_c128_33, j_c128_34, j_c128_35, j_c128_36, j_c128_37, j_c128_38, j_c128_39, j_c128_40, j_c128_41, j_c128_42, j_c128_43, j_c128_44, j_c128_45, j_c128_46, j_c128_47, j_c128_48, j_c128_49, j_c128_50, j_c128_51, j_c128_52, j_c128_53, j_c128_54, j_c128_55, j_c128_56, j_c128_57, j_c128_58, j_c128_59, j_c128_60, j_c128_61, j_c128_62, j_c128_63, j_c128_64, j_c128_65, j_c128_66, j_c128_67] := by rfl
  rw [h]
  exact List.mem_cons_of_mem _ (List.mem_cons_of_mem _ (List.mem_cons_of_mem _ (List.mem_cons_of_mem _ (List.mem_cons_of_mem _ (List.mem_cons_of_mem _ (List.mem_cons_of_mem _ (List.mem_cons_of_mem _ (List.mem_cons_of_mem _ (List.mem_cons_of_mem _ (List.mem_cons_of_mem _ (List.mem_cons_of_mem _ (List.mem_cons_of_mem _ (List.mem_cons_of_mem _ (List.mem_cons_of_mem _ (List.mem_cons_of_mem _ (List.mem_cons_of_mem _ (List.mem_cons_of_mem _ (List.mem_cons_of_mem _ (List.mem_cons_self)))))))))))))))))))
set_option maxRecDepth 20000 in
theorem j_pm128_20 : j_c128_20 ∈ j_P.2.1 128 := by
  have h : j_P.2.1 128 = [j_c128_0, j_c128_1, j_c128_2, j_c128_3, j_c128_4, j_c128_5, j_c128_6, j_c128_7, j_c128_8, j_c128_9, j_c128_10, j_c128_11, j_c128_12, j_c128_13, j_c128_14, j_c128_15, j_c128_16, j_c128_17, j_c128_18, j_c128_19, j_c128_20, j_c128_21, j_c128_22, j_c128_23, j_c128_24, j_c128_25, j_c128_26, j_c128_27, j_c128_28, j_c128_29, j_c128_30, j_c128_31, j_c128_32, j_c128_33, j_c128_34, j_c128_35, j_c128_36, j_c128_37, j_c128_38, j_c128_39, j_c128_40, j_c128_41, j_c128_42, j_c128_43, j_c128_44, j_c128_45, j_c128_46, j_c128_47, j_c128_48, j_c128_49, j_c128_50, j_c128_51, j_c128_52, j_c128_53, j_c128_54, j_c128_55, j_c128_56, j_c128_57, j_c128_58, j_c128_59, j_c128_60, j_c128_61, j_c128_62, j_c128_63, j_c128_64, j_c128_65, j_c128_66, j_c128_67] := by rfl
  rw [h]
  exact List.mem_cons_of_mem _ (List.mem_cons_of_mem _ (List.mem_cons_of_mem _ (List.mem_cons_of_mem _ (List.mem_cons_of_mem _ (List.mem_cons_of_mem _ (List.mem_cons_of_mem _ (List.mem_cons_of_mem _ (List.mem_cons_of_mem _ (List.mem_cons_of_mem _ (List.mem_cons_of_mem _ (List.mem_cons_of_mem _ (List.mem_cons_of_mem _ (List.mem_cons_of_mem _ (List.mem_cons_of_mem _ (List.mem_cons_of_mem _ (List.mem_cons_of_mem _ (List.mem_cons_of_mem _ (List.mem_cons_of_mem _ (List.mem_cons_of_mem _ (List.mem_cons_self))))))))))))))))))))
set_option maxRecDepth 20000 in
theorem j_pm128_21 : j_c128_21 ∈ j_P.2.1 128 := by
  have h : j_P.2.1 128 = [j_c128_0, j_c128_1, j_c128_2, j_c128_3, j_c128_4, j_c128_5, j_c128_6, j_c128_7, j_c128_8, j_c128_9, j_c128_10, j_c128_11, j_c128_12, j_c128_13, j_c128_14, j_c128_15, j_c128_16, j_c128_17, j_c128_18, j_c128_19, j_c128_20, j_c128_21, j_c128_22, j_c128_23, j_c128_24, j_c128_25, j_c128_26, j_c128_27, j_c128_28, j_c128_29, j_c128_30, j_c128_31, j_c128_32, j_c128_33, j_c128_34, j_c128_35, j_c128_36, j_c128_37, j_c128_38, j_c128_39, j_c128_40, j_c128_41, j_c128_42, j_c128_43, j_c128_44, j_c128_45, j_c128_46, j_c128_47, j_c128_48, j_c128_49, j_c128_50, j_c128_51, j_c128_52, j_c128_53, j_c128_54, j_c128_55, j_c128_56, j_c128_57, j_c128_58, j_c128_59, j_c128_60, j_c128_61, j_c128_62, j_c128_63, j_c128_64, j_c128_65, j_c128_66, j_c128_67] := by rfl
  rw [h]
  exact List.mem_cons_of_mem _ (List.mem_cons_of_mem _ (List.mem_cons_of_mem _ (List.mem_cons_of_mem _ (List.mem_cons_of_mem _ (List.mem_cons_of_mem _ (List.mem_cons_of_mem _ (List.mem_cons_of_mem _ (List.mem_cons_of_mem _ (List.mem_cons_of_mem _ (List.mem_cons_of_mem _ (List.mem_cons_of_mem _ (List.mem_cons_of_mem _ (List.mem_cons_of_mem _ (List.mem_cons_of_mem _ (List.mem_cons_of_mem _ (List.mem_cons_of_mem _ (List.mem_cons_of_mem _ (List.mem_cons_of_mem _ (List.mem_cons_of_mem _ (List.mem_cons_of_mem _ (List.mem_cons_self)))))))))))))))))))))
set_option maxRecDepth 20000 in
theorem j_pm128_22 : j_c128_22 ∈ j_P.2.1 128 := by
  have h : j_P.2.1 128 = [j_c128_0, j_c128_1, j_c128_2, j_c128_3, j_c128_4, j_c128_5, j_c128_6, j_c128_7, j_c128_8, j_c128_9, j_c128_10, j_c128_11, j_c128_12, j_c128_13, j_c128_14, j_c128_15, j_c128_16, j_c128_17, j_c128_18, j_c128_19, j_c128_20, j_c128_21, j_c128_22, j_c128_23, j_c128_24, j_c128_25, j_c128_26, j_c128_27, j_c128_28, j_c128_29, j_c128_30, j_c128_31, j_c128_32, j_c128_33, j_c128_34, j_c128_35, j_c128_36, j_c128_37, j_c128_38, j_c128_39, j_c128_40, j_c128_41, j_c128_42, j_c128_43, j_c128_44, j_c128_45, j_c128_46, j_c128_47, j_c128_48, j_c128_49, j_c128_50, j_c128_51, j_c128_52, j_c128_53, j_c128_54, j_c128_55, j_c128_56, j_c128_57, j_c128_58, j_c128_59, j_c128_60, j_c128_61, j_c128_62, j_c128_63, j_c128_64, j_c128_65, j_c128_66, j_c128_67] := by rfl
  rw [h]
  exact List.mem_cons_of_mem _ (List.mem_cons_of_mem _ (List.mem_cons_of_mem _ (List.mem_cons_of_mem _ (List.mem_cons_of_mem _ (List.mem_cons_of_mem _ (List.mem_cons_of_mem _ (List.mem_cons_of_mem _ (List.mem_cons_of_mem _ (List.mem_cons_of_mem _ (List.mem_cons_of_mem _ (List.mem_cons_of_mem _ (List.mem_cons_of_mem _ (List.mem_cons_of_mem _ (List.mem_cons_of_mem _ (List.mem_cons_of_mem _ (List.mem_cons_of_mem _ (List.mem_cons_of_mem _ (List.mem_cons_of_mem _ (List.mem_cons_of_mem _ (List.mem_cons_of_mem _ (List.mem_cons_of_mem _ (List.mem_cons_self))))))))))))))))))))))
set_option maxRecDepth 20000 in
theorem j_pm128_23 : j_c128_23 ∈ j_P.2.1 128 := by
  have h : j_P.2.1 128 = [j_c128_0, j_c128_1, j_c128_2, j_c128_3, j_c128_4, j_c128_5, j_c128_6, j_c128_7, j_c128_8, j_c128_9, j_c128_10, j_c128_11, j_c128_12, j_c128_13, j_c128_14, j_c128_15, j_c128_16, j_c128_17, j_c128_18, j_c128_19, j_c128_20, j_c128_21, j_c128_22, j_c128_23, j_c128_24, j_c128_25, j_c128_26, j_c128_27, j_c128_28, j_c128_29, j_c128_30, j_c128_31, j_c128_32, j_c128_33, j_c128_34, j_c128_35, j_c128_36, j_c128_37, j_c128_38, j_c128_39, j_c128_40, j_c128_41, j_c128_42, j_c128_43, j_c128_44, j_c128_45, j_c128_46, j_c128_47, j_c128_48, j_c128_49, j_c128_50, j_c128_51, j_c128_52, j_c128_53, j_c128_54, j_c128_55, j_c128_56, j_c128_57, j_c128_58, j_c128_59, j_c128_60, j_c128_61, j_c128_62, j_c128_63, j_c128_64, j_c128_65, j_c128_66, j_c128_67] := by rfl
  rw [h]
  exact List.mem_cons_of_mem _ (List.mem_cons_of_mem _ (List.mem_cons_of_mem _ (List.mem_cons_of_mem _ (List.mem_cons_of_mem _ (List.mem_cons_of_mem _ (List.mem_cons_of_mem _ (List.mem_cons_of_mem _ (List.mem_cons_of_mem _ (List.mem_cons_of_mem _ (List.mem_cons_of_mem _ (List.mem_cons_of_mem _ (List.mem_cons_of_mem _ (List.mem_cons_of_mem _ (List.mem_cons_of_mem _ (List.mem_cons_of_mem _ (List.mem_cons_of_mem _ (List.mem_cons_of_mem _ (List.mem_cons_of_mem _ (List.mem_cons_of_mem _ (List.mem_cons_of_mem _ (List.mem_cons_of_mem _ (List.mem_cons_of_mem _ (List.mem_cons_self)))))))))))))))))))))))
set_option maxRecDepth 20000 in
theorem j_pm128_24 : j_c128_24 ∈ j_P.2.1 128 := by
  have h : j_P.2.1 128 = [j_c128_0, j_c128_1, j_c128_2, j_c128_3, j_c128_4, j_c128_5, j_c128_6, j_c128_7, j_c128_8, j_c128_9, j_c128_10, j_c128_11, j_c128_12, j_c128_13, j_c128_14, j_c128_15, j_c128_16, j_c128_17, j_c128_18, j_c128_19, j_c128_20, j_c128_21, j_c128_22, j_c128_23, j_c128_24, j_c128_25, j_c128_26, j_c128_27, j_c128_28, j_c128_29, j_c128_30, j_c128_31, j_c128_32, j_c128_33, j_c128_34, j_c128_35, j_c128_36, j_c128_37, j_c128_38, j_c128_39, j_c128_40, j_c128_41, j_c128_42, j_c128_43, j_c128_44, j_c128_45, j_c128_46, j_c128_47, j_c128_48, j_c128_49, j_c128_50, j_c128_51, j_c128_52, j_c128_53, j_c128_54, j_c128_55, j_c128_56, j_c128_57, j_c128_58, j_c128_59, j_c128_60, j_c128_61, j_c128_62, j_c128_63, j_c128_64, j_c128_65, j_c128_66, j_c128_67] := by rfl
  rw [h]
  exact List.mem_cons_of_mem _ (List.mem_cons_of_mem _ (List.mem_cons_of_mem _ (List.mem_cons_of_mem _ (List.mem_cons_of_mem _ (List.mem_cons_of_mem _ (List.mem_cons_of_mem _ (List.mem_cons_of_mem _ (List.mem_cons_of_mem _ (List.mem_cons_of_mem _ (List.mem_cons_of_mem _ (List.mem_cons_of_mem _ (List.mem_cons_of_mem _ (List.mem_cons_of_mem _ (List.mem_cons_of_mem _ (List.mem_cons_of_mem _ (List.mem_cons_of_mem _ (List.mem_cons_of_mem _ (List.mem_cons_of_mem _ (List.mem_cons_of_mem _ (List.mem_cons_of_mem _ (List.mem_cons_of_mem _ (List.mem_cons_of_mem _ (List.mem_cons_of_mem _ (List.mem_cons_self))))))))))))))))))))))))
set_option maxRecDepth 20000 in
theorem j_pm128_25 : j_c128_25 ∈ j_P.2.1 128 := by
  have h : j_P.2.1 128 = [j_c128_0, j_c128_1, j_c128_2, j_c128_3, j_c128_4, j_c128_5, j_c128_6, j_c128_7, j_c128_8, j_c128_9, j_c128_10, j_c128_11, j_c128_12, j_c128_13, j_c128_14, j_c128_15, j_c128_16, j_c128_17, j_c128_18, j_c128_19, j_c128_20, j_c128_21, j_c128_22, j_c128_23, j_c128_24, j_c128_25, j_c128_26, j_c128_27, j_c128_28, j_c128_29, j_c128_30, j_c128_31, j_c128_32, j_c128_33, j_c128_34, j_c128_35, j_c128_36, j_c128_37, j_c128_38, j_c128_39, j_c128_40, j_c128_41, j_c128_42, j_c128_43, j_c128_44, j_c128_45, j_c128_46, j_c128_47, j_c128_48, j_c128_49, j_c128_50, j_c128_51, j_c128_52, j_c128_53, j_c128_54, j_c128_55, j_c128_56, j_c128_57, j_c128_58, j_c128_59, j_c128_60, j_c128_61, j_c128_62, j_c128_63, j_c128_64, j_c128_65, j_c128_66, j_c128_67] := by rfl
  rw [h]
  exact List.mem_cons_of_mem _ (List.mem_cons_of_mem _ (List.mem_cons_of_mem _ (List.mem_cons_of_mem _ (List.mem_cons_of_mem _ (List.mem_cons_of_mem _ (List.mem_cons_of_mem _ (List.mem_cons_of_mem _ (List.mem_cons_of_mem _ (List.mem_cons_of_mem _ (List.mem_cons_of_mem _ (List.mem_cons_of_mem _ (List.mem_cons_of_mem _ (List.mem_cons_of_mem _ (List.mem_cons_of_mem _ (List.mem_cons_of_mem _ (List.mem_cons_of_mem _ (List.mem_cons_of_mem _ (List.mem_cons_of_mem _ (List.mem_cons_of_mem _ (List.mem_cons_of_mem _ (List.mem_cons_of_mem _ (List.mem_cons_of_mem _ (List.mem_cons_of_mem _ (List.mem_cons_of_mem _ (List.mem_cons_self)))))))))))))))))))))))))
set_option maxRecDepth 20000 in
theorem j_pm128_26 : j_c128_26 ∈ j_P.2.1 128 := by
  have h : j_P.2.1 128 = [j_c128_0, j_c128_1, j_c128_2, j_c128_3, j_c128_4, j_c128_5, j_c128_6, j_c128_7, j_c128_8, j_c128_9, j_c128_10, j_c128_11, j_c128_12, j_c128_13, j_c128_14, j_c128_15, j_c128_16, j_c128_17, j_c128_18, j_c128_19, j_c128_20, j_c128_21, j_c128_22, j_c128_23, j_c128_24, j_c128_25, j_c128_26, j_c128_27, j_c128_28, j_c128_29, j_c128_30, j_c128_31, j_c128_32, j_c128_33, j_c128_34, j_c128_35, j_c128_36, j_c128_37, j_c128_38, j_c128_39, j_c128_40, j_c128_41, j_c128_42, j_c128_43, j_c128_44, j_c128_45, j_c128_46, j_c128_47, j_c128_48, j_c128_49, j_c128_50, j_c128_51, j_c128_52, j_c128_53, j_c128_54, j_c128_55, j_c128_56, j_c128_57, j_c128_58, j_c128_59, j_c128_60, j_c128_61, j_c128_62, j_c128_63, j_c128_64, j_c128_65, j_c128_66, j_c128_67] := by rfl
  rw [h]
  exact List.mem_cons_of_mem _ (List.mem_cons_of_mem _ (List.mem_cons_of_mem _ (List.mem_cons_of_mem _ (List.mem_cons_of_mem _ (List.mem_cons_of_mem _ (List.mem_cons_of_mem _ (List.mem_cons_of_mem _ (List.mem_cons_of_mem _ (List.mem_cons_of_mem _ (List.mem_cons_of_mem _ (List.mem_cons_of_mem _ (List.mem_cons_of_mem _ (List.mem_cons_of_mem _ (List.mem_cons_of_mem _ (List.mem_cons_of_mem _ (List.mem_cons_of_mem _ (List.mem_cons_of_mem _ (List.mem_cons_of_mem _ (List.mem_cons_of_mem _ (List.mem_cons_of_mem _ (List.mem_cons_of_mem _ (List.mem_cons_of_mem _ (List.mem_cons_of_mem _ (List.mem_cons_of_mem _ (List.mem_cons_of_mem _ (List.mem_cons_self))))))))))))))))))))))))))
set_option maxRecDepth 20000 in
theorem j_pm128_27 : j_c128_27 ∈ j_P.2.1 128 := by
  have h : j_P.2.1 128 = [j_c128_0, j_c128_1, j_c128_2, j_c128_3, j_c128_4, j_c128_5, j_c128_6, j_c128_7, j_c128_8, j_c128_9, j_c128_10, j_c128_11, j_c128_12, j_c128_13, j_c128_14, j_c128_15, j_c128_16, j_c128_17, j_c128_18, j_c128_19, j_c128_20, j_c128_21, j_c128_22, j_c128_23, j_c128_24, j_c128_25, j_c128_26, j_c128_27, j_c128_28, j_c128_29, j_c128_30, j_c128_31, j_c128_32, j_c128_33, j_c128_34, j_c128_35, j_c128_36, j_c128_37, j_c128_38, j_c128_39, j_c128_40, j_c128_41, j_c128_42, j_c128_43, j_c128_44, j_c128_45, j_c128_46, j_c128_47, j_c128_48, j_c128_49, j_c128_50, j_c128_51, j_c128_52, j_c128_53, j_c128_54, j_c128_55, j_c128_56, j_c128_57, j_c128_58, j_c128_59, j_c128_60, j_c128_61, j_c128_62, j_c128_63, j_c128_64, j_c128_65, j_c128_66, j_c128_67] := by rfl
  rw [h]
  exact List.mem_cons_of_mem _ (List.mem_cons_of_mem _ (List.mem_cons_of_mem _ (List.mem_cons_of_mem _ (List.mem_cons_of_mem _ (List.mem_cons_of_mem _ (List.mem_cons_of_mem _ (List.mem_cons_of_mem _ (List.mem_cons_of_mem _ (List.mem_cons_of_mem _ (List.mem_cons_of_mem _ (List.mem_cons_of_mem _ (List.mem_cons_of_mem _ (List.mem_cons_of_mem _ (List.mem_cons_of_mem _ (List.mem_cons_of_mem _ (List.mem_cons_of_mem _ (List.mem_cons_of_mem _ (List.mem_cons_of_mem _ (List.mem_cons_of_mem _ (List.mem_cons_of_mem _ (List.mem_cons_of_mem _ (List.mem_cons_of_mem _ (List.mem_cons_of_mem _ (List.mem_cons_of_mem _ (List.mem_cons_of_mem _ (List.mem_cons_of_mem _ (List.mem_cons_self)))))))))))))))))))))))))))
set_option maxRecDepth 20000 in
theorem j_pm128_28 : j_c128_28 ∈ j_P.2.1 128 := by
  have h : j_P.2.1 128 = [j_c128_0, j_c128_1, j_c128_2, j_c128_3, j_c128_4, j_c128_5, j_c128_6, j_c128_7, j_c128_8, j_c128_9, j_c128_10, j_c128_11, j_c128_12, j_c128_13, j_c128_14, j_c128_15, j_c128_16, j_c128_17, j_c128_18, j_c128_19, j_c128_20, j_c128_21, j_c128_22, j_c128_23, j_c128_24, j_c128_25, j_c128_26, j_c128_27, j_c128_28, j_c128_29, j_c128_30, j_c128_31, j_c128_32, j_c128_33, j_c128_34, j_c128_35, j_c128_36, j_c128_37, j_c128_38, j_c128_39, j_c128_40, j_c128_41, j_c128_42, j_c128_43, j_c128_44, j_c128_45, j_c128_46, j_c128_47, j_c128_48, j_c128_49, j_c128_50, j_c128_51, j_c128_52, j_c128_53, j_c128_54, j_c128_55, j_c128_56, j_c128_57, j_c128_58, j_c128_59, j_c128_60, j_c128_61, j_c128_62, j_c128_63, j_c128_64, j_c128_65, j_c128_66, j_c128_67] := by rfl
  rw [h]
  exact List.mem_cons_of_mem _ (List.mem_cons_of_mem _ (List.mem_cons_of_mem _ (List.mem_cons_of_mem _ (List.mem_cons_of_mem _ (List.mem_cons_of_mem _ (List.mem_cons_of_mem _ (List.mem_cons_of_mem _ (List.mem_cons_of_mem _ (List.mem_cons_of_mem _ (List.mem_cons_of_mem _ (List.mem_cons_of_mem _ (List.mem_cons_of_mem _ (List.mem_cons_of_mem _ (List.mem_cons_of_mem _ (List.mem_cons_of_mem _ (List.mem_cons_of_mem _ (List.mem_cons_of_mem _ (List.mem_cons_of_mem _ (List.mem_cons_of_mem _ (List.mem_cons_of_mem _ (List.mem_cons_of_mem _ (List.mem_cons_of_mem _ (List.mem_cons_of_mem _ (List.mem_cons_of_mem _ (List.mem_cons_of_mem _ (List.mem_cons_of_mem _ (List.mem_cons_of_mem _ (List.mem_cons_self))))))))))))))))))))))))))))
set_option maxRecDepth 20000 in
theorem j_pm128_29 : j_c128_29 ∈ j_P.2.1 128 := by
  have h : j_P.2.1 128 = [j_c128_0, j_c128_1, j_c128_2, j_c128_3, j_c128_4, j_c128_5, j_c128_6, j_c128_7, j_c128_8, j_c128_9, j_c128_10, j_c128_11, j_c128_12, j_c128_13, j_c128_14, j_c128_15, j_c128_16, j_c128_17, j_c128_18, j_c128_19, j_c128_20, j_c128_21, j_c128_22, j_c128_23, j_c128_24, j_c128_25, j_c128_26, j_c128_27, j_c128_28, j_c128_29, j_c128_30, j_c128_31, j_c128_32, j_c128_33, j_c128_34, j_c128_35, j_c128_36, j_c128_37, j_c128_38, j_c128_39, j_c128_40, j_c128_41, j_c128_42, j_c128_43, j_c128_44, j_c128_45, j_c128_46, j_c128_47, j_c128_48, j_c128_49, j_c128_50, j_c128_51, j_c128_52, j_c128_53, j_c128_54, j_c128_55, j_c128_56, j_c128_57, j_c128_58, j_c128_59, j_c128_60, j_c128_61, j_c128_62, j_c128_63, j_c128_64, j_c128_65, j_c128_66, j_c128_67] := by rfl
  rw [h]
  exact List.mem_cons_of_mem _ (List.mem_cons_of_mem _ (List.mem_cons_of_mem _ (List.mem_cons_of_mem _ (List.mem_cons_of_mem _ (List.mem_cons_of_mem _ (List.mem_cons_of_mem _ (List.mem_cons_of_mem _ (List.mem_cons_of_mem _ (List.mem_cons_of_mem _ (List.mem_cons_of_mem _ (List.mem_cons_of_mem _ (List.mem_cons_of_mem _ (List.mem_cons_of_mem _ (List.mem_cons_of_mem _ (List.mem_cons_of_mem _ (List.mem_cons_of_mem _ (List.mem_cons_of_mem _ (List.mem_cons_of_mem _ (List.mem_cons_of_mem _ (List.mem_cons_of_mem _ (List.mem_cons_of_mem _ (List.mem_cons_of_mem _ (List.mem_cons_of_mem _ (List.mem_cons_of_mem _ (List.mem_cons_of_mem _ (List.mem_cons_of_mem _ (List.mem_cons_of_mem _ (List.mem_cons_of_mem _ (List.mem_cons_self)))))))))))))))))))))))))))))
set_option maxRecDepth 20000 in
theorem j_pm128_30 : j_c128_30 ∈ j_P.2.1 128 := by
  have h : j_P.2.1 128 = [j_c128_0, j_c128_1, j_c128_2, j_c128_3, j_c128_4, j_c128_5, j_c128_6, j_c128_7, j_c128_8, j_c128_9, j_c128_10, j_c128_11, j_c128_12, j_c128_13, j_c128_14, j_c128_15, j_c128_16, j_c128_17, j_c128_18, j_c128_19, j_c128_20, j_c128_21, j_c128_22, j_c128_23, j_c128_24, j_c128_25, j_c128_26, j_c128_27, j_c128_28, j_c128_29, j_c128_30, j_c128_31, j_c128_32, j_c128_33, j_c128_34, j_c128_35, j_c128_36, j_c128_37, j_c128_38, j_c128_39, j_c128_40, j_c128_41, j_c128_42, j_c128_43, j_c128_44, j_c128_45, j_c128_46, j_c128_47, j_c128_48, j_c128_49, j_c128_50, j_c128_51, j_c128_52, j_c128_53, j_c128_54, j_c128_55, j_c128_56, j_c128_57, j_c128_58, j_c128_59, j_c128_60, j_c128_61, j_c128_62, j_c128_63, j_c128_64, j_c128_65, j_c128_66, j_c128_67] := by rfl
  rw [h]
  exact List.mem_cons_of_mem _ (List.mem_cons_of_mem _ (List.mem_cons_of_mem _ (List.mem_cons_of_mem _ (List.mem_cons_of_mem _ (List.mem_cons_of_mem _ (List.mem_cons_of_mem _ (List.mem_cons_of_mem _ (List.mem_cons_of_mem _ (List.mem_cons_of_mem _ (List.mem_cons_of_mem _ (List.mem_cons_of_mem _ (List.mem_cons_of_mem _ (List.mem_cons_of_mem _ (List.mem_cons_of_mem _ (List.mem_cons_of_mem _ (List.mem_cons_of_mem _ (List.mem_cons_of_mem _ (List.mem_cons_of_mem _ (List.mem_cons_of_mem _ (List.mem_cons_of_mem _ (List.mem_cons_of_mem _ (List.mem_cons_of_mem _ (List.mem_cons_of_mem _ (List.mem_cons_of_mem _ (List.mem_cons_of_mem _ (List.mem_cons_of_mem _ (List.mem_cons_of_mem _ (List.mem_cons_of_mem _ (List.mem_cons_of_mem _ (List.mem_cons_self))))))))))))))))))))))))))))))
set_option maxRecDepth 20000 in
theorem j_pm128_31 : j_c128_31 ∈ j_P.2.1 128 := by
  have h : j_P.2.1 128 = [j_c128_0, j_c128_1, j_c128_2, j_c128_3, j_c128_4, j_c128_5, j_c128_6, j_c128_7, j_c128_8, j_c128_9, j_c128_10, j_c128_11, j_c128_12, j_c128_13, j_c128_14, j_c128_15, j_c128_16, j_c128_17, j_c128_18, j_c128_19, j_c128_20, j_c128_21, j_c128_22, j_c128_23, j_c128_24, j_c128_25, j_c128_26, j_c128_27, j_c128_28, j_c128_29, j_c128_30, j_c128_31, j_c128_32, j_c128_33, j_c128_34, j_c128_35, j_c128_36, j_c128_37, j_c128_38, j_c128_39, j_c128_40, j_c128_41, j_c128_42, j_c128_43, j_c128_44, j_c128_45, j_c128_46, j_c128_47, j_c128_48, j_c128_49, j_c128_50, j_c128_51, j_c128_52, j_c128_53, j_c128_54, j_c128_55, j_c128_56, j_c128_57, j_c128_58, j_c128_59, j_c128_60, j_c128_61, j_c128_62, j_c128_63, j_c128_64, j_c128_65, j_c128_66, j_c128_67] := by rfl
  rw [h]
  exact List.mem_cons_of_mem _ (List.mem_cons_of_mem _ (List.mem_cons_of_mem _ (List.mem_cons_of_mem _ (List.mem_cons_of_mem _ (List.mem_cons_of_mem _ (List.mem_cons_of_mem _ (List.mem_cons_of_mem _ (List.mem_cons_of_mem _ (List.mem_cons_of_mem _ (List.mem_cons_of_mem _ (List.mem_cons_of_mem _ (List.mem_cons_of_mem _ (List.mem_cons_of_mem _ (List.mem_cons_of_mem _ (List.mem_cons_of_mem _ (List.mem_cons_of_mem _ (List.mem_cons_of_mem _ (List.mem_cons_of_mem _ (List.mem_cons_of_mem _ (List.mem_cons_of_mem _ (List.mem_cons_of_mem _ (List.mem_cons_of_mem _ (List.mem_cons_of_mem _ (List.mem_cons_of_mem _ (List.mem_cons_of_mem _ (List.mem_cons_of_mem _ (List.mem_cons_of_mem _ (List.mem_cons_of_mem _ (List.mem_cons_of_mem _ (List.mem_cons_of_mem _ (List.mem_cons_self)))))))))))))))))))))))))))))))
set_option maxRecDepth 20000 in
theorem j_pm128_32 : j_c128_32 ∈ j_P.2.1 128 := by
  have h : j_P.2.1 128 = [j_c128_0, j_c128_1, j_c128_2, j_c128_3, j_c128_4, j_c128_5, j_c128_6, j_c128_7, j_c128_8, j_c128_9, j_c128_10, j_c128_11, j_c128_12, j_c128_13, j_c128_14, j_c128_15, j_c128_16, j_c128_17, j_c128_18, j_c128_19, j_c128_20, j_c128_21, j_c128_22, j_c128_23, j_c128_24, j_c128_25, j_c128_26, j_c128_27, j_c128_28, j_c128_29, j_c128_30, j_c128_31, j_c128_32, j_c128_33, j_c128_34, j_c128_35, j_c128_36, j_c128_37, j_c128_38, j_c128_39, j_c128_40, j_c128_41, j_c128_42, j_c128_43, j_c128_44, j_c128_45, j_c128_46, j_c128_47, j_c128_48, j_c128_49, j_c128_50, j_c128_51, j_c128_52, j_c128_53, j_c128_54, j_c128_55, j_c128_56, j_c128_57, j_c128_58, j_c128_59, j_c128_60, j_c128_61, j_c128_62, j_c128_63, j_c128_64, j_c128_65, j_c128_66, j_c128_67] := by rfl
  rw [h]
  exact List.mem_cons_of_mem _ (List.mem_cons_of_mem _ (List.mem_cons_of_mem _ (List.mem_cons_of_mem _ (List.mem_cons_of_mem _ (List.mem_cons_of_mem _ (List.mem_cons_of_mem _ (List.mem_cons_of_mem _ (List.mem_cons_of_mem _ (List.mem_cons_of_mem _ (List.mem_cons_of_mem _ (List.mem_cons_of_mem _ (List.mem_cons_of_mem _ (List.mem_cons_of_mem _ (List.mem_cons_of_mem _ (List.mem_cons_of_mem _ (List.mem_cons_of_mem _ (List.mem_cons_of_mem _ (List.mem_cons_of_mem _ (List.mem_cons_of_mem _ (List.mem_cons_of_mem _ (List.mem_cons_of_mem _ (List.mem_cons_of_mem _ (List.mem_cons_of_mem _ (List.mem_cons_of_mem _ (List.mem_cons_of_mem _ (List.mem_cons_of_mem _ (List.mem_cons_of_mem _ (List.mem_cons_of_mem _ (List.mem_cons_of_mem _ (List.mem_cons_of_mem _ (List.mem_cons_of_mem _ (List.mem_cons_self))))))))))))))))))))))))))))))))
set_option maxRecDepth 20000 in
theorem j_pm128_33 : j_c128_33 ∈ j_P.2.1 128 := by
  have h : j_P.2.1 128 = [j_c128_0, j_c128_1, j_c128_2, j_c128_3, j_c128_4, j_c128_5, j_c128_6, j_c128_7, j_c128_8, j_c128_9, j_c128_10, j_c128_11, j_c128_12, j_c128_13, j_c128_14, j_c128_15, j_c128_16, j_c128_17, j_c128_18, j_c128_19, j_c128_20, j_c128_21, j_c128_22, j_c128_23, j_c128_24, j_c128_25, j_c128_26, j_c128_27, j_c128_28, j_c128_29, j_c128_30, j_c128_31, j_c128_32, j_c128_33, j_c128_34, j_c128_35, j_c128_36, j_c128_37, j_c128_38, j_c128_39, j_c128_40, j_c128_41, j_c128_42, j_c128_43, j_c128_44, j_c128_45, j_c128_46, j_c128_47, j_c128_48, j_c128_49, j_c128_50, j_c128_51, j_c128_52, j_c128_53, j_c128_54, j_c128_55, j_c128_56, j_c128_57, j_c128_58, j_c128_59, j_c128_60, j_c128_61, j_c128_62, j_c128_63, j_c128_64, j_c128_65, j_c128_66, j_c128_67] := by rfl
  rw [h]
  exact List.mem_cons_of_mem _ (List.mem_cons_of_mem _ (List.mem_cons_of_mem _ (List.mem_cons_of_mem _ (List.mem_cons_of_mem _ (List.mem_cons_of_mem _ (List.mem_cons_of_mem _ (List.mem_cons_of_mem _ (List.mem_cons_of_mem _ (List.mem_cons_of_mem _ (List.mem_cons_of_mem _ (List.mem_cons_of_mem _ (List.mem_cons_of_mem _ (List.mem_cons_of_mem _ (List.mem_cons_of_mem _ (List.mem_cons_of_mem _ (List.mem_cons_of_mem _ (List.mem_cons_of_mem _ (List.mem_cons_of_mem _ (List.mem_cons_of_mem _ (List.mem_cons_of_mem _ (List.mem_cons_of_mem _ (List.mem_cons_of_mem _ (List.mem_cons_of_mem _ (List.mem_cons_of_mem _ (List.mem_cons_of_mem _ (List.mem_cons_of_mem _ (List.mem_cons_of_mem _ (List.mem_cons_of_mem _ (List.mem_cons_of_mem _ (List.mem_cons_of_mem _ (List.mem_cons_of_mem _ (List.mem_cons_of_mem _ (List.mem_cons_self)))))))))))))))))))))))))))))))))
set_option maxRecDepth 20000 in
theorem j_pm128_34 : j_c128_34 ∈ j_P.2.1 128 := by
  have h : j_P.2.1 128 = [j_c128_0, j_c128_1, j_c128_2, j_c128_3, j_c128_4, j_c128_5, j_c128_6, j_c128_7, j_c128_8, j_c128_9, j_c128_10, j_c128_11, j_c128_12, j_c128_13, j_c128_14, j_c128_15, j_c128_16, j_c128_17, j_c128_18, j_c128_19, j_c128_20, j_c128_21, j_c128_22, j_c128_23, j_c128_24, j_c128_25, j_c128_26, j_c128_27, j_c128_28, j_c128_29, j_c128_30, j_c128_31, j_c128_32, j_c128_33, j_c128_34, j_c128_35, j_c128_36, j_c128_37, j_c128_38, j_c128_39, j_c128_40, j_c128_41, j_c128_42, j_c128_43, j_c128_44, j_c128_45, j_c128_46, j_c128_47, j_c128_48, j_c128_49, j_c128_50, j_c128_51, j_c128_52, j_c128_53, j_c128_54, j_c128_55, j_c128_56, j_c128_57, j_c128_58, j_c128_59, j_c128_60, j_c128_61, j_c128_62, j_c128_63, j_c128_64, j_c128_65, j_c128_66, j_c128_67] := by rfl
  rw [h]
  exact List.mem_cons_of_mem _ (List.mem_cons_of_mem _ (List.mem_cons_of_mem _ (List.mem_cons_of_mem _ (List.mem_cons_of_mem _ (List.mem_cons_of_mem _ (List.mem_cons_of_mem _ (List.mem_cons_of_mem _ (List.mem_cons_of_mem _ (List.mem_cons_of_mem _ (List.mem_cons_of_mem _ (List.mem_cons_of_mem _ (List.mem_cons_of_mem _ (List.mem_cons_of_mem _ (List.mem_cons_of_mem _ (List.mem_cons_of_mem _ (List.mem_cons_of_mem _ (List.mem_cons_of_mem _ (List.mem_cons_of_mem _ (List.mem_cons_of_mem _ (List.mem_cons_of_mem _ (List.mem_cons_of_mem _ (List.mem_cons_of_mem _ (List.mem_cons_of_mem _ (List.mem_cons_of_mem _ (List.mem_cons_of_mem _ (List.mem_cons_of_mem _ (List.mem_cons_of_mem _ (List.mem_cons_of_mem _ (List.mem_cons_of_mem _ (List.mem_cons_of_mem _ (List.mem_cons_of_mem _ (List.mem_cons_of_mem _ (List.mem_cons_of_mem _ (List.mem_cons_self))))))))))))))))))))))))))))))))))
set_option maxRecDepth 20000 in
theorem j_pm128_35 : j_c128_35 ∈ j_P.2.1 128 := by
  have h : j_P.2.1 128 = [j_c128_0, j_c128_1, j_c128_2, j_c128_3, j_c128_4, j_c128_5, j_c128_6, j_c128_7, j_c128_8, j_c128_9, j_c128_10, j_c128_11, j_c128_12, j_c128_13, j_c128_14, j_c128_15, j_c128_16, j_c128_17, j_c128_18, j_c128_19, j_c128_20, j_c128_21, j_c128_22, j_c128_23, j_c128_24, j_c128_25, j_c128_26, j_c128_27, j_c128_28, j_c128_29, j_c128_30, j_c128_31, j_c128_32, j_c128_33, j_c128_34, j_c128_35, j_c128_36, j_c128_37, j_c128_38, j_c128_39, j_c128_40, j_c128_41, j_c128_42, j_c128_43, j_c128_44, j_c128_45, j_c128_46, j_c128_47, j_c128_48, j_c128_49, j_c128_50, j_c128_51, j_c128_52, j_c128_53, j_c128_54, j_c128_55, j_c128_56, j_c128_57, j_c128_58, j_c128_59, j_c128_60, j_c128_61, j_c128_62, j_c128_63, j_c128_64, j_c128_65, j_c128_66, j_c128_67] := by rfl
  rw [h]
  exact List.mem_cons_of_mem _ (List.mem_cons_of_mem _ (List.mem_cons_of_mem _ (List.mem_cons_of_mem _ (List.mem_cons_of_mem _ (List.mem_cons_of_mem _ (List.mem_cons_of_mem _ (List.mem_cons_of_mem _ (List.mem_cons_of_mem _ (List.mem_cons_of_mem _ (List.mem_cons_of_mem _ (List.mem_cons_of_mem _ (List.mem_cons_of_mem _ (List.mem_cons_of_mem _ (List.mem_cons_of_mem _ (List.mem_cons_of_mem _ (List.mem_cons_of_mem _ (List.mem_cons_of_mem _ (List.mem_cons_of_mem _ (List.mem_cons_of_mem _ (List.mem_cons_of_mem _ (List.mem_cons_of_mem _ (List.mem_cons_of_mem _ (List.mem_cons_of_mem _ (List.mem_cons_of_mem _ (List.mem_cons_of_mem _ (List.mem_cons_of_mem _ (List.mem_cons_of_mem _ (List.mem_cons_of_mem _ (List.mem_cons_of_mem _ (List.mem_cons_of_mem _ (List.mem_cons_of_mem _ (List.mem_cons_of_mem _ (List.mem_cons_of_mem _ (List.mem_cons_of_mem _ (List.mem_cons_self)))))))))))))))))))))))))))))))))))
set_option maxRecDepth 20000 in
theorem j_pm128_36 : j_c128_36 ∈ j_P.2.1 128 := by
  have h : j_P.2.1 128 = [j_c128_0, j_c128_1, j_c128_2, j_c128_3, j_c128_4, j_c128_5, j_c128_6, j_c128_7, j_c128_8, j_c128_9, j_c128_10, j_c128_11, j_c128_12, j_c128_13, j_c128_14, j_c128_15, j_c128_16, j_c128_17, j_c128_18, j_c128_19, j_c128_20, j_c128_21, j_c128_22, j_c128_23, j_c128_24, j_c128_25, j_c128_26, j_c128_27, j_c128_28, j_c128_29, j_c128_30, j_c128_31, j_c128_32, j_c128_33, j_c128_34, j_c128_35, j_c128_36, j_c128_37, j_c128_38, j_c128_39, j_c128_40, j_c128_41, j_c128_42, j_c128_43, j_c128_44, j_c128_45, j_c128_46, j_c128_47, j_c128_48, j_c128_49, j_c128_50, j_c128_51, j_c128_52, j_c128_53, j_c128_54, j_c128_55, j_c128_56, j_c128_57, j_c128_58, j_c128_59, j_c128_60, j_c128_61, j_c128_62, j_c128_63, j_c128_64, j_c128_65, j_c128_66, j_c128_67] := by rfl
  rw [h]
  exact List.mem_cons_of_mem _ (List.mem_cons_of_mem _ (List.mem_cons_of_mem _ (List.mem_cons_of_mem _ (List.mem_cons_of_mem _ (List.mem_cons_of_mem _ (List.mem_cons_of_mem _ (List.mem_cons_of_mem _ (List.mem_cons_of_mem _ (List.mem_cons_of_mem _ (List.mem_cons_of_mem _ (List.mem_cons_of_mem _ (List.mem_cons_of_mem _ (List.mem_cons_of_mem _ (List.mem_cons_of_mem _ (List.mem_cons_of_mem _ (List.mem_cons_of_mem _ (List.mem_cons_of_mem _ (List.mem_cons_of_mem _ (List.mem_cons_of_mem _ (List.mem_cons_of_mem _ (List.mem_cons_of_mem _ (List.mem_cons_of_mem _ (List.mem_cons_of_mem _ (List.mem_cons_of_mem _ (List.mem_cons_of_mem _ (List.mem_cons_of_mem _ (List.mem_cons_of_mem _ (List.mem_cons_of_mem _ (List.mem_cons_of_mem _ (List.mem_cons_of_mem _ (List.mem_cons_of_mem _ (List.mem_cons_of_mem _ (List.mem_cons_of_mem _ (List.mem_cons_of_mem _ (List.mem_cons_of_mem _ (List.mem_cons_self))))))))))))))))))))))))))))))))))))
set_option maxRecDepth 20000 in
theorem j_pm128_37 : j_c128_37 ∈ j_P.2.1 128 := by
  have h : j_P.2.1 128 = [j_c128_0, j_c128_1, j_c128_2, j_c128_3, j_c128_4, j_c128_5, j_c128_6, j_c128_7, j_c128_8, j_c128_9, j_c128_10, j_c128_11, j_c128_12, j_c128_13, j_c128_14, j_c128_15, j_c128_16, j_c128_17, j_c128_18, j_c128_19, j_c128_20, j_c128_21, j_c128_22, j_c128_23, j_c128_24, j_c128_25, j_c128_26, j_c128_27, j_c128_28, j_c128_29, j_c128_30, j_c128_31, j_c128_32, j_c128_33, j_c128_34, j_c128_35, j_c128_36, j_c128_37, j_c128_38, j_c128_39, j_c128_40, j_c128_41, j_c128_42, j_c128_43, j_c128_44, j_c128_45, j_c128_46, j_c128_47, j_c128_48, j_c128_49, j_c128_50, j_c128_51, j_c128_52, j_c128_53, j_c128_54, j_c128_55, j_c128_56, j_c128_57, j_c128_58, j_c128_59, j_c128_60, j_c128_61, j_c128_62, j_c128_63, j_c128_64, j_c128_65, j_c128_66, j_c128_67] := by rfl
  rw [h]
  exact List.mem_cons_of_mem _ (List.mem_cons_of_mem _ (List.mem_cons_of_mem _ (List.mem_cons_of_mem _ (List.mem_cons_of_mem _ (List.mem_cons_of_mem _ (List.mem_cons_of_mem _ (List.mem_cons_of_mem _ (List.mem_cons_of_mem _ (List.mem_cons_of_mem _ (List.mem_cons_of_mem _ (List.mem_cons_of_mem _ (List.mem_cons_of_mem _ (List.mem_cons_of_mem _ (List.mem_cons_of_mem _ (List.mem_cons_of_mem _ (List.mem_cons_of_mem _ (List.mem_cons_of_mem _ (List.mem_cons_of_mem _ (List.mem_cons_of_mem _ (List.mem_cons_of_mem _ (List.mem_cons_of_mem _ (List.mem_cons_of_mem _ (List.mem_cons_of_mem _ (List.mem_cons_of_mem _ (List.mem_cons_of_mem _ (List.mem_cons_of_mem _ (List.mem_cons_of_mem _ (List.mem_cons_of_mem _ (List.mem_cons_of_mem _ (List.mem_cons_of_mem _ (List.mem_cons_of_mem _ (List.mem_cons_of_mem _ (List.mem_cons_of_mem _ (List.mem_cons_of_mem _ (List.mem_cons_of_mem _ (List.mem_cons_of_mem _ (List.mem_cons_self)))))))))))))))))))))))))))))))))))))
set_option maxRecDepth 20000 in
theorem j_pm128_38 : j_c128_38 ∈ j_P.2.1 128 := by
  have h : j_P.2.1 128 = [j_c128_0, j_c128_1, j_c128_2, j_c128_3, j_c128_4, j_c128_5, j_c128_6, j_c128_7, j_c128_8, j_c128_9, j_c128_10, j_c128_11, j_c128_12, j_c128_13, j_c128_14, j_c128_15, j_c128_16, j_c128_17, j_c128_18, j_c128_19, j_c128_20, j_c128_21, j_c128_22, j_c128_23, j_c128_24, j_c128_25, j_c128_26, j_c128_27, j_c128_28, j_c128_29, j_c128_30, j_c128_31, j_c128_32, j_c128_33, j_c128_34, j_c128_35, j_c128_36, j_c128_37, j_c128_38, j_c128_39, j_c128_40, j_c128_41, j_c128_42, j_c128_43, j_c128_44, j_c128_45, j_c128_46, j_c128_47, j_c128_48, j_c128_49, j_c128_50, j_c128_51, j_c128_52, j_c128_53, j_c128_54, j_c128_55, j_c128_56, j_c128_57, j_c128_58, j_c128_59, j_c128_60, j_c128_61, j_c128_62, j_c128_63, j_c128_64, j_c128_65, j_c128_66, j_c128_67] := by rfl
  rw [h]
  exact List.mem_cons_of_mem _ (List.mem_cons_of_mem _ (List.mem_cons_of_mem _ (List.mem_cons_of_mem _ (List.mem_cons_of_mem _ (List.mem_cons_of_mem _ (List.mem_cons_of_mem _ (List.mem_cons_of_mem _ (List.mem_cons_of_mem _ (List.mem_cons_of_mem _ (List.mem_cons_of_mem _ (List.mem_cons_of_mem _ (List.mem_cons_of_mem _ (List.mem_cons_of_mem _ (List.mem_cons_of_mem _ (List.mem_cons_of_mem _ (List.mem_cons_of_mem _ (List.mem_cons_of_mem _ (List.mem_cons_of_mem _ (List.mem_cons_of_mem _ (List.mem_cons_of_mem _ (List.mem_cons_of_mem _ (List.mem_cons_of_mem _ (List.mem_cons_of_mem _ (List.mem_cons_of_mem _ (List.mem_cons_of_mem _ (List.mem_cons_of_mem _ (List.mem_cons_of_mem _ (List.mem_cons_of_mem _ (List.mem_cons_of_mem _ (List.mem_cons_of_mem _ (List.mem_cons_of_mem _ (List.mem_cons_of_mem _ (List.mem_cons_of_mem _ (List.mem_cons_of_mem _ (List.mem_cons_of_mem _ (List.mem_cons_of_mem _ (List.mem_cons_of_mem _ (List.mem_cons_self))))))))))))))))))))))))))))))))))))))
set_option maxRecDepth 20000 in
theorem j_pm128_39 : j_c128_39 ∈ j_P.2.1 128 := by
  have h : j_P.2.1 128 = [j_c128_0, j_c128_1, j_c128_2, j_c128_3, j_c128_4, j_c128_5, j_c128_6, j_c128_7, j_c128_8, j_c128_9, j_c128_10, j_c128_11, j_c128_12, j_c128_13, j_c128_14, j_c128_15, j_c128_16, j_c128_17, j_c128_18, j_c128_19, j_c128_20, j_c128_21, j_c128_22, j_c128_23, j_c128_24, j_c128_25, j_c128_26, j_c128_27, j_c128_28, j_c128_29, j_c128_30, j_c128_31, j_c128_32, j_c128_33, j_c128_34, j_c128_35, j_c128_36, j_c128_37, j_c128_38, j_c128_39, j_c128_40, j_c128_41, j_c128_42, j_c128_43, j_c128_44, j_c128_45, j_c128_46, j_c128_47, j_c128_48, j_c128_49, j_c128_50, j_c128_51, j_c128_52, j_c128_53, j_c128_54, j_c128_55, j_c128_56, j_c128_57, j_c128_58, j_c128_59, j_c128_60, j_c128_61, j_c128_62, j_c128_63, j_c128_64, j_c128_65, j_c128_66, j_c128_67] := by rfl
  rw [h]
  exact List.mem_cons_of_mem _ (List.mem_cons_of_mem _ (List.mem_cons_of_mem _ (List.mem_cons_of_mem _ (List.mem_cons_of_mem _ (List.mem_cons_of_mem _ (List.mem_cons_of_mem _ (List.mem_cons_of_mem _ (List.mem_cons_of_mem _ (List.mem_cons_of_mem _ (List.mem_cons_of_mem _ (List.mem_cons_of_mem _ (List.mem_cons_of_mem _ (List.mem_cons_of_mem _ (List.mem_cons_of_mem _ (List.mem_cons_of_mem _ (List.mem_cons_of_mem _ (List.mem_cons_of_mem _ (List.mem_cons_of_mem _ (List.mem_cons_of_mem _ (List.mem_cons_of_mem _ (List.mem_cons_of_mem _ (List.mem_cons_of_mem _ (List.mem_cons_of_mem _ (List.mem_cons_of_mem _ (List.mem_cons_of_mem _ (List.mem_cons_of_mem _ (List.mem_cons_of_mem _ (List.mem_cons_of_mem _ (List.mem_cons_of_mem _ (List.mem_cons_of_mem _ (List.mem_cons_of_mem _ (List.mem_cons_of_mem _ (List.mem_cons_of_mem _ (List.mem_cons_of_mem _ (List.mem_cons_of_mem _ (List.mem_cons_of_mem _ (List.mem_cons_of_mem _ (List.mem_cons_of_mem _ (List.mem_cons_self)))))))))))))))))))))))))))))))))))))))
set_option maxRecDepth 20000 in
theorem j_pm128_40 : j_c128_40 ∈ j_P.2.1 128 := by
  have h : j_P.2.1 128 = [j_c128_0, j_c128_1, j_c128_2, j_c128_3, j_c128_4, j_c128_5, j_c128_6, j_c128_7, j_c128_8, j_c128_9, j_c128_10, j_c128_11, j_c128_12, j_c128_13, j_c128_14, j_c128_15, j_c128_16, j_c128_17, j_c128_18, j_c128_19, j_c128_20, j_c128_21, j_c128_22, j_c128_23, j_c128_24, j_c128_25, j_c128_26, j_c128_27, j_c128_28, j_c128_29, j_c128_30, j_c128_31, j_c128_32, j_c128_33, j_c128_34, j_c128_35, j_c128_36, j_c128_37, j_c128_38, j_c128_39, j_c128_40, j_c128_41, j_c128_42, j_c128_43, j_c128_44, j_c128_45, j_c128_46, j_c128_47, j_c128_48, j_c128_49, j_c128_50, j_c128_51, j_c128_52, j_c128_53, j_c128_54, j_c128_55, j_c128_56, j_c128_57, j_c128_58, j_c128_59, j_c128_60, j_c128_61, j_c128_62, j_c128_63, j_c128_64, j_c128_65, j_c128_66, j_c128_67] := by rfl
  rw [h]
  exact List.mem_cons_of_mem _ (List.mem_cons_of_mem _ (List.mem_cons_of_mem _ (List.mem_cons_of_mem _ (List.mem_cons_of_mem _ (List.mem_cons_of_mem _ (List.mem_cons_of_mem _ (List.mem_cons_of_mem _ (List.mem_cons_of_mem _ (List.mem_cons_of_mem _ (List.mem_cons_of_mem _ (List.mem_cons_of_mem _ (List.mem_cons_of_mem _ (List.mem_cons_of_mem _ (List.mem_cons_of_mem _ (List.mem_cons_of_mem _ (List.mem_cons_of_mem _ (List.mem_cons_of_mem _ (List.mem_cons_of_mem _ (List.mem_cons_of_mem _ (List.mem_cons_of_mem _ (List.mem_cons_of_mem _ (List.mem_cons_of_mem _ (List.mem_cons_of_mem _ (List.mem_cons_of_mem _ (List.mem_cons_of_mem _ (List.mem_cons_of_mem _ (List.mem_cons_of_mem _ (List.mem_cons_of_mem _ (List.mem_cons_of_mem _ (List.mem_cons_of_mem _ (List.mem_cons_of_mem _ (List.mem_cons_of_mem _ (List.mem_cons_of_mem _ (List.mem_cons_of_mem _ (List.mem_cons_of_mem _ (List.mem_cons_of_mem _ (List.mem_cons_of_mem _ (List.mem_cons_of_mem _ (List.mem_cons_of_mem _ (List.mem_cons_self))))))))))))))))))))))))))))))))))))))))
set_option maxRecDepth 20000 in
theorem j_pm128_41 : j_c128_41 ∈ j_P.2.1 128 := by
  have h : j_P.2.1 128 = [j_c128_0, j_c128_1, j_c128_2, j_c128_3, j_c128_4, j_c128_5, j_c128_6, j_c128_7, j_c128_8, j_c128_9, j_c128_10, j_c128_11, j_c128_12, j_c128_13, j_c128_14, j_c128_15, j_c128_16, j_c128_17, j_c128_18, j_c128_19, j_c128_20, j_c128_21, j_c128_22, j_c128_23, j_c128_24, j_c128_25, j_c128_26, j_c128_27, j_c128_28, j_c128_29, j_c128_30, j_c128_31, j_c128_32, j_c128_33, j_c128_34, j_c128_35, j_c128_36, j_c128_37, j_c128_38, j_c128_39, j_c128_40, j_c128_41, j_c128_42, j_c128_43, j_c128_44, j_c128_45, j_c128_46, j_c128_47, j_c128_48, j_c128_49, j_c128_50, j_c128_51, j_c128_52, j_c128_53, j_c128_54, j_c128_55, j_c128_56, j_c128_57, j_c128_58, j_c128_59, j_c128_60, j_c128_61, j_c128_62, j_c128_63, j_c128_64, j_c128_65, j_c128_66, j_c128_67] := by rfl
  rw [h]
  exact List.mem_cons_of_mem _ (List.mem_cons_of_mem _ (List.mem_cons_of_mem _ (List.mem_cons_of_mem _ (List.mem_cons_of_mem _ (List.mem_cons_of_mem _ (List.mem_cons_of_mem _ (List.mem_cons_of_mem _ (List.mem_cons_of_mem _ (List.mem_cons_of_mem _ (List.mem_cons_of_mem _ (List.mem_cons_of_mem _ (List.mem_cons_of_mem _ (List.mem_cons_of_mem _ (List.mem_cons_of_mem _ (List.mem_cons_of_mem _ (List.mem_cons_of_mem _ (List.mem_cons_of_mem _ (List.mem_cons_of_mem _ (List.mem_cons_of_mem _ (List.mem_cons_of_mem _ (List.mem_cons_of_mem _ (List.mem_cons_of_mem _ (List.mem_cons_of_mem _ (List.mem_cons_of_mem _ (List.mem_cons_of_mem _ (List.mem_cons_of_mem _ (List.mem_cons_of_mem _ (List.mem_cons_of_mem _ (List.mem_cons_of_mem _ (List.mem_cons_of_mem _ (List.mem_cons_of_mem _ (List.mem_cons_of_mem _ (List.mem_cons_of_mem _ (List.mem_cons_of_mem _ (List.mem_cons_of_mem _ (List.mem_cons_of_mem _ (List.mem_cons_of_mem _ (List.mem_cons_of_mem _ (List.mem_cons_of_mem _ (List.mem_cons_of_mem _ (List.mem_cons_self)))))))))))))))))))))))))))))))))))))))))
set_option maxRecDepth 20000 in
theorem j_pm128_42 : j_c128_42 ∈ j_P.2.1 128 := by
  have h : j_P.2.1 128 = [j_c128_0, j_c128_1, j_c128_2, j_c128_3, j_c128_4, j_c128_5, j_c128_6, j_c128_7, j_c128_8, j_c128_9, j_c128_10, j_c128_11, j_c128_12, j_c128_13, j_c128_14, j_c128_15, j_c128_16, j_c128_17, j_c128_18, j_c128_19, j_c128_20, j_c128_21, j_c128_22, j_c128_23, j_c128_24, j_c128_25, j_c128_26, j_c128_27, j_c128_28, j_c128_29, j_c128_30, j_c128_31, j_c128_32, j_c128_33, j_c128_34, j_c128_35, j_c128_36, j_c128_37, j_c128_38, j_c128_39, j_c128_40, j_c128_41, j_c128_42, j_c128_43, j_c128_44, j_c128_45, j_c128_46, j_c128_47, j_c128_48, j_c128_49, j_c128_50, j_c128_51, j_c128_52, j_c128_53, j_c128_54, j_c128_55, j_c128_56, j_c128_57, j_c128_58, j_c128_59, j_c128_60, j_c128_61, j_c128_62, j_c128_63, j_c128_64, j_c128_65, j_c128_66, j_c128_67] := by rfl
  rw [h]
  exact List.mem_cons_of_mem _ (List.mem_cons_of_mem _ (List.mem_cons_of_mem _ (List.mem_cons_of_mem _ (List.mem_cons_of_mem _ (List.mem_cons_of_mem _ (List.mem_cons_of_mem _ (List.mem_cons_of_mem _ (List.mem_cons_of_mem _ (List.mem_cons_of_mem _ (List.mem_cons_of_mem _ (List.mem_cons_of_mem _ (List.mem_cons_of_mem _ (List.mem_cons_of_mem _ (List.mem_cons_of_mem _ (List.mem_cons_of_mem _ (List.mem_cons_of_mem _ (List.mem_cons_of_mem _ (List.mem_cons_of_mem _ (List.mem_cons_of_mem _ (List.mem_cons_of_mem _ (List.mem_cons_of_mem _ (List.mem_cons_of_mem _ (List.mem_cons_of_mem _ (List.mem_cons_of_mem _ (List.mem_cons_of_mem _ (List.mem_cons_of_mem _ (List.mem_cons_of_mem _ (List.mem_cons_of_mem _ (List.mem_cons_of_mem _ (List.mem_cons_of_mem _ (List.mem_cons_of_mem _ (List.mem_cons_of_mem _ (List.mem_cons_of_mem _ (List.mem_cons_of_mem _ (List.mem_cons_of_mem _ (List.mem_cons_of_mem _ (List.mem_cons_of_mem _ (List.mem_cons_of_mem _ (List.mem_cons_of_mem _ (List.mem_cons_of_mem _ (List.mem_cons_of_mem _ (List.mem_cons_self))))))))))))))))))))))))))))))))))))))))))
set_option maxRecDepth 20000 in
theorem j_pm128_43 : j_c128_43 ∈ j_P.2.1 128 := by
  have h : j_P.2.1 128 = [j_c128_0, j_c128_1, j_c128_2, j_c128_3, j_c128_4, j_c128_5, j_c128_6, j_c128_7, j_c128_8, j_c128_9, j_c128_10, j_c128_11, j_c128_12, j_c128_13, j_c128_14, j_c128_15, j_c128_16, j_c128_17, j_c128_18, j_c128_19, j_c128_20, j_c128_21, j_c128_22, j_c128_23, j_c128_24, j_c128_25, j_c128_26, j_c128_27, j_c128_28, j_c128_29, j_c128_30, j_c128_31, j_c128_32, j_c128_33, j_c128_34, j_c128_35, j_c128_36, j_c128_37, j_c128_38, j_c128_39, j_c128_40, j_c128_41, j_c128_42, j_c128_43, j_c128_44, j_c128_45, j_c128_46, j_c128_47, j_c128_48, j_c128_49, j_c128_50, j_c128_51, j_c128_52, j_c128_53, j_c128_54, j_c128_55, j_c128_56, j_c128_57, j_c128_58, j_c128_59, j_c128_60, j_c128_61, j_c128_62, j_c128_63, j_c128_64, j_c128_65, j_c128_66, j_c128_67] := by rfl
  rw [h]
  exact List.mem_cons_of_mem _ (List.mem_cons_of_mem _ (List.mem_cons_of_mem _ (List.mem_cons_of_mem _ (List.mem_cons_of_mem _ (List.mem_cons_of_mem _ (List.mem_cons_of_mem _ (List.mem_cons_of_mem _ (List.mem_cons_of_mem _ (List.mem_cons_of_mem _ (List.mem_cons_of_mem _ (List.mem_cons_of_mem _ (List.mem_cons_of_mem _ (List.mem_cons_of_mem _ (List.mem_cons_of_mem _ (List.mem_cons_of_mem _ (List.mem_cons_of_mem _ (List.mem_cons_of_mem _ (List.mem_cons_of_mem _ (List.mem_cons_of_mem _ (List.mem_cons_of_mem _ (List.mem_cons_of_mem _ (List.mem_cons_of_mem _ (List.mem_cons_of_mem _ (List.mem_cons_of_mem _ (List.mem_cons_of_mem _ (List.mem_cons_of_mem _ (List.mem_cons_of_mem _ (List.mem_cons_of_mem _ (List.mem_cons_of_mem _ (List.mem_cons_of_mem _ (List.mem_cons_of_mem _ (List.mem_cons_of_mem _ (List.mem_cons_of_mem _ (List.mem_cons_of_mem _ (List.mem_cons_of_mem _ (List.mem_cons_of_mem _ (List.mem_cons_of_mem _ (List.mem_cons_of_mem _ (List.mem_cons_of_mem _ (List.mem_cons_of_mem _ (List.mem_cons_of_mem _ (List.mem_cons_of_mem _ (List.mem_cons_self)))))))))))))))))))))))))))))))))))))))))))
set_option maxRecDepth 20000 in
theorem j_pm128_44 : j_c128_44 ∈ j_P.2.1 128 := by
  have h : j_P.2.1 128 = [j_c128_0, j_c128_1, j_c128_2, j_c128_3, j_c128_4, j_c128_5, j_c128_6, j_c128_7, j_c128_8, j_c128_9, j_c128_10, j_c128_11, j_c128_12, j_c128_13, j_c128_14, j_c128_15, j_c128_16, j_c128_17, j_c128_18, j_c128_19, j_c128_20, j_c128_21, j_c128_22, j_c128_23, j_c128_24, j_c128_25, j_c128_26, j_c128_27, j_c128_28, j_c128_29, j_c128_30, j_c128_31, j_c128_32, j_c128_33, j_c128_34, j_c128_35, j_c128_36, j_c128_37, j_c128_38, j_c128_39, j_c128_40, j_c128_41, j_c128_42, j_c128_43, j_c128_44, j_c128_45, j_c128_46, j_c128_47, j_c128_48, j_c128_49, j_c128_50, j_c128_51, j_c128_52, j_c128_53, j_c128_54, j_c128_55, j_c128_56, j_c128_57, j_c128_58, j_c128_59, j_c128_60, j_c128_61, j_c128_62, j_c128_63, j_c128_64, j_c128_65, j_c128_66, j_c128_67] := by rfl
  rw [h]
  exact List.mem_cons_of_mem _ (List.mem_cons_of_mem _ (List.mem_cons_of_mem _ (List.mem_cons_of_mem _ (List.mem_cons_of_mem _ (List.mem_cons_of_mem _ (List.mem_cons_of_mem _ (List.mem_cons_of_mem _ (List.mem_cons_of_mem _ (List.mem_cons_of_mem _ (List.mem_cons_of_mem _ (List.mem_cons_of_mem _ (List.mem_cons_of_mem _ (List.mem_cons_of_mem _ (List.mem_cons_of_mem _ (List.mem_cons_of_mem _ (List.mem_cons_of_mem _ (List.mem_cons_of_mem _ (List.mem_cons_of_mem _ (List.mem_cons_of_mem _ (List.mem_cons_of_mem _ (List.mem_cons_of_mem _ (List.mem_cons_of_mem _ (List.mem_cons_of_mem _ (List.mem_cons_of_mem _ (List.mem_cons_of_mem _ (List.mem_cons_of_mem _ (List.mem_cons_of_mem _ (List.mem_cons_of_mem _ (List.mem_cons_of_mem _ (List.mem_cons_of_mem _ (List.mem_cons_of_mem _ (List.mem_cons_of_mem _ (List.mem_cons_of_mem _ (List.mem_cons_of_mem _ (List.mem_cons_of_mem _ (List.mem_cons_of_mem _ (List.mem_cons_of_mem _ (List.mem_cons_of_mem _ (List.mem_cons_of_mem _ (List.mem_cons_of_mem _ (List.mem_cons_of_mem _ (List.mem_cons_of_mem _ (List.mem_cons_of_mem _ (List.mem_cons_self))))))))))))))))))))))))))))))))))))))))))))
set_option maxRecDepth 20000 in
theorem j_pm128_45 : j_c128_45 ∈ j_P.2.1 128 := by
  have h : j_P.2.1 128 = [j_c128_0, j_c128_1, j_c128_2, j_c128_3, j_c128_4, j_c128_5, j_c128_6, j_c128_7, j_c128_8, j_c128_9, j_c128_10, j_c128_11, j_c128_12, j_c128_13, j_c128_14, j_c128_15, j_c128_16, j_c128_17, j_c128_18, j_c128_19, j_c128_20, j_c128_21, j_c128_22, j_c128_23, j_c128_24, j_c128_25, j_c128_26, j_c128_27, j_c128_28, j_c128_29, j_c128_30, j_c128_31, j_c128_32, j_c128_33, j_c128_34, j_c128_35, j_c128_36, j_c128_37, j_c128_38, j_c128_39, j_c128_40, j_c128_41, j_c128_42, j_c128_43, j_c128_44, j_c128_45, j_c128_46, j_c128_47, j_c128_48, j_c128_49, j_c128_50, j_c128_51, j_c128_52, j_c128_53, j_c128_54, j_c128_55, j_c128_56, j_c128_57, j_c128_58, j_c128_59, j_c128_60, j_c128_61, j_c128_62, j_c128_63, j_c128_64, j_c128_65, j_c128_66, j_c128_67] := by rfl
  rw [h]
  exact List.mem_cons_of_mem _ (List.mem_cons_of_mem _ (List.mem_cons_of_mem _ (List.mem_cons_of_mem _ (List.mem_cons_of_mem _ (List.mem_cons_of_mem _ (List.mem_cons_of_mem _ (List.mem_cons_of_mem _ (List.mem_cons_of_mem _ (List.mem_cons_of_mem _ (List.mem_cons_of_mem _ (List.mem_cons_of_mem _ (List.mem_cons_of_mem _ (List.mem_cons_of_mem _ (List.mem_cons_of_mem _ (List.mem_cons_of_mem _ (List.mem_cons_of_mem _ (List.mem_cons_of_mem _ (List.mem_cons_of_mem _ (List.mem_cons_of_mem _ (List.mem_cons_of_mem _ (List.mem_cons_of_mem _ (List.mem_cons_of_mem _ (List.mem_cons_of_mem _ (List.mem_cons_of_mem _ (List.mem_cons_of_mem _ (List.mem_cons_of_mem _ (List.mem_cons_of_mem _ (List.mem_cons_of_mem _ (List.mem_cons_of_mem _ (List.mem_cons_of_mem _ (List.mem_cons_of_mem _ (List.mem_cons_of_mem _ (List.mem_cons_of_mem _ (List.mem_cons_of_mem _ (List.mem_cons_of_mem _ (List.mem_cons_of_mem _ (List.mem_cons_of_mem _ (List.mem_cons_of_mem _ (List.mem_cons_of_mem _ (List.mem_cons_of_mem _ (List.mem_cons_of_mem _ (List.mem_cons_of_mem _ (List.mem_cons_of_mem _ (List.mem_cons_of_mem _ (List.mem_cons_self)))))))))))))))))))))))))))))))))))))))))))))
set_option maxRecDepth 20000 in
theorem j_pm128_46 : j_c128_46 ∈ j_P.2.1 128 := by
  have h : j_P.2.1 128 = [j_c128_0, j_c128_1, j_c128_2, j_c128_3, j_c128_4, j_c128_5, j_c128_6, j_c128_7, j_c128_8, j_c128_9, j_c128_10, j_c128_11, j_c128_12, j_c128_13, j_c128_14, j_c128_15, j_c128_16, j_c128_17, j_c128_18, j_c128_19, j_c128_20, j_c128_21, j_c128_22, j_c128_23, j_c128_24, j_c128_25, j_c128_26, j_c128_27, j_c128_28, j_c128_29, j_c128_30, j_c128_31, j_c128_32, j_c128_33, j_c128_34, j_c128_35, j_c128_36, j_c128_37, j_c128_38, j_c128_39, j_c128_40, j_c128_41, j_c128_42, j_c128_43, j_c128_44, j_c128_45, j_c128_46, j_c128_47, j_c128_48, j_c128_49, j_c128_50, j_c128_51, j_c128_52, j_c128_53, j_c128_54, j_c128_55, j_c128_56, j_c128_57, j_c128_58, j_c128_59, j_c128_60, j_c128_61, j_c128_62, j_c128_63, j_c128_64, j_c128_65, j_c128_66, j_c128_67] := by rfl
  rw [h]
  exact List.mem_cons_of_mem _ (List.mem_cons_of_mem _ (List.mem_cons_of_mem _ (List.mem_cons_of_mem _ (List.mem_cons_of_mem _ (List.mem_cons_of_mem _ (List.mem_cons_of_mem _ (List.mem_cons_of_mem _ (List.mem_cons_of_mem _ (List.mem_cons_of_mem _ (List.mem_cons_of_mem _ (List.mem_cons_of_mem _ (List.mem_cons_of_mem _ (List.mem_cons_of_mem _ (List.mem_cons_of_mem _ (List.mem_cons_of_mem _ (List.mem_cons_of_mem _ (List.mem_cons_of_mem _ (List.mem_cons_of_mem _ (List.mem_cons_of_mem _ (List.mem_cons_of_mem _ (List.mem_cons_of_mem _ (List.mem_cons_of_mem _ (List.mem_cons_of_mem _ (List.mem_cons_of_mem _ (List.mem_cons_of_mem _ (List.mem_cons_of_mem _ (List.mem_cons_of_mem _ (List.mem_cons_of_mem _ (List.mem_cons_of_mem _ (List.mem_cons_of_mem _ (List.mem_cons_of_mem _ (List.mem_cons_of_mem _ (List.mem_cons_of_mem _ (List.mem_cons_of_mem _ (List.mem_cons_of_mem _ (List.mem_cons_of_mem _ (List.mem_cons_of_mem _ (List.mem_cons_of_mem _ (List.mem_cons_of_mem _ (List.mem_cons_of_mem _ (List.mem_cons_of_mem _ (List.mem_cons_of_mem _ (List.mem_cons_of_mem _ (List.mem_cons_of_mem _ (List.mem_cons_of_mem _ (List.mem_cons_self))))))))))))))))))))))))))))))))))))))))))))))
set_option maxRecDepth 20000 in
theorem j_pm128_47 : j_c128_47 ∈ j_P.2.1 128 := by
  have h : j_P.2.1 128 = [j_c128_0, j_c128_1, j_c128_2, j_c128_3, j_c128_4, j_c128_5, j_c128_6, j_c128_7, j_c128_8, j_c128_9, j_c128_10, j_c128_11, j_c128_12, j_c128_13, j_c128_14, j_c128_15, j_c128_16, j_c128_17, j_c128_18, j_c128_19, j_c128_20, j_c128_21, j_c128_22, j_c128_23, j_c128_24, j_c128_25, j_c128_26, j_c128_27, j_c128_28, j_c128_29, j_c128_30, j_c128_31, j_c128_32, j_c128_33, j_c128_34, j_c128_35, j_c128_36, j_c128_37, j_c128_38, j_c128_39, j_c128_40, j_c128_41, j_c128_42, j_c128_43, j_c128_44, j_c128_45, j_c128_46, j_c128_47, j_c128_48, j_c128_49, j_c128_50, j_c128_51, j_c128_52, j_c128_53, j_c128_54, j_c128_55, j_c128_56, j_c128_57, j_c128_58, j_c128_59, j_c128_60, j_c128_61, j_c128_62, j_c128_63, j_c128_64, j_c128_65, j_c128_66, j_c128_67] := by rfl
  rw [h]
  exact List.mem_cons_of_mem _ (List.mem_cons_of_mem _ (List.mem_cons_of_mem _ (List.mem_cons_of_mem _ (List.mem_cons_of_mem _ (List.mem_cons_of_mem _ (List.mem_cons_of_mem _ (List.mem_cons_of_mem _ (List.mem_cons_of_mem _ (List.mem_cons_of_mem _ (List.mem_cons_of_mem _ (List.mem_cons_of_mem _ (List.mem_cons_of_mem _ (List.mem_cons_of_mem _ (List.mem_cons_of_mem _ (List.mem_cons_of_mem _ (List.mem_cons_of_mem _ (List.mem_cons_of_mem _ (List.mem_cons_of_mem _ (List.mem_cons_of_mem _ (List.mem_cons_of_mem _ (List.mem_cons_of_mem _ (List.mem_cons_of_mem _ (List.mem_cons_of_mem _ (List.mem_cons_of_mem _ (List.mem_cons_of_mem _ (List.mem_cons_of_mem _ (List.mem_cons_of_mem _ (List.mem_cons_of_mem _ (List.mem_cons_of_mem _ (List.mem_cons_of_mem _ (List.mem_cons_of_mem _ (List.mem_cons_of_mem _ (List.mem_cons_of_mem _ (List.mem_cons_of_mem _ (List.mem_cons_of_mem _ (List.mem_cons_of_mem _ (List.mem_cons_of_mem _ (List.mem_cons_of_mem _ (List.mem_cons_of_mem _ (List.mem_cons_of_mem _ (List.mem_cons_of_mem _ (List.mem_cons_of_mem _ (List.mem_cons_of_mem _ (List.mem_cons_of_mem _ (List.mem_cons_of_mem _ (List.mem_cons_of_mem _ (List.mem_cons_self)))))))))))))))))))))))))))))))))))))))))))))))
set_option maxRecDepth 20000 in
theorem j_pm128_48 : j_c128_48 ∈ j_P.2.1 128 := by
  have h : j_P.2.1 128 = [j_c128_0, j_c128_1, j_c128_2, j_c128_3, j_c128_4, j_c128_5, j_c128_6, j_c128_7, j_c128_8, j_c128_9, j_c128_10, j_c128_11, j_c128_12, j_c128_13, j_c128_14, j_c128_15, j_c128_16, j_c128_17, j_c128_18, j_c128_19, j_c128_20, j_c128_21, j_c128_22, j_c128_23, j_c128_24, j_c128_25, j_c128_26, j_c128_27, j_c128_28, j_c128_29, j_c128_30, j_c128_31, j_c128_32, j_c128_33, j_c128_34, j_c128_35, j_c128_36, j_c128_37, j_c128_38, j_c128_39, j_c128_40, j_c128_41, j_c128_42, j_c128_43, j_c128_44, j_c128_45, j_c128_46, j_c128_47, j_c128_48, j_c128_49, j_c128_50, j_c128_51, j_c128_52, j_c128_53, j_c128_54, j_c128_55, j_c128_56, j_c128_57, j_c128_58, j_c128_59, j_c128_60, j_c128_61, j_c128_62, j_c128_63, j_c128_64, j_c128_65, j_c128_66, j_c128_67] := by rfl
  rw [h]
  exact List.mem_cons_of_mem _ (List.mem_cons_of_mem _ (List.mem_cons_of_mem _ (List.mem_cons_of_mem _ (List.mem_cons_of_mem _ (List.mem_cons_of_mem _ (List.mem_cons_of_mem _ (List.mem_cons_of_mem _ (List.mem_cons_of_mem _ (List.mem_cons_of_mem _ (List.mem_cons_of_mem _ (List.mem_cons_of_mem _ (List.mem_cons_of_mem _ (List.mem_cons_of_mem _ (List.mem_cons_of_mem _ (List.mem_cons_of_mem _ (List.mem_cons_of_mem _ (List.mem_cons_of_mem _ (List.mem_cons_of_mem _ (List.mem_cons_of_mem _ (List.mem_cons_of_mem _ (List.mem_cons_of_mem _ (List.mem_cons_of_mem _ (List.mem_cons_of_mem _ (List.mem_cons_of_mem _ (List.mem_cons_of_mem _ (List.mem_cons_of_mem _ (List.mem_cons_of_mem _ (List.mem_cons_of_mem _ (List.mem_cons_of_mem _ (List.mem_cons_of_mem _ (List.mem_cons_of_mem _ (List.mem_cons_of_mem _ (List.mem_cons_of_mem _ (List.mem_cons_of_mem _ (List.mem_cons_of_mem _ (List.mem_cons_of_mem _ (List.mem_cons_of_mem _ (List.mem_cons_of_mem _ (List.mem_cons_of_mem _ (List.mem_cons_of_mem _ (List.mem_cons_of_mem _ (List.mem_cons_of_mem _ (List.mem_cons_of_mem _ (List.mem_cons_of_mem _ (List.mem_cons_of_mem _ (List.mem_cons_of_mem _ (List.mem_cons_of_mem _ (List.mem_cons_self))))))))))))))))))))))))))))))))))))))))))))))))
set_option maxRecDepth 20000 in
theorem j_pm128_49 : j_c128_49 ∈ j_P.2.1 128 := by
  have h : j_P.2.1 128 = [j_c128_0, j_c128_1, j_c128_2, j_c128_3, j_c128_4, j_c128_5, j_c128_6, j_c128_7, j_c128_8, j_c128_9, j_c128_10, j_c128_11, j_c128_12, j_c128_13, j_c128_14, j_c128_15, j_c128_16, j_c128_17, j_c128_18, j_c128_19, j_c128_20, j_c128_21, j_c128_22, j_c128_23, j_c128_24, j_c128_25, j_c128_26, j_c128_27, j_c128_28, j_c128_29, j_c128_30, j_c128_31, j_c128_32, j_c128_33, j_c128_34, j_c128_35, j_c128_36, j_c128_37, j_c128_38, j_c128_39, j_c128_40, j_c128_41, j_c128_42, j_c128_43, j_c128_44, j_c128_45, j_c128_46, j_c128_47, j_c128_48, j_c128_49, j_c128_50, j_c128_51, j_c128_52, j_c128_53, j_c128_54, j_c128_55, j_c128_56, j_c128_57, j_c128_58, j_c128_59, j_c128_60, j_c128_61, j_c128_62, j_c128_63, j_c128_64, j_c128_65, j_c128_66, j_c128_67] := by rfl
  rw [h]
  exact List.mem_cons_of_mem _ (List.mem_cons_of_mem _ (List.mem_cons_of_mem _ (List.mem_cons_of_mem _ (List.mem_cons_of_mem _ (List.mem_cons_of_mem _ (List.mem_cons_of_mem _ (List.mem_cons_of_mem _ (List.mem_cons_of_mem _ (List.mem_cons_of_mem _ (List.mem_cons_of_mem _ (List.mem_cons_of_mem _ (List.mem_cons_of_mem _ (List.mem_cons_of_mem _ (List.mem_cons_of_mem _ (List.mem_cons_of_mem _ (List.mem_cons_of_mem _ (List.mem_cons_of_mem _ (List.mem_cons_of_mem _ (List.mem_cons_of_mem _ (List.mem_cons_of_mem _ (List.mem_cons_of_mem _ (List.mem_cons_of_mem _ (List.mem_cons_of_mem _ (List.mem_cons_of_mem _ (List.mem_cons_of_mem _ (List.mem_cons_of_mem _ (List.mem_cons_of_mem _ (List.mem_cons_of_mem _ (List.mem_cons_of_mem _ (List.mem_cons_of_mem _ (List.mem_cons_of_mem _ (List.mem_cons_of_mem _ (List.mem_cons_of_mem _ (List.mem_cons_of_mem _ (List.mem_cons_of_mem _ (List.mem_cons_of_mem _ (List.mem_cons_of_mem _ (List.mem_cons_of_mem _ (List.mem_cons_of_mem _ (List.mem_cons_of_mem _ (List.mem_cons_of_mem _ (List.mem_cons_of_mem _ (List.mem_cons_of_mem _ (List.mem_cons_of_mem _ (List.mem_cons_of_mem _ (List.mem_cons_of_mem _ (List.mem_cons_of_mem _ (List.mem_cons_of_mem _ (List.mem_cons_self)))))))))))))))))))))))))))))))))))))))))))))))))
set_option maxRecDepth 20000 in
theorem j_pm128_50 : j_c128_50 ∈ j_P.2.1 128 := by
  have h : j_P.2.1 128 = [j_c128_0, j_c128_1, j_c128_2, j_c128_3, j_c128_4, j_c128_5, j_c128_6, j_c128_7, j_c128_8, j_c128_9, j_c128_10, j_c128_11, j_c128_12, j_c128_13, j_c128_14, j_c128_15, j_c128_16, j_c128_17, j_c128_18, j_c128_19, j_c128_20, j_c128_21, j_c128_22, j_c128_23, j_c128_24, j_c128_25, j_c128_26, j_c128_27, j_c128_28, j_c128_29, j_c128_30, j_c128_31, j_c128_32, j_c128_33, j_c128_34, j_c128_35, j_c128_36, j_c128_37, j_c128_38, j_c128_39, j_c128_40, j_c128_41, j_c128_42, j_c128_43, j_c128_44, j_c128_45, j_c128_46, j_c128_47, j_c128_48, j_c128_49, j_c128_50, j_c128_51, j_c128_52, j_c128_53, j_c128_54, j_c128_55, j_c128_56, j_c128_57, j_c128_58, j_c128_59, j_c128_60, j_c128_61, j_c128_62, j_c128_63, j_c128_64, j_c128_65, j_c128_66, j_c128_67] := by rfl
  rw [h]
  exact List.mem_cons_of_mem _ (List.mem_cons_of_mem _ (List.mem_cons_of_mem _ (List.mem_cons_of_mem _ (List.mem_cons_of_mem _ (List.mem_cons_of_mem _ (List.mem_cons_of_mem _ (List.mem_cons_of_mem _ (List.mem_cons_of_mem _ (List.mem_cons_of_mem _ (List.mem_cons_of_mem _ (List.mem_cons_of_mem _ (List.mem_cons_of_mem _ (List.mem_cons_of_mem _ (List.mem_cons_of_mem _ (List.mem_cons_of_mem _ (List.mem_cons_of_mem _ (List.mem_cons_of_mem _ (List.mem_cons_of_mem _ (List.mem_cons_of_mem _ (List.mem_cons_of_mem _ (List.mem_cons_of_mem _ (List.mem_cons_of_mem _ (List.mem_cons_of_mem _ (List.mem_cons_of_mem _ (List.mem_cons_of_mem _ (List.mem_cons_of_mem _ (List.mem_cons_of_mem _ (List.mem_cons_of_mem _ (List.mem_cons_of_mem _ (List.mem_cons_of_mem _ (List.mem_cons_of_mem _ (List.mem_cons_of_mem _ (List.mem_cons_of_mem _ (List.mem_cons_of_mem _ (List.mem_cons_of_mem _ (List.mem_cons_of_mem _ (List.mem_cons_of_mem _ (List.mem_cons_of_mem _ (List.mem_cons_of_mem _ (List.mem_cons_of_mem _ (List.mem_cons_of_mem _ (List.mem_cons_of_mem _ (List.mem_cons_of_mem _ (List.mem_cons_of_mem _ (List.mem_cons_of_mem _ (List.mem_cons_of_mem _ (List.mem_cons_of_mem _ (List.mem_cons_of_mem _ (List.mem_cons_of_mem _ (List.mem_cons_self))))))))))))))))))))))))))))))))))))))))))))))))))
set_option maxRecDepth 20000 in
theorem j_pm128_51 : j_c128_51 ∈ j_P.2.1 128 := by
  have h : j_P.2.1 128 = [j_c128_0, j_c128_1, j_c128_2, j_c128_3, j_c128_4, j_c128_5, j_c128_6, j_c128_7, j_c128_8, j_c128_9, j_c128_10, j_c128_11, j_c128_12, j_c128_13, j_c128_14, j_c128_15, j_c128_16, j_c128_17, j_c128_18, j_c128_19, j_c128_20, j_c128_21, j_c128_22, j_c128_23, j_c128_24, j_c128_25, j_c128_26, j_c128_27, j_c128_28, j_c128_29, j_c128_30, j_c128_31, j_c128_32, j_c128_33, j_c128_34, j_c128_35, j_c128_36, j_c128_37, j_c128_38, j_c128_39, j_c128_40, j_c128_41, j_c128_42, j_c128_43, j_c128_44, j_c128_45, j_c128_46, j_c128_47, j_c128_48, j_c128_49, j_c128_50, j_c128_51, j_c128_52, j_c128_53, j_c128_54, j_c128_55, j_c128_56, j_c128_57, j_c128_58, j_c128_59, j_c128_60, j_c128_61, j_c128_62, j_c128_63, j_c128_64, j_c128_65, j_c128_66, j_c128_67] := by rfl
  rw [h]
  exact List.mem_cons_of_mem _ (List.mem_cons_of_mem _ (List.mem_cons_of_mem _ (List.mem_cons_of_mem _ (List.mem_cons_of_mem _ (List.mem_cons_of_mem _ (List.mem_cons_of_mem _ (List.mem_cons_of_mem _ (List.mem_cons_of_mem _ (List.mem_cons_of_mem _ (List.mem_cons_of_mem _ (List.mem_cons_of_mem _ (List.mem_cons_of_mem _ (List.mem_cons_of_mem _ (List.mem_cons_of_mem _ (List.mem_cons_of_mem _ (List.mem_cons_of_mem _ (List.mem_cons_of_mem _ (List.mem_cons_of_mem _ (List.mem_cons_of_mem _ (List.mem_cons_of_mem _ (List.mem_cons_of_mem _ (List.mem_cons_of_mem _ (List.mem_cons_of_mem _ (List.mem_cons_of_mem _ (List.mem_cons_of_mem _ (List.mem_cons_of_mem _ (List.mem_cons_of_mem _ (List.mem_cons_of_mem _ (List.mem_cons_of_mem _ (List.mem_cons_of_mem _ (List.mem_cons_of_mem _ (List.mem_cons_of_mem _ (List.mem_cons_of_mem _ (List.mem_cons_of_mem _ (List.mem_cons_of_mem _ (List.mem_cons_of_mem _ (List.mem_cons_of_mem _ (List.mem_cons_of_mem _ (List.mem_cons_of_mem _ (List.mem_cons_of_mem _ (List.mem_cons_of_mem _ (List.mem_cons_of_mem _ (List.mem_cons_of_mem _ (List.mem_cons_of_mem _ (List.mem_cons_of_mem _ (List.mem_cons_of_mem _ (List.mem_cons_of_mem _ (List.mem_cons_of_mem _ (List.mem_cons_of_mem _ (List.mem_cons_of_mem _ (List.mem_cons_self)))))))))))))))))))))))))))))))))))))))))))))))))))
set_option maxRecDepth 20000 in
theorem j_pm128_52 : j_c128_52 ∈ j_P.2.1 128 := by
  have h : j_P.2.1 128 = [j_c128_0, j_c128_1, j_c128_2, j_c128_3, j_c128_4, j_c128_5, j_c128_6, j_c128_7, j_c128_8, j_c128_9, j_c128_10, j_c128_11, j_c128_12, j_c128_13, j_c128_14, j_c128_15, j_c128_16, j_c128_17, j_c128_18, j_c128_19, j_c128_20, j_c128_21, j_c128_22, j_c128_23, j_c128_24, j_c128_25, j_c128_26, j_c128_27, j_c128_28, j_c128_29, j_c128_30, j_c128_31, j_c128_32, j_c128_33, j_c128_34, j_c128_35, j_c128_36, j_c128_37, j_c128_38, j_c128_39, j_c128_40, j_c128_41, j_c128_42, j_c128_43, j_c128_44, j_c128_45, j_c128_46, j_c128_47, j_c128_48, j_c128_49, j_c128_50, j_c128_51, j_c128_52, j_c128_53, j_c128_54, j_c128_55, j_c128_56, j_c128_57, j_c128_58, j_c128_59, j_c128_60, j_c128_61, j_c128_62, j_c128_63, j_c128_64, j_c128_65, j_c128_66, j_c128_67] := by rfl
  rw [h]
  exact List.mem_cons_of_mem _ (List.mem_cons_of_mem _ (List.mem_cons_of_mem _ (List.mem_cons_of_mem _ (List.mem_cons_of_mem _ (List.mem_cons_of_mem _ (List.mem_cons_of_mem _ (List.mem_cons_of_mem _ (List.mem_cons_of_mem _ (List.mem_cons_of_mem _ (List.mem_cons_of_mem _ (List.mem_cons_of_mem _ (List.mem_cons_of_mem _ (List.mem_cons_of_mem _ (List.mem_cons_of_mem _ (List.mem_cons_of_mem _ (List.mem_cons_of_mem _ (List.mem_cons_of_mem _ (List.mem_cons_of_mem _ (List.mem_cons_of_mem _ (List.mem_cons_of_mem _ (List.mem_cons_of_mem _ (List.mem_cons_of_mem _ (List.mem_cons_of_mem _ (List.mem_cons_of_mem _ (List.mem_cons_of_mem _ (List.mem_cons_of_mem _ (List.mem_cons_of_mem _ (List.mem_cons_of_mem _ (List.mem_cons_of_mem _ (List.mem_cons_of_mem _ (List.mem_cons_of_mem _ (List.mem_cons_of_mem _ (List.mem_cons_of_mem _ (List.mem_cons_of_mem _ (List.mem_cons_of_mem _ (List.mem_cons_of_mem _ (List.mem_cons_of_mem _ (List.mem_cons_of_mem _ (List.mem_cons_of_mem _ (List.mem_cons_of_mem _ (List.mem_cons_of_mem _ (List.mem_cons_of_mem _ (List.mem_cons_of_mem _ (List.mem_cons_of_mem _ (List.mem_cons_of_mem _ (List.mem_cons_of_mem _ (List.mem_cons_of_mem _ (List.mem_cons_of_mem _ (List.mem_cons_of_mem _ (List.mem_cons_of_mem _ (List.mem_cons_of_mem _ (List.mem_cons_self))))))))))))))))))))))))))))))))))))))))))))))))))))
set_option maxRecDepth 20000 in
theorem j_pm128_53 : j_c128_53 ∈ j_P.2.1 128 := by
  have h : j_P.2.1 128 = [j_c128_0, j_c128_1, j_c128_2, j_c128_3, j_c128_4, j_c128_5, j_c128_6, j_c128_7, j_c128_8, j_c128_9, j_c128_10, j_c128_11, j_c128_12, j_c128_13, j_c128_14, j_c128_15, j_c128_16, j_c128_17, j_c128_18, j_c128_19, j_c128_20, j_c128_21, j_c128_22, j_c128_23, j_c128_24, j_c128_25, j_c128_26, j_c128_27, j_c128_28, j_c128_29, j_c128_30, j_c128_31, j_c128_32, j_c128_33, j_c128_34, j_c128_35, j_c128_36, j_c128_37, j_c128_38, j_c128_39, j_c128_40, j_c128_41, j_c128_42, j_c128_43, j_c128_44, j_c128_45, j_c128_46, j_c128_47, j_c128_48, j_c128_49, j_c128_50, j_c128_51, j_c128_52, j_c128_53, j_c128_54, j_c128_55, j_c128_56, j_c128_57, j_c128_58, j_c128_59, j_c128_60, j_c128_61, j_c128_62, j_c128_63, j_c128_64, j_c128_65, j_c128_66, j_c128_67] := by rfl
  rw [h]
  exact List.mem_cons_of_mem _ (List.mem_cons_of_mem _ (List.mem_cons_of_mem _ (List.mem_cons_of_mem _ (List.mem_cons_of_mem _ (List.mem_cons_of_mem _ (List.mem_cons_of_mem _ (List.mem_cons_of_mem _ (List.mem_cons_of_mem _ (List.mem_cons_of_mem _ (List.mem_cons_of_mem _ (List.mem_cons_of_mem _ (List.mem_cons_of_mem _ (List.mem_cons_of_mem _ (List.mem_cons_of_mem _ (List.mem_cons_of_mem _ (List.mem_cons_of_mem _ (List.mem_cons_of_mem _ (List.mem_cons_of_mem _ (List.mem_cons_of_mem _ (List.mem_cons_of_mem _ (List.mem_cons_of_mem _ (List.mem_cons_of_mem _ (List.mem_cons_of_mem _ (List.mem_cons_of_mem _ (List.mem_cons_of_mem _ (List.mem_cons_of_mem _ (List.mem_cons_of_mem _ (List.mem_cons_of_mem _ (List.mem_cons_of_mem _ (List.mem_cons_of_mem _ (List.mem_cons_of_mem _ (List.mem_cons_of_mem _ (List.mem_cons_of_mem _ (List.mem_cons_of_mem _ (List.mem_cons_of_mem _ (List.mem_cons_of_mem _ (List.mem_cons_of_mem _ (List.mem_cons_of_mem _ (List.mem_cons_of_mem _ (List.mem_cons_of_mem _ (List.mem_cons_of_mem _ (List.mem_cons_of_mem _ (List.mem_cons_of_mem _ (List.mem_cons_of_mem _ (List.mem_cons_of_mem _ (List.mem_cons_of_mem _ (List.mem_cons_of_mem _ (List.mem_cons_of_mem _ (List.mem_cons_of_mem _ (List.mem_cons_of_mem _ (List.mem_cons_of_mem _ (List.mem_cons_of_mem _ (List.mem_cons_self)))))))))))))))))))))))))))))))))))))))))))))))))))))
set_option maxRecDepth 20000 in
theorem j_pm128_54 : j_c128_54 ∈ j_P.2.1 128 := by
  have h : j_P.2.1 128 = [j_c128_0, j_c128_1, j_c128_2, j_c128_3, j_c128_4, j_c128_5, j_c128_6, j_c128_7, j_c128_8, j_c128_9, j_c128_10, j_c128_11, j_c128_12, j_c128_13, j_c128_14, j_c128_15, j_c128_16, j_c128_17, j_c128_18, j_c128_19, j_c128_20, j_c128_21, j_c128_22, j_c128_23, j_c128_24, j_c128_25, j_c128_26, j_c128_27, j_c128_28, j_c128_29, j_c128_30, j_c128_31, j_c128_32, j_c128_33, j_c128_34, j_c128_35, j_c128_36, j_c128_37, j_c128_38, j_c128_39, j_c128_40, j_c128_41, j_c128_42, j_c128_43, j_c128_44, j_c128_45, j_c128_46, j_c128_47, j_c128_48, j_c128_49, j_c128_50, j_c128_51, j_c128_52, j_c128_53, j_c128_54, j_c128_55, j_c128_56, j_c128_57, j_c128_58, j_c128_59, j_c128_60, j_c128_61, j_c128_62, j_c128_63, j_c128_64, j_c128_65, j_c128_66, j_c128_67] := by rfl
  rw [h]
  exact List.mem_cons_of_mem _ (List.mem_cons_of_mem _ (List.mem_cons_of_mem _ (List.mem_cons_of_mem _ (List.mem_cons_of_mem _ (List.mem_cons_of_mem _ (List.mem_cons_of_mem _ (List.mem_cons_of_mem _ (List.mem_cons_of_mem _ (List.mem_cons_of_mem _ (List.mem_cons_of_mem _ (List.mem_cons_of_mem _ (List.mem_cons_of_mem _ (List.mem_cons_of_mem _ (List.mem_cons_of_mem _ (List.mem_cons_of_mem _ (List.mem_cons_of_mem _ (List.mem_cons_of_mem _ (List.mem_cons_of_mem _ (List.mem_cons_of_mem _ (List.mem_cons_of_mem _ (List.mem_cons_of_mem _ (List.mem_cons_of_mem _ (List.mem_cons_of_mem _ (List.mem_cons_of_mem _ (List.mem_cons_of_mem _ (List.mem_cons_of_mem _ (List.mem_cons_of_mem _ (List.mem_cons_of_mem _ (List.mem_cons_of_mem _ (List.mem_cons_of_mem _ (List.mem_cons_of_mem _ (List.mem_cons_of_mem _ (List.mem_cons_of_mem _ (List.mem_cons_of_mem _ (List.mem_cons_of_mem _ (List.mem_cons_of_mem _ (List.mem_cons_of_mem _ (List.mem_cons_of_mem _ (List.mem_cons_of_mem _ (List.mem_cons_of_mem _ (List.mem_cons_of_mem _ (List.mem_cons_of_mem _ (List.mem_cons_of_mem _ (List.mem_cons_of_mem _ (List.mem_cons_of_mem _ (List.mem_cons_of_mem _ (List.mem_cons_of_mem _ (List.mem_cons_of_mem _ (List.mem_cons_of_mem _ (List.mem_cons_of_mem _ (List.mem_cons_of_mem _ (List.mem_cons_of_mem _ (List.mem_cons_of_mem _ (List.mem_cons_self))))))))))))))))))))))))))))))))))))))))))))))))))))))
set_option maxRecDepth 20000 in
theorem j_pm128_55 : j_c128_55 ∈ j_P.2.1 128 := by
  have h : j_P.2.1 128 = [j_c128_0, j_c128_1, j_c128_2, j_c128_3, j_c128_4, j_c128_5, j_c128_6, j_c128_7, j_c128_8, j_c128_9, j_c128_10, j_c128_11, j_c128_12, j_c128_13, j_c128_14, j_c128_15, j_c128_16, j_c128_17, j_c128_18, j_c128_19, j_c128_20, j_c128_21, j_c128_22, j_c128_23, j_c128_24, j_c128_25, j_c128_26, j_c128_27, j_c128_28, j_c128_29, j_c128_30, j_c128_31, j_c128_32, j_c128_33, j_c128_34, j_c128_35, j_c128_36, j_c128_37, j_c128_38, j_c128_39, j_c128_40, j_c128_41, j_c128_42, j_c128_43, j_c128_44, j_c128_45, j_c128_46, j_c128_47, j_c128_48, j_c128_49, j_c128_50, j_c128_51, j_c128_52, j_c128_53, j_c128_54, j_c128_55, j_c128_56, j_c128_57, j_c128_58, j_c128_59, j_c128_60, j_c128_61, j_c128_62, j_c128_63, j_c128_64, j_c128_65, j_c128_66, j_c128_67] := by rfl
  rw [h]
  exact List.mem_cons_of_mem _ (List.mem_cons_of_mem _ (List.mem_cons_of_mem _ (List.mem_cons_of_mem _ (List.mem_cons_of_mem _ (List.mem_cons_of_mem _ (List.mem_cons_of_mem _ (List.mem_cons_of_mem _ (List.mem_cons_of_mem _ (List.mem_cons_of_mem _ (List.mem_cons_of_mem _ (List.mem_cons_of_mem _ (List.mem_cons_of_mem _ (List.mem_cons_of_mem _ (List.mem_cons_of_mem _ (List.mem_cons_of_mem _ (List.mem_cons_of_mem _ (List.mem_cons_of_mem _ (List.mem_cons_of_mem _ (List.mem_cons_of_mem _ (List.mem_cons_of_mem _ (List.mem_cons_of_mem _ (List.mem_cons_of_mem _ (List.mem_cons_of_mem _ (List.mem_cons_of_mem _ (List.mem_cons_of_mem _ (List.mem_cons_of_mem _ (List.mem_cons_of_mem _ (List.mem_cons_of_mem _ (List.mem_cons_of_mem _ (List.mem_cons_of_mem _ (List.mem_cons_of_mem _ (List.mem_cons_of_mem _ (List.mem_cons_of_mem _ (List.mem_cons_of_mem _ (List.mem_cons_of_mem _ (List.mem_cons_of_mem _ (List.mem_cons_of_mem _ (List.mem_cons_of_mem _ (List.mem_cons_of_mem _ (List.mem_cons_of_mem _ (List.mem_cons_of_mem _ (List.mem_cons_of_mem _ (List.mem_cons_of_mem _ (List.mem_cons_of_mem _ (List.mem_cons_of_mem _ (List.mem_cons_of_mem _ (List.mem_cons_of_mem _ (List.mem_cons_of_mem _ (List.mem_cons_of_mem _ (List.mem_cons_of_mem _ (List.mem_cons_of_mem _ (List.mem_cons_of_mem _ (List.mem_cons_of_mem _ (List.mem_cons_of_mem _ (List.mem_cons_self)))))))))))))))))))))))))))))))))))))))))))))))))))))))
set_option maxRecDepth 20000 in
theorem j_pm128_56 : j_c128_56 ∈ j_P.2.1 128 := by
  have h : j_P.2.1 128 = [j_c128_0, j_c128_1, j_c128_2, j_c128_3, j_c128_4, j_c128_5, j_c128_6, j_c128_7, j_c128_8, j_c128_9, j_c128_10, j_c128_11, j_c128_12, j_c128_13, j_c128_14, j_c128_15, j_c128_16, j_c128_17, j_c128_18, j_c128_19, j_c128_20, j_c128_21, j_c128_22, j_c128_23, j_c128_24, j_c128_25, j_c128_26, j_c128_27, j_c128_28, j_c128_29, j_c128_30, j_c128_31, j_c128_32, j_c128_33, j_c128_34, j_c128_35, j_c128_36, j_c128_37, j_c128_38, j_c128_39, j_c128_40, j_c128_41, j_c128_42, j_c128_43, j_c128_44, j_c128_45, j_c128_46, j_c128_47, j_c128_48, j_c128_49, j_c128_50, j_c128_51, j_c128_52, j_c128_53, j_c128_54, j_c128_55, j_c128_56, j_c128_57, j_c128_58, j_c128_59, j_c128_60, j_c128_61, j_c128_62, j_c128_63, j_c128_64, j_c128_65, j_c128_66, j_c128_67] := by rfl
  rw [h]
  exact List.mem_cons_of_mem _ (List.mem_cons_of_mem _ (List.mem_cons_of_mem _ (List.mem_cons_of_mem _ (List.mem_cons_of_mem _ (List.mem_cons_of_mem _ (List.mem_cons_of_mem _ (List.mem_cons_of_mem _ (List.mem_cons_of_mem _ (List.mem_cons_of_mem _ (List.mem_cons_of_mem _ (List.mem_cons_of_mem _ (List.mem_cons_of_mem _ (List.mem_cons_of_mem _ (List.mem_cons_of_mem _ (List.mem_cons_of_mem _ (List.mem_cons_of_mem _ (List.mem_cons_of_mem _ (List.mem_cons_of_mem _ (List.mem_cons_of_mem _ (List.mem_cons_of_mem _ (List.mem_cons_of_mem _ (List.mem_cons_of_mem _ (List.mem_cons_of_mem _ (List.mem_cons_of_mem _ (List.mem_cons_of_mem _ (List.mem_cons_of_mem _ (List.mem_cons_of_mem _ (List.mem_cons_of_mem _ (List.mem_cons_of_mem _ (List.mem_cons_of_mem _ (List.mem_cons_of_mem _ (List.mem_cons_of_mem _ (List.mem_cons_of_mem _ (List.mem_cons_of_mem _ (List.mem_cons_of_mem _ (List.mem_cons_of_mem _ (List.mem_cons_of_mem _ (List.mem_cons_of_mem _ (List.mem_cons_of_mem _ (List.mem_cons_of_mem _ (List.mem_cons_of_mem _ (List.mem_cons_of_mem _ (List.mem_cons_of_mem _ (List.mem_cons_of_mem _ (List.mem_cons_of_mem _ (List.mem_cons_of_mem _ (List.mem_cons_of_mem _ (List.mem_cons_of_mem _ (List.mem_cons_of_mem _ (List.mem_cons_of_mem _ (List.mem_cons_of_mem _ (List.mem_cons_of_mem _ (List.mem_cons_of_mem _ (List.mem_cons_of_mem _ (List.mem_cons_of_mem _ (List.mem_cons_self))))))))))))))))))))))))))))))))))))))))))))))))))))))))
set_option maxRecDepth 20000 in
theorem j_pm128_57 : j_c128_57 ∈ j_P.2.1 128 := by
  have h : j_P.2.1 128 = [j_c128_0, j_c128_1, j_c128_2, j_c128_3, j_c128_4, j_c128_5, j_c128_6, j_c128_7, j_c128_8, j_c128_9, j_c128_10, j_c128_11, j_c128_12, j_c128_13, j_c128_14, j_c128_15, j_c128_16, j_c128_17, j_c128_18, j_c128_19, j_c128_20, j_c128_21, j_c128_22, j_c128_23, j_c128_24, j_c128_25, j_c128_26, j_c128_27, j_c128_28, j_c128_29, j_c128_30, j_c128_31, j_c128_32, j_c128_33, j_c128_34, j_c128_35, j_c128_36, j_c128_37, j_c128_38, j_c128_39, j_c128_40, j_c128_41, j_c128_42, j_c128_43, j_c128_44, j_c128_45, j_c128_46, j_c128_47, j_c128_48, j_c128_49, j_c128_50, j_c128_51, j_c128_52, j_c128_53, j_c128_54, j_c128_55, j_c128_56, j_c128_57, j_c128_58, j_c128_59, j_c128_60, j_c128_61, j_c128_62, j_c128_63, j_c128_64, j_c128_65, j_c128_66, j_c128_67] := by rfl
  rw [h]
  exact List.mem_cons_of_mem _ (List.mem_cons_of_mem _ (List.mem_cons_of_mem _ (List.mem_cons_of_mem _ (List.mem_cons_of_mem _ (List.mem_cons_of_mem _ (List.mem_cons_of_mem _ (List.mem_cons_of_mem _ (List.mem_cons_of_mem _ (List.mem_cons_of_mem _ (List.mem_cons_of_mem _ (List.mem_cons_of_mem _ (List.mem_cons_of_mem _ (List.mem_cons_of_mem _ (List.mem_cons_of_mem _ (List.mem_cons_of_mem _ (List.mem_cons_of_mem _ (List.mem_cons_of_mem _ (List.mem_cons_of_mem _ (List.mem_cons_of_mem _ (List.mem_cons_of_mem _ (List.mem_cons_of_mem _ (List.mem_cons_of_mem _ (List.mem_cons_of_mem _ (List.mem_cons_of_mem _ (List.mem_cons_of_mem _ (List.mem_cons_of_mem _ (List.mem_cons_of_mem _ (List.mem_cons_of_mem _ (List.mem_cons_of_mem _ (List.mem_cons_of_mem _ (List.mem_cons_of_mem _ (List.mem_cons_of_mem _ (List.mem_cons_of_mem _ (List.mem_cons_of_mem _ (List.mem_cons_of_mem _ (List.mem_cons_of_mem _ (List.mem_cons_of_mem _ (List.mem_cons_of_mem _ (List.mem_cons_of_mem _ (List.mem_cons_of_mem _ (List.mem_cons_of_mem _ (List.mem_cons_of_mem _ (List.mem_cons_of_mem _ (List.mem_cons_of_mem _ (List.mem_cons_of_mem _ (List.mem_cons_of_mem _ (List.mem_cons_of_mem _ (List.mem_cons_of_mem _ (List.mem_cons_of_mem _ (List.mem_cons_of_mem _ (List.mem_cons_of_mem _ (List.mem_cons_of_mem _ (List.mem_cons_of_mem _ (List.mem_cons_of_mem _ (List.mem_cons_of_mem _ (List.mem_cons_of_mem _ (List.mem_cons_self)))))))))))))))))))))))))))))))))))))))))))))))))))))))))
set_option maxRecDepth 20000 in
theorem j_pm128_58 : j_c128_58 ∈ j_P.2.1 128 := by
  have h : j_P.2.1 128 = [j_c128_0, j_c128_1, j_c128_2, j_c128_3, j_c128_4, j_c128_5, j_c128_6, j_c128_7, j_c128_8, j_c128_9, j_c128_10, j_c128_11, j_c128_12, j_c128_13, j_c128_14, j_c128_15, j_c128_16, j_c128_17, j_c128_18, j_c128_19, j_c128_20, j_c128_21, j_c128_22, j_c128_23, j_c128_24, j_c128_25, j_c128_26, j_c128_27, j_c128_28, j_c128_29, j_c128_30, j_c128_31, j_c128_32, j_c128_33, j_c128_34, j_c128_35, j_c128_36, j_c128_37, j_c128_38, j_c128_39, j_c128_40, j_c128_41, j_c128_42, j_c128_43, j_c128_44, j_c128_45, j_c128_46, j_c128_47, j_c128_48, j_c128_49, j_c128_50, j_c128_51, j_c128_52, j_c128_53, j_c128_54, j_c128_55, j_c128_56, j_c128_57, j_c128_58, j_c128_59, j_c128_60, j_c128_61, j_c128_62, j_c128_63, j_c128_64, j_c128_65, j_c128_66, j_c128_67] := by rfl
  rw [h]
  exact List.mem_cons_of_mem _ (List.mem_cons_of_mem _ (List.mem_cons_of_mem _ (List.mem_cons_of_mem _ (List.mem_cons_of_mem _ (List.mem_cons_of_mem _ (List.mem_cons_of_mem _ (List.mem_cons_of_mem _ (List.mem_cons_of_mem _ (List.mem_cons_of_mem _ (List.mem_cons_of_mem _ (List.mem_cons_of_mem _ (List.mem_cons_of_mem _ (List.mem_cons_of_mem _ (List.mem_cons_of_mem _ (List.mem_cons_of_mem _ (List.mem_cons_of_mem _ (List.mem_cons_of_mem _ (List.mem_cons_of_mem _ (List.mem_cons_of_mem _ (List.mem_cons_of_mem _ (List.mem_cons_of_mem _ (List.mem_cons_of_mem _ (List.mem_cons_of_mem _ (List.mem_cons_of_mem _ (List.mem_cons_of_mem _ (List.mem_cons_of_mem _ (List.mem_cons_of_mem _ (List.mem_cons_of_mem _ (List.mem_cons_of_mem _ (List.mem_cons_of_mem _ (List.mem_cons_of_mem _ (List.mem_cons_of_mem _ (List.mem_cons_of_mem _ (List.mem_cons_of_mem _ (List.mem_cons_of_mem _ (List.mem_cons_of_mem _ (List.mem_cons_of_mem _ (List.mem_cons_of_mem _ (List.mem_cons_of_mem _ (List.mem_cons_of_mem _ (List.mem_cons_of_mem _ (List.mem_cons_of_mem _ (List.mem_cons_of_mem _ (List.mem_cons_of_mem _ (List.mem_cons_of_mem _ (List.mem_cons_of_mem _ (List.mem_cons_of_mem _ (List.mem_cons_of_mem _ (List.mem_cons_of_mem _ (List.mem_cons_of_mem _ (List.mem_cons_of_mem _ (List.mem_cons_of_mem _ (List.mem_cons_of_mem _ (List.mem_cons_of_mem _ (List.mem_cons_of_mem _ (List.mem_cons_of_mem _ (List.mem_cons_of_mem _ (List.mem_cons_self))))))))))))))))))))))))))))))))))))))))))))))))))))))))))
set_option maxRecDepth 20000 in
theorem j_pm128_59 : j_c128_59 ∈ j_P.2.1 128 := by
  have h : j_P.2.1 128 = [j_c128_0, j_c128_1, j_c128_2, j_c128_3, j_c128_4, j_c128_5, j_c128_6, j_c128_7, j_c128_8, j_c128_9, j_c128_10, j_c128_11, j_c128_12, j_c128_13, j_c128_14, j_c128_15, j_c128_16, j_c128_17, j_c128_18, j_c128_19, j_c128_20, j_c128_21, j_c128_22, j_c128_23, j_c128_24, j_c128_25, j_c128_26, j_c128_27, j_c128_28, j_c128_29, j_c128_30, j_c128_31, j_c128_32, j_c128_33, j_c128_34, j_c128_35, j_c128_36, j_c128_37, j_c128_38, j_c128_39, j_c128_40, j_c128_41, j_c128_42, j_c128_43, j_c128_44, j_c128_45, j_c128_46, j_c128_47, j_c128_48, j_c128_49, j_c128_50, j_c128_51, j_c128_52, j_c128_53, j_c128_54, j_c128_55, j_c128_56, j_c128_57, j_c128_58, j_c128_59, j_c128_60, j_c128_61, j_c128_62, j_c128_63, j_c128_64, j_c128_65, j_c128_66, j_c128_67] := by rfl
  rw [h]
  exact List.mem_cons_of_mem _ (List.mem_cons_of_mem _ (List.mem_cons_of_mem _ (List.mem_cons_of_mem _ (List.mem_cons_of_mem _ (List.mem_cons_of_mem _ (List.mem_cons_of_mem _ (List.mem_cons_of_mem _ (List.mem_cons_of_mem _ (List.mem_cons_of_mem _ (List.mem_cons_of_mem _ (List.mem_cons_of_mem _ (List.mem_cons_of_mem _ (List.mem_cons_of_mem _ (List.mem_cons_of_mem _ (List.mem_cons_of_mem _ (List.mem_cons_of_mem _ (List.mem_cons_of_mem _ (List.mem_cons_of_mem _ (List.mem_cons_of_mem _ (List.mem_cons_of_mem _ (List.mem_cons_of_mem _ (List.mem_cons_of_mem _ (List.mem_cons_of_mem _ (List.mem_cons_of_mem _ (List.mem_cons_of_mem _ (List.mem_cons_of_mem _ (List.mem_cons_of_mem _ (List.mem_cons_of_mem _ (List.mem_cons_of_mem _ (List.mem_cons_of_mem _ (List.mem_cons_of_mem _ (List.mem_cons_of_mem _ (List.mem_cons_of_mem _ (List.mem_cons_of_mem _ (List.mem_cons_of_mem _ (List.mem_cons_of_mem _ (List.mem_cons_of_mem _ (List.mem_cons_of_mem _ (List.mem_cons_of_mem _ (List.mem_cons_of_mem _ (List.mem_cons_of_mem _ (List.mem_cons_of_mem _ (List.mem_cons_of_mem _ (List.mem_cons_of_mem _ (List.mem_cons_of_mem _ (List.mem_cons_of_mem _ (List.mem_cons_of_mem _ (List.mem_cons_of_mem _ (List.mem_cons_of_mem _ (List.mem_cons_of_mem _ (List.mem_cons_of_mem _ (List.mem_cons_of_mem _ (List.mem_cons_of_mem _ (List.mem_cons_of_mem _ (List.mem_cons_of_mem _ (List.mem_cons_of_mem _ (List.mem_cons_of_mem _ (List.mem_cons_of_mem _ (List.mem_cons_self)))))))))))))))))))))))))))))))))))))))))))))))))))))))))))
set_option maxRecDepth 20000 in
theorem j_pm128_60 : j_c128_60 ∈ j_P.2.1 128 := by
  have h : j_P.2.1 128 = [j_c128_0, j_c128_1, j_c128_2, j_c128_3, j_c128_4, j_c128_5, j_c128_6, j_c128_7, j_c128_8, j_c128_9, j_c128_10, j_c128_11, j_c128_12, j_c128_13, j_c128_14, j_c128_15, j_c128_16, j_c128_17, j_c128_18, j_c128_19, j_c128_20, j_c128_21, j_c128_22, j_c128_23, j_c128_24, j_c128_25, j_c128_26, j_c128_27, j_c128_28, j_c128_29, j_c128_30, j_c128_31, j_c128_32, j_c128_33, j_c128_34, j_c128_35, j_c128_36, j_c128_37, j_c128_38, j_c128_39, j_c128_40, j_c128_41, j_c128_42, j_c128_43, j_c128_44, j_c128_45, j_c128_46, j_c128_47, j_c128_48, j_c128_49, j_c128_50, j_c128_51, j_c128_52, j_c128_53, j_c128_54, j_c128_55, j_c128_56, j_c128_57, j_c128_58, j_c128_59, j_c128_60, j_c128_61, j_c128_62, j_c128_63, j_c128_64, j_c128_65, j_c128_66, j_c128_67] := by rfl
  rw [h]
  exact List.mem_cons_of_mem _ (List.mem_cons_of_mem _ (List.mem_cons_of_mem _ (List.mem_cons_of_mem _ (List.mem_cons_of_mem _ (List.mem_cons_of_mem _ (List.mem_cons_of_mem _ (List.mem_cons_of_mem _ (List.mem_cons_of_mem _ (List.mem_cons_of_mem _ (List.mem_cons_of_mem _ (List.mem_cons_of_mem _ (List.mem_cons_of_mem _ (List.mem_cons_of_mem _ (List.mem_cons_of_mem _ (List.mem_cons_of_mem _ (List.mem_cons_of_mem _ (List.mem_cons_of_mem _ (List.mem_cons_of_mem _ (List.mem_cons_of_mem _ (List.mem_cons_of_mem _ (List.mem_cons_of_mem _ (List.mem_cons_of_mem _ (List.mem_cons_of_mem _ (List.mem_cons_of_mem _ (List.mem_cons_of_mem _ (List.mem_cons_of_mem _ (List.mem_cons_of_mem _ (List.mem_cons_of_mem _ (List.mem_cons_of_mem _ (List.mem_cons_of_mem _ (List.mem_cons_of_mem _ (List.mem_cons_of_mem _ (List.mem_cons_of_mem _ (List.mem_cons_of_mem _ (List.mem_cons_of_mem _ (List.mem_cons_of_mem _ (List.mem_cons_of_mem _ (List.mem_cons_of_mem _ (List.mem_cons_of_mem _ (List.mem_cons_of_mem _ (List.mem_cons_of_mem _ (List.mem_cons_of_mem _ (List.mem_cons_of_mem _ (List.mem_cons_of_mem _ (List.mem_cons_of_mem _ (List.mem_cons_of_mem _ (List.mem_cons_of_mem _ (List.mem_cons_of_mem _ (List.mem_cons_of_mem _ (List.mem_cons_of_mem _ (List.mem_cons_of_mem _ (List.mem_cons_of_mem _ (List.mem_cons_of_mem _ (List.mem_cons_of_mem _ (List.mem_cons_of_mem _ (List.mem_cons_of_mem _ (List.mem_cons_of_mem _ (List.mem_cons_of_mem _ (List.mem_cons_of_mem _ (List.mem_cons_self))))))))))))))))))))))))))))))))))))))))))))))))))))))))))))
set_option maxRecDepth 20000 in
theorem j_pm128_61 : j_c128_61 ∈ j_P.2.1 128 := by
  have h : j_P.2.1 128 = [j_c128_0, j_c128_1, j_c128_2, j_c128_3, j_c128_4, j_c128_5, j_c128_6, j_c128_7, j_c128_8, j_c128_9, j_c128_10, j_c128_11, j_c128_12, j_c128_13, j_c128_14, j_c128_15, j_c128_16, j_c128_17, j_c128_18, j_c128_19, j_c128_20, j_c128_21, j_c128_22, j_c128_23, j_c128_24, j_c128_25, j_c128_26, j_c128_27, j_c128_28, j_c128_29, j_c128_30, j_c128_31, j_c128_32, j_c128_33, j_c128_34, j_c128_35, j_c128_36, j_c128_37, j_c128_38, j_c128_39, j_c128_40, j_c128_41, j_c128_42, j_c128_43, j_c128_44, j_c128_45, j_c128_46, j_c128_47, j_c128_48, j_c128_49, j_c128_50, j_c128_51, j_c128_52, j_c128_53, j_c128_54, j_c128_55, j_c128_56, j_c128_57, j_c128_58, j_c128_59, j_c128_60, j_c128_61, j_c128_62, j_c128_63, j_c128_64, j_c128_65, j_c128_66, j_c128_67] := by rfl
  rw [h]
  exact List.mem_cons_of_mem _ (List.mem_cons_of_mem _ (List.mem_cons_of_mem _ (List.mem_cons_of_mem _ (List.mem_cons_of_mem _ (List.mem_cons_of_mem _ (List.mem_cons_of_mem _ (List.mem_cons_of_mem _ (List.mem_cons_of_mem _ (List.mem_cons_of_mem _ (List.mem_cons_of_mem _ (List.mem_cons_of_mem _ (List.mem_cons_of_mem _ (List.mem_cons_of_mem _ (List.mem_cons_of_mem _ (List.mem_cons_of_mem _ (List.mem_cons_of_mem _ (List.mem_cons_of_mem _ (List.mem_cons_of_mem _ (List.mem_cons_of_mem _ (List.mem_cons_of_mem _ (List.mem_cons_of_mem _ (List.mem_cons_of_mem _ (List.mem_cons_of_mem _ (List.mem_cons_of_mem _ (List.mem_cons_of_mem _ (List.mem_cons_of_mem _ (List.mem_cons_of_mem _ (List.mem_cons_of_mem _ (List.mem_cons_of_mem _ (List.mem_cons_of_mem _ (List.mem_cons_of_mem _ (List.mem_cons_of_mem _ (List.mem_cons_of_mem _ (List.mem_cons_of_mem _ (List.mem_cons_of_mem _ (List.mem_cons_of_mem _ (List.mem_cons_of_mem _ (List.mem_cons_of_mem _ (List.mem_cons_of_mem _ (List.mem_cons_of_mem _ (List.mem_cons_of_mem _ (List.mem_cons_of_mem _ (List.mem_cons_of_mem _ (List.mem_cons_of_mem _ (List.mem_cons_of_mem _ (List.mem_cons_of_mem _ (List.mem_cons_of_mem _ (List.mem_cons_of_mem _ (List.mem_cons_of_mem _ (List.mem_cons_of_mem _ (List.mem_cons_of_mem _ (List.mem_cons_of_mem _ (List.mem_cons_of_mem _ (List.mem_cons_of_mem _ (List.mem_cons_of_mem _ (List.mem_cons_of_mem _ (List.mem_cons_of_mem _ (List.mem_cons_of_mem _ (List.mem_cons_of_mem _ (List.mem_cons_of_mem _ (List.mem_cons_self)))))))))))))))))))))))))))))))))))))))))))))))))))))))))))))
set_option maxRecDepth 20000 in
theorem j_pm128_62 : j_c128_62 ∈ j_P.2.1 128 := by
  have h : j_P.2.1 128 = [j_c128_0, j_c128_1, j_c128_2, j_c128_3, j_c128_4, j_c128_5, j_c128_6, j_c128_7, j_c128_8, j_c128_9, j_c128_10, j_c128_11, j_c128_12, j_c128_13, j_c128_14, j_c128_15, j_c128_16, j_c128_17, j_c128_18, j_c128_19, j_c128_20, j_c128_21, j_c128_22, j_c128_23, j_c128_24, j_c128_25, j_c128_26, j_c128_27, j_c128_28, j_c128_29, j_c128_30, j_c128_31, j_c128_32, j_c128_33, j_c128_34, j_c128_35, j_c128_36, j_c128_37, j_c128_38, j_c128_39, j_c128_40, j_c128_41, j_c128_42, j_c128_43, j_c128_44, j_c128_45, j_c128_46, j_c128_47, j_c128_48, j_c128_49, j_c128_50, j_c128_51, j_c128_52, j_c128_53, j_c128_54, j_c128_55, j_c128_56, j_c128_57, j_c128_58, j_c128_59, j_c128_60, j_c128_61, j_c128_62, j_c128_63, j_c128_64, j_c128_65, j_c128_66, j_c128_67] := by rfl
  rw [h]
  exact List.mem_cons_of_mem _ (List.mem_cons_of_mem _ (List.mem_cons_of_mem _ (List.mem_cons_of_mem _ (List.mem_cons_of_mem _ (List.mem_cons_of_mem _ (List.mem_cons_of_mem _ (List.mem_cons_of_mem _ (List.mem_cons_of_mem _ (List.mem_cons_of_mem _ (List.mem_cons_of_mem _ (List.mem_cons_of_mem _ (List.mem_cons_of_mem _ (List.mem_cons_of_mem _ (List.mem_cons_of_mem _ (List.mem_cons_of_mem _ (List.mem_cons_of_mem _ (List.mem_cons_of_mem _ (List.mem_cons_of_mem _ (List.mem_cons_of_mem _ (List.mem_cons_of_mem _ (List.mem_cons_of_mem _ (List.mem_cons_of_mem _ (List.mem_cons_of_mem _ (List.mem_cons_of_mem _ (List.mem_cons_of_mem _ (List.mem_cons_of_mem _ (List.mem_cons_of_mem _ (List.mem_cons_of_mem _ (List.mem_cons_of_mem _ (List.mem_cons_of_mem _ (List.mem_cons_of_mem _ (List.mem_cons_of_mem _ (List.mem_cons_of_mem _ (List.mem_cons_of_mem _ (List.mem_cons_of_mem _ (List.mem_cons_of_mem _ (List.mem_cons_of_mem _ (List.mem_cons_of_mem _ (List.mem_cons_of_mem _ (List.mem_cons_of_mem _ (List.mem_cons_of_mem _ (List.mem_cons_of_mem _ (List.mem_cons_of_mem _ (List.mem_cons_of_mem _ (List.mem_cons_of_mem _ (List.mem_cons_of_mem _ (List.mem_cons_of_mem _ (List.mem_cons_of_mem _ (List.mem_cons_of_mem _ (List.mem_cons_of_mem _ (List.mem_cons_of_mem _ (List.mem_cons_of_mem _ (List.mem_cons_of_mem _ (List.mem_cons_of_mem _ (List.mem_cons_of_mem _ (List.mem_cons_of_mem _ (List.mem_cons_of_mem _ (List.mem_cons_of_mem _ (List.mem_cons_of_mem _ (List.mem_cons_of_mem _ (List.mem_cons_of_mem _ (List.mem_cons_self))))))))))))))))))))))))))))))))))))))))))))))))))))))))))))))
set_option maxRecDepth 20000 in
theorem j_pm128_63 : j_c128_63 ∈ j_P.2.1 128 := by
  have h : j_P.2.1 128 = [j_c128_0, j_c128_1, j_c128_2, j_c128_3, j_c128_4, j_c128_5, j_c128_6, j_c128_7, j_c128_8, j_c128_9, j_c128_10, j_c128_11, j_c128_12, j_c128_13, j_c128_14, j_c128_15, j_c128_16, j_c128_17, j_c128_18, j_c128_19, j_c128_20, j_c128_21, j_c128_22, j_c128_23, j_c128_24, j_c128_25, j_c128_26, j_c128_27, j_c128_28, j_c128_29, j_c128_30, j_c128_31, j_c128_32, j_c128_33, j_c128_34, j_c128_35, j_c128_36, j_c128_37, j_c128_38, j_c128_39, j_c128_40, j_c128_41, j_c128_42, j_c128_43, j_c128_44, j_c128_45, j_c128_46, j_c128_47, j_c128_48, j_c128_49, j_c128_50, j_c128_51, j_c128_52, j_c128_53, j_c128_54, j_c128_55, j_c128_56, j_c128_57, j_c128_58, j_c128_59, j_c128_60, j_c128_61, j_c128_62, j_c128_63, j_c128_64, j_c128_65, j_c128_66, j_c128_67] := by rfl
  rw [h]
  exact List.mem_cons_of_mem _ (List.mem_cons_of_mem _ (List.mem_cons_of_mem _ (List.mem_cons_of_mem _ (List.mem_cons_of_mem _ (List.mem_cons_of_mem _ (List.mem_cons_of_mem _ (List.mem_cons_of_mem _ (List.mem_cons_of_mem _ (List.mem_cons_of_mem _ (List.mem_cons_of_mem _ (List.mem_cons_of_mem _ (List.mem_cons_of_mem _ (List.mem_cons_of_mem _ (List.mem_cons_of_mem _ (List.mem_cons_of_mem _ (List.mem_cons_of_mem _ (List.mem_cons_of_mem _ (List.mem_cons_of_mem _ (List.mem_cons_of_mem _ (List.mem_cons_of_mem _ (List.mem_cons_of_mem _ (List.mem_cons_of_mem _ (List.mem_cons_of_mem _ (List.mem_cons_of_mem _ (List.mem_cons_of_mem _ (List.mem_cons_of_mem _ (List.mem_cons_of_mem _ (List.mem_cons_of_mem _ (List.mem_cons_of_mem _ (List.mem_cons_of_mem _ (List.mem_cons_of_mem _ (List.mem_cons_of_mem _ (List.mem_cons_of_mem _ (List.mem_cons_of_mem _ (List.mem_cons_of_mem _ (List.mem_cons_of_mem _ (List.mem_cons_of_mem _ (List.mem_cons_of_mem _ (List.mem_cons_of_mem _ (List.mem_cons_of_mem _ (List.mem_cons_of_mem _ (List.mem_cons_of_mem _ (List.mem_cons_of_mem _ (List.mem_cons_of_mem _ (List.mem_cons_of_mem _ (List.mem_cons_of_mem _ (List.mem_cons_of_mem _ (List.mem_cons_of_mem _ (List.mem_cons_of_mem _ (List.mem_cons_of_mem _ (List.mem_cons_of_mem _ (List.mem_cons_of_mem _ (List.mem_cons_of_mem _ (List.mem_cons_of_mem _ (List.mem_cons_of_mem _ (List.mem_cons_of_mem _ (List.mem_cons_of_mem _ (List.mem_cons_of_mem _ (List.mem_cons_of_mem _ (List.mem_cons_of_mem _ (List.mem_cons_of_mem _ (List.mem_cons_of_mem _ (List.mem_cons_self)))))))))))))))))))))))))))))))))))))))))))))))))))))))))))))))
set_option maxRecDepth 20000 in
theorem j_pm210_0 : j_c210_0 ∈ j_P.2.1 210 := by
  have h : j_P.2.1 210 = [j_c210_0, j_c210_1, j_c210_2, j_c210_3, j_c210_4] := by rfl
  rw [h]
  exact List.mem_cons_self
set_option maxRecDepth 20000 in
theorem j_pm210_1 : j_c210_1 ∈ j_P.2.1 210 := by
  have h : j_P.2.1 210 = [j_c210_0, j_c210_1, j_c210_2, j_c210_3, j_c210_4] := by rfl
  rw [h]
  exact List.mem_cons_of_mem _ (List.mem_cons_self)
set_option maxRecDepth 20000 in
theorem j_pm210_2 : j_c210_2 ∈ j_P.2.1 210 := by
  have h : j_P.2.1 210 = [j_c210_0, j_c210_1, j_c210_2, j_c210_3, j_c210_4] := by rfl
  rw [h]
  exact List.mem_cons_of_mem _ (List.mem_cons_of_mem _ (List.mem_cons_self))
set_option maxRecDepth 20000 in
theorem j_pm213_0 : j_c213_0 ∈ j_P.2.1 213 := by
  have h : j_P.2.1 213 = [j_c213_0, j_c213_1, j_c213_2, j_c213_3, j_c213_4, j_c213_5, j_c213_6] := by rfl
  rw [h]
  exact List.mem_cons_self
set_option maxRecDepth 20000 in
theorem j_pm213_1 : j_c213_1 ∈ j_P.2.1 213 := by
  have h : j_P.2.1 213 = [j_c213_0, j_c213_1, j_c213_2, j_c213_3, j_c213_4, j_c213_5, j_c213_6] := by rfl
  rw [h]
  exact List.mem_cons_of_mem _ (List.mem_cons_self)
set_option maxRecDepth 20000 in
theorem j_pm213_2 : j_c213_2 ∈ j_P.2.1 213 := by
  have h : j_P.2.1 213 = [j_c213_0, j_c213_1, j_c213_2, j_c213_3, j_c213_4, j_c213_5, j_c213_6] := by rfl
  rw [h]
  exact List.mem_cons_of_mem _ (List.mem_cons_of_mem _ (List.mem_cons_self))
set_option maxRecDepth 20000 in
theorem j_pm213_3 : j_c213_3 ∈ j_P.2.1 213 := by
  have h : j_P.2.1 213 = [j_c213_0, j_c213_1, j_c213_2, j_c213_3, j_c213_4, j_c213_5, j_c213_6] := by rfl
  rw [h]
  exact List.mem_cons_of_mem _ (List.mem_cons_of_mem _ (List.mem_cons_of_mem _ (List.mem_cons_self)))
set_option maxRecDepth 20000 in
theorem j_pm213_4 : j_c213_4 ∈ j_P.2.1 213 := by
  have h : j_P.2.1 213 = [j_c213_0, j_c213_1, j_c213_2, j_c213_3, j_c213_4, j_c213_5, j_c213_6] := by rfl
  rw [h]
  exact List.mem_cons_of_mem _ (List.mem_cons_of_mem _ (List.mem_cons_of_mem _ (List.mem_cons_of_mem _ (List.mem_cons_self))))
set_option maxRecDepth 20000 in
theorem j_pm214_0 : j_c214_0 ∈ j_P.2.1 214 := by
  have h : j_P.2.1 214 = [j_c214_0, j_c214_1, j_c214_2, j_c214_3, j_c214_4] := by rfl
  rw [h]
  exact List.mem_cons_self
set_option maxRecDepth 20000 in
theorem j_pm214_1 : j_c214_1 ∈ j_P.2.1 214 := by
  have h : j_P.2.1 214 = [j_c214_0, j_c214_1, j_c214_2, j_c214_3, j_c214_4] := by rfl
  rw [h]
  exact List.mem_cons_of_mem _ (List.mem_cons_self)
set_option maxRecDepth 20000 in
theorem j_pm214_2 : j_c214_2 ∈ j_P.2.1 214 := by
  have h : j_P.2.1 214 = [j_c214_0, j_c214_1, j_c214_2, j_c214_3, j_c214_4] := by rfl
  rw [h]
  exact List.mem_cons_of_mem _ (List.mem_cons_of_mem _ (List.mem_cons_self))
set_option maxRecDepth 20000 in
theorem j_pm214_3 : j_c214_3 ∈ j_P.2.1 214 := by
  have h : j_P.2.1 214 = [j_c214_0, j_c214_1, j_c214_2, j_c214_3, j_c214_4] := by rfl
  rw [h]
  exact List.mem_cons_of_mem _ (List.mem_cons_of_mem _ (List.mem_cons_of_mem _ (List.mem_cons_self)))
set_option maxRecDepth 20000 in
theorem j_pm214_4 : j_c214_4 ∈ j_P.2.1 214 := by
  have h : j_P.2.1 214 = [j_c214_0, j_c214_1, j_c214_2, j_c214_3, j_c214_4] := by rfl
  rw [h]
  exact List.mem_cons_of_mem _ (List.mem_cons_of_mem _ (List.mem_cons_of_mem _ (List.mem_cons_of_mem _ (List.mem_cons_self))))
set_option maxRecDepth 20000 in
theorem j_pm215_0 : j_c215_0 ∈ j_P.2.1 215 := by
  have h : j_P.2.1 215 = [j_c215_0, j_c215_1, j_c215_2, j_c215_3, j_c215_4, j_c215_5, j_c215_6, j_c215_7, j_c215_8, j_c215_9] := by rfl
  rw [h]
  exact List.mem_cons_self
set_option maxRecDepth 20000 in
theorem j_pm215_1 : j_c215_1 ∈ j_P.2.1 215 := by
  have h : j_P.2.1 215 = [j_c215_0, j_c215_1, j_c215_2, j_c215_3, j_c215_4, j_c215_5, j_c215_6, j_c215_7, j_c215_8, j_c215_9] := by rfl
  rw [h]
  exact List.mem_cons_of_mem _ (List.mem_cons_self)
set_option maxRecDepth 20000 in
theorem j_pm215_2 : j_c215_2 ∈ j_P.2.1 215 := by
  have h : j_P.2.1 215 = [j_c215_0, j_c215_1, j_c215_2, j_c215_3, j_c215_4, j_c215_5, j_c215_6, j_c215_7, j_c215_8, j_c215_9] := by rfl
  rw [h]
  exact List.mem_cons_of_mem _ (List.mem_cons_of_mem _ (List.mem_cons_self))
set_option maxRecDepth 20000 in
theorem j_pm215_3 : j_c215_3 ∈ j_P.2.1 215 := by
  have h : j_P.2.1 215 = [j_c215_0, j_c215_1, j_c215_2, j_c215_3, j_c215_4, j_c215_5, j_c215_6, j_c215_7, j_c215_8, j_c215_9] := by rfl
  rw [h]
  exact List.mem_cons_of_mem _ (List.mem_cons_of_mem _ (List.mem_cons_of_mem _ (List.mem_cons_self)))
set_option maxRecDepth 20000 in
theorem j_pm215_4 : j_c215_4 ∈ j_P.2.1 215 := by
  have h : j_P.2.1 215 = [j_c215_0, j_c215_1, j_c215_2, j_c215_3, j_c215_4, j_c215_5, j_c215_6, j_c215_7, j_c215_8, j_c215_9] := by rfl
  rw [h]
  exact List.mem_cons_of_mem _ (List.mem_cons_of_mem _ (List.mem_cons_of_mem _ (List.mem_cons_of_mem _ (List.mem_cons_self))))
set_option maxRecDepth 20000 in
theorem j_pm215_5 : j_c215_5 ∈ j_P.2.1 215 := by
  have h : j_P.2.1 215 = [j_c215_0, j_c215_1, j_c215_2, j_c215_3, j_c215_4, j_c215_5, j_c215_6, j_c215_7, j_c215_8, j_c215_9] := by rfl
  rw [h]
  exact List.mem_cons_of_mem _ (List.mem_cons_of_mem _ (List.mem_cons_of_mem _ (List.mem_cons_of_mem _ (List.mem_cons_of_mem _ (List.mem_cons_self)))))
/-- the ghosts of a call: the witness place, the witness tray, what is taken off a number -/
def j_g0 (k t : Nat) (q1 q2 q3 : Int) (j : Nat) : Int := if j = 40 then (k : Int) else if j = 41 then (t : Int) else if j = 300 then q1 else if j = 301 then q2 else if j = 302 then q3 else 0
def j_Ex0 (s : State) (D : va_G) (dA : Nat → ClassId) (a : Nat) (w : cWld) (vals : List Value) (H' : Heap) (rv : List Value) : Prop := ∀ i : j_Ix, i.1 ∈ j_P.2.1 a → ct_mc i.1 = 0 → ct_ms i.1 = 0 → c_Pre i.1 i.2.1 vals (j_Wi w i) → c_ev i.2.1 (ct_dep i.1) ≤ ((1000 : Nat) : Int) → c_TW j_K dA (j_Wi w i) → ∃ (rv2 : List Value) (res2 : List Int) (w2 : cWld), rv2.head? = rv.head? ∧ c_retV (ct_ret i.1) rv2 res2 ∧ c_Post i.1 i.2.1 (j_Wi w i) w2 res2 ∧ va_P D k_cl w2.2.1 H' ∧ va_D (k_AA s) w2.2.1 ∧ c_TW j_K dA w2
section R7
variable {s : State} {D : va_G} {dA : Nat → ClassId} {a1 a2 rw nm : Nat} {r : Nat → Nat} {w w' : cWld} {H H' : Heap} {locs locs' : List Loc}
theorem j_shp9 {t : Nat} (ht : t < 4) : (j_K.2.1 (90 + t)).1 = 2 := by
  rcases (show t = 0 ∨ t = 1 ∨ t = 2 ∨ t = 3 by omega) with rfl | rfl | rfl | rfl <;> decide +kernel
theorem k_fnL {w : cWld} {dA : Nat → ClassId} {a t i N ci : Nat} (hT : c_TW k_K dA w) (hin : c_in w a t) (hs : k_K.2.1 t = (2, N, ci)) (hi : i < N) : ∃ z, k_fn w a t i z := by
  obtain ⟨e, h1, h2⟩ := hin
  have hf := (hT _ h1).1
  dsimp only at hf
  rw [h2, hs] at hf
  obtain ⟨f, rfl⟩ := hf
  exact ⟨_, _, .long (f i), h1, h2, if_pos hi, rfl⟩
/-- a row's number, kept by a call that doesn't write the row -/
theorem j_rowK {E : cEff} {pros : List Nat} {g : Nat → Int} {w2 : cWld} {t k : Nat} {v : Int} (hS : k_S7 a1 a2 w rw nm r) (I1 : k_In s D dA a1 a2 w' H' locs') (hS1 : k_S7 a1 a2 w' rw nm r) (he : c_ext E pros (j_w w a1 rw r g) w2) (hp : pros.all (fun t => Nat.ble 101 t) = true) (hP2 : va_P D k_cl w2.2.1 H') (hT2 : c_TW j_K dA w2) (ht : t < 4) (hE : c_off E (90 + t) (k : Int) (k : Int) = true) (hf : k_fn w (r t) 17 k v) : k_fn w' (r t) 17 k v :=
  j_back I1.1 hP2 I1.2.2.1 hT2 (hS1.2.2.1 t ht).2 rfl (j_shp9 ht) (k_fnK he hp (by omega) hE (j_fn hS g hf (j_in_row hS g ht)))
theorem j_numK {E : cEff} {pros : List Nat} {g : Nat → Int} {w2 : cWld} {i : Nat} {v : Int} (hS : k_S7 a1 a2 w rw nm r) (I1 : k_In s D dA a1 a2 w' H' locs') (hS1 : k_S7 a1 a2 w' rw nm r) (he : c_ext E pros (j_w w a1 rw r g) w2) (hp : pros.all (fun t => Nat.ble 101 t) = true) (hP2 : va_P D k_cl w2.2.1 H') (hT2 : c_TW j_K dA w2) (hE : c_off E 61 (i : Int) (i : Int) = true) (hf : k_fn w nm 61 i v) : k_fn w' nm 61 i v :=
  j_back I1.1 hP2 I1.2.2.1 hT2 hS1.2.2.2.2.2 (by decide +kernel) (by decide +kernel) (k_fnK he hp (by decide) hE (j_fn hS g hf (j_in_keep hS g (by decide) (by decide) (by decide) (by decide) hS.2.2.2.2.2)))
theorem k_trayC7s0 {k : Nat} {v : Int} {y1 y2 y3 r9 : Int32} (I : k_In s D dA a1 a2 w H locs) (hS : k_S7 a1 a2 w rw nm r) (I1 : k_In s D dA a1 a2 w' H' locs') (hS1 : k_S7 a1 a2 w' rw nm r) (hj : j_Ex0 s D dA 123 w [.ref a1, .int y1, .int y2, .int y3] H' [.int r9]) (hy1 : y1.toInt = 0) (hk : k < 60) (hf : k_fn w (r 0) 17 k v) : ∃ v', k_fn w' (r 0) 17 k v' ∧ ((r9.toInt = 1 ∧ v' = 0) ∨ (r9.toInt = 0 ∧ v' = v)) := by
  have hpd := k_preD (ct := j_c123_0) (r := k_rv [(a1 : Int), (0 : Int), y2.toInt, y3.toInt, (k : Int), (rw : Int), (r 0 : Int), v]) (vals := [.ref a1, .int y1, .int y2, .int y3]) (w := j_w w a1 rw r (j_g0 k 0 0 0 0)) (by decide +kernel) ⟨(by show (0 : Int) ≤ (3) + (0); omega), trivial⟩ ⟨k_aR (j_in_a1 hS _ I.2.2.2.2.1), ⟨_, rfl, hy1, Int.le_refl _, Int.le_refl _⟩, k_aI _, k_aI _, trivial⟩ ⟨⟨40, rfl, c_gv_id40 (by show (0 : Int) ≤ (k : Int); omega) (by show (k : Int) ≤ 59; omega)⟩, k_fnC (b := 0) (j_fn hS (j_g0 k 0 0 0 0) hS.1 (j_in_a1 hS _ I.2.2.2.2.1)) rfl rfl, k_fnC (b := 5) (j_fn hS (j_g0 k 0 0 0 0) (hS.2.2.1 0 (by omega)).1 (j_in_rw hS _)) rfl (by show (0 : Int) + (1 * (0 : Int) + 0) = _; rfl), k_fnC (b := 6) (j_fn hS (j_g0 k 0 0 0 0) hf (j_in_row hS _ (t := 0) (by omega))) rfl (by show (0 : Int) + (1 * (k : Int) + 0) = _; omega), trivial⟩
  obtain ⟨rv2, res2, w2, hh, hr2, hp2, hP2, hD2, hT2⟩ := hj (j_c123_0, k_rv [(a1 : Int), (0 : Int), y2.toInt, y3.toInt, (k : Int), (rw : Int), (r 0 : Int), v], j_tg w a1 rw r, j_g0 k 0 0 0 0) j_pm123_0 rfl rfl hpd.1 hpd.2 (j_TW (D := D) I.2.2.1 I.2.1 hS I.2.2.2.2.1 _)
  obtain ⟨x9, rfl, rfl, -, -⟩ := hr2
  have hx9 : x9 = r9 := by injection (Option.some.inj hh)
  subst hx9
  obtain ⟨he2, -, d, hd, rr, p1, p2, p3, p4, -⟩ := hp2
  have e1 : rr 1 = (a1 : Int) := p1 1 (by show 1 < c_entryN j_c123_0; decide)
  have e2 : rr 2 = (0 : Int) := p1 2 (by show 2 < c_entryN j_c123_0; decide)
  have e3 : rr 3 = y2.toInt := p1 3 (by show 3 < c_entryN j_c123_0; decide)
  have e4 : rr 4 = y3.toInt := p1 4 (by show 4 < c_entryN j_c123_0; decide)
  have e5 : rr 5 = (k : Int) := p1 5 (by show 5 < c_entryN j_c123_0; decide)
  have e6 : rr 6 = (rw : Int) := p1 6 (by show 6 < c_entryN j_c123_0; decide)
  have e7 : rr 7 = (r 0 : Int) := p1 7 (by show 7 < c_entryN j_c123_0; decide)
  have e8 : rr 8 = v := p1 8 (by show 8 < c_entryN j_c123_0; decide)
  have er : rr 9 = x9.toInt := p2 0 _ rfl
  have hin2 := k_inK he2 (by show ((ct_pros j_c123_0).all fun t => Nat.ble 101 t) = true; decide +kernel) (by decide) (j_in_row hS (j_g0 k 0 0 0 0) (t := 0) (by omega))
  have hd : d ∈ ct_post j_c123_0 := hd
  simp only [ct_post, j_c123_0, List.mem_cons, List.not_mem_nil, or_false] at hd
  rcases hd with rfl | rfl
  all_goals
    have hc : k_fn w2 (r 0) 90 k (rr 10) := k_fnD (b := 6) (p3 0 _ rfl) e7 (by show (0 : Int) + (1 * rr 5 + 0) = _; rw [e5]; omega) hin2
    simp only [List.forall_mem_cons, c_ev, c_evs, List.not_mem_nil, false_implies, implies_true, and_true, e8, er] at p4
    exact ⟨rr 10, j_back I1.1 hP2 I1.2.2.1 hT2 (hS1.2.2.1 0 (by omega)).2 rfl rfl hc, by omega⟩
theorem k_trayC7o0 {k t : Nat} {v v0 : Int} {y1 y2 y3 r9 : Int32} (I : k_In s D dA a1 a2 w H locs) (hS : k_S7 a1 a2 w rw nm r) (I1 : k_In s D dA a1 a2 w' H' locs') (hS1 : k_S7 a1 a2 w' rw nm r) (hj : j_Ex0 s D dA 123 w [.ref a1, .int y1, .int y2, .int y3] H' [.int r9]) (hy1 : y1.toInt = 0) (hk : k < 60) (ht : t < 4) (hne : t ≠ 0) (hf0 : k_fn w (r 0) 17 k v0) (hf : k_fn w (r t) 17 k v) : k_fn w' (r t) 17 k v := by
  have hpd := k_preD (ct := j_c123_0) (r := k_rv [(a1 : Int), (0 : Int), y2.toInt, y3.toInt, (k : Int), (rw : Int), (r 0 : Int), v0]) (vals := [.ref a1, .int y1, .int y2, .int y3]) (w := j_w w a1 rw r (j_g0 k 0 0 0 0)) (by decide +kernel) ⟨(by show (0 : Int) ≤ (3) + (0); omega), trivial⟩ ⟨k_aR (j_in_a1 hS _ I.2.2.2.2.1), ⟨_, rfl, hy1, Int.le_refl _, Int.le_refl _⟩, k_aI _, k_aI _, trivial⟩ ⟨⟨40, rfl, c_gv_id40 (by show (0 : Int) ≤ (k : Int); omega) (by show (k : Int) ≤ 59; omega)⟩, k_fnC (b := 0) (j_fn hS (j_g0 k 0 0 0 0) hS.1 (j_in_a1 hS _ I.2.2.2.2.1)) rfl rfl, k_fnC (b := 5) (j_fn hS (j_g0 k 0 0 0 0) (hS.2.2.1 0 (by omega)).1 (j_in_rw hS _)) rfl (by show (0 : Int) + (1 * (0 : Int) + 0) = _; rfl), k_fnC (b := 6) (j_fn hS (j_g0 k 0 0 0 0) hf0 (j_in_row hS _ (t := 0) (by omega))) rfl (by show (0 : Int) + (1 * (k : Int) + 0) = _; omega), trivial⟩
  obtain ⟨rv2, res2, w2, hh, hr2, hp2, hP2, hD2, hT2⟩ := hj (j_c123_0, k_rv [(a1 : Int), (0 : Int), y2.toInt, y3.toInt, (k : Int), (rw : Int), (r 0 : Int), v0], j_tg w a1 rw r, j_g0 k 0 0 0 0) j_pm123_0 rfl rfl hpd.1 hpd.2 (j_TW (D := D) I.2.2.1 I.2.1 hS I.2.2.2.2.1 _)
  obtain ⟨he2, -⟩ := hp2
  exact j_rowK hS I1 hS1 he2 (by show ((ct_pros j_c123_0).all fun t => Nat.ble 101 t) = true; decide +kernel) hP2 hT2 ht (k_none_ok (by show k_none (ct_eff j_c123_0) (90 + t) = true; rcases (show t = 1 ∨ t = 2 ∨ t = 3 by omega) with rfl | rfl | rfl <;> decide +kernel) _ _) hf
theorem k_trayC7s1 {k : Nat} {v : Int} {y1 y2 y3 r9 : Int32} (I : k_In s D dA a1 a2 w H locs) (hS : k_S7 a1 a2 w rw nm r) (I1 : k_In s D dA a1 a2 w' H' locs') (hS1 : k_S7 a1 a2 w' rw nm r) (hj : j_Ex0 s D dA 123 w [.ref a1, .int y1, .int y2, .int y3] H' [.int r9]) (hy1 : y1.toInt = 1) (hk : k < 60) (hf : k_fn w (r 1) 17 k v) : ∃ v', k_fn w' (r 1) 17 k v' ∧ ((r9.toInt = 1 ∧ v' = 0) ∨ (r9.toInt = 0 ∧ v' = v)) := by
  have hpd := k_preD (ct := j_c123_1) (r := k_rv [(a1 : Int), (1 : Int), y2.toInt, y3.toInt, (k : Int), (rw : Int), (r 1 : Int), v]) (vals := [.ref a1, .int y1, .int y2, .int y3]) (w := j_w w a1 rw r (j_g0 k 0 0 0 0)) (by decide +kernel) ⟨(by show (0 : Int) ≤ (3) + (0); omega), trivial⟩ ⟨k_aR (j_in_a1 hS _ I.2.2.2.2.1), ⟨_, rfl, hy1, Int.le_refl _, Int.le_refl _⟩, k_aI _, k_aI _, trivial⟩ ⟨⟨40, rfl, c_gv_id40 (by show (0 : Int) ≤ (k : Int); omega) (by show (k : Int) ≤ 59; omega)⟩, k_fnC (b := 0) (j_fn hS (j_g0 k 0 0 0 0) hS.1 (j_in_a1 hS _ I.2.2.2.2.1)) rfl rfl, k_fnC (b := 5) (j_fn hS (j_g0 k 0 0 0 0) (hS.2.2.1 1 (by omega)).1 (j_in_rw hS _)) rfl (by show (0 : Int) + (1 * (1 : Int) + 0) = _; rfl), k_fnC (b := 6) (j_fn hS (j_g0 k 0 0 0 0) hf (j_in_row hS _ (t := 1) (by omega))) rfl (by show (0 : Int) + (1 * (k : Int) + 0) = _; omega), trivial⟩
  obtain ⟨rv2, res2, w2, hh, hr2, hp2, hP2, hD2, hT2⟩ := hj (j_c123_1, k_rv [(a1 : Int), (1 : Int), y2.toInt, y3.toInt, (k : Int), (rw : Int), (r 1 : Int), v], j_tg w a1 rw r, j_g0 k 0 0 0 0) j_pm123_1 rfl rfl hpd.1 hpd.2 (j_TW (D := D) I.2.2.1 I.2.1 hS I.2.2.2.2.1 _)
  obtain ⟨x9, rfl, rfl, -, -⟩ := hr2
  have hx9 : x9 = r9 := by injection (Option.some.inj hh)
  subst hx9
  obtain ⟨he2, -, d, hd, rr, p1, p2, p3, p4, -⟩ := hp2
  have e1 : rr 1 = (a1 : Int) := p1 1 (by show 1 < c_entryN j_c123_1; decide)
  have e2 : rr 2 = (1 : Int) := p1 2 (by show 2 < c_entryN j_c123_1; decide)
  have e3 : rr 3 = y2.toInt := p1 3 (by show 3 < c_entryN j_c123_1; decide)
  have e4 : rr 4 = y3.toInt := p1 4 (by show 4 < c_entryN j_c123_1; decide)
  have e5 : rr 5 = (k : Int) := p1 5 (by show 5 < c_entryN j_c123_1; decide)
  have e6 : rr 6 = (rw : Int) := p1 6 (by show 6 < c_entryN j_c123_1; decide)
  have e7 : rr 7 = (r 1 : Int) := p1 7 (by show 7 < c_entryN j_c123_1; decide)
  have e8 : rr 8 = v := p1 8 (by show 8 < c_entryN j_c123_1; decide)
  have er : rr 9 = x9.toInt := p2 0 _ rfl
  have hin2 := k_inK he2 (by show ((ct_pros j_c123_1).all fun t => Nat.ble 101 t) = true; decide +kernel) (by decide) (j_in_row hS (j_g0 k 0 0 0 0) (t := 1) (by omega))
  have hd : d ∈ ct_post j_c123_1 := hd
  simp only [ct_post, j_c123_1, List.mem_cons, List.not_mem_nil, or_false] at hd
  rcases hd with rfl | rfl
  all_goals
    have hc : k_fn w2 (r 1) 91 k (rr 10) := k_fnD (b := 6) (p3 0 _ rfl) e7 (by show (0 : Int) + (1 * rr 5 + 0) = _; rw [e5]; omega) hin2
    simp only [List.forall_mem_cons, c_ev, c_evs, List.not_mem_nil, false_implies, implies_true, and_true, e8, er] at p4
    exact ⟨rr 10, j_back I1.1 hP2 I1.2.2.1 hT2 (hS1.2.2.1 1 (by omega)).2 rfl rfl hc, by omega⟩
theorem k_trayC7o1 {k t : Nat} {v v0 : Int} {y1 y2 y3 r9 : Int32} (I : k_In s D dA a1 a2 w H locs) (hS : k_S7 a1 a2 w rw nm r) (I1 : k_In s D dA a1 a2 w' H' locs') (hS1 : k_S7 a1 a2 w' rw nm r) (hj : j_Ex0 s D dA 123 w [.ref a1, .int y1, .int y2, .int y3] H' [.int r9]) (hy1 : y1.toInt = 1) (hk : k < 60) (ht : t < 4) (hne : t ≠ 1) (hf0 : k_fn w (r 1) 17 k v0) (hf : k_fn w (r t) 17 k v) : k_fn w' (r t) 17 k v := by
  have hpd := k_preD (ct := j_c123_1) (r := k_rv [(a1 : Int), (1 : Int), y2.toInt, y3.toInt, (k : Int), (rw : Int), (r 1 : Int), v0]) (vals := [.ref a1, .int y1, .int y2, .int y3]) (w := j_w w a1 rw r (j_g0 k 0 0 0 0)) (by decide +kernel) ⟨(by show (0 : Int) ≤ (3) + (0); omega), trivial⟩ ⟨k_aR (j_in_a1 hS _ I.2.2.2.2.1), ⟨_, rfl, hy1, Int.le_refl _, Int.le_refl _⟩, k_aI _, k_aI _, trivial⟩ ⟨⟨40, rfl, c_gv_id40 (by show (0 : Int) ≤ (k : Int); omega) (by show (k : Int) ≤ 59; omega)⟩, k_fnC (b := 0) (j_fn hS (j_g0 k 0 0 0 0) hS.1 (j_in_a1 hS _ I.2.2.2.2.1)) rfl rfl, k_fnC (b := 5) (j_fn hS (j_g0 k 0 0 0 0) (hS.2.2.1 1 (by omega)).1 (j_in_rw hS _)) rfl (by show (0 : Int) + (1 * (1 : Int) + 0) = _; rfl), k_fnC (b := 6) (j_fn hS (j_g0 k 0 0 0 0) hf0 (j_in_row hS _ (t := 1) (by omega))) rfl (by show (0 : Int) + (1 * (k : Int) + 0) = _; omega), trivial⟩
  obtain ⟨rv2, res2, w2, hh, hr2, hp2, hP2, hD2, hT2⟩ := hj (j_c123_1, k_rv [(a1 : Int), (1 : Int), y2.toInt, y3.toInt, (k : Int), (rw : Int), (r 1 : Int), v0], j_tg w a1 rw r, j_g0 k 0 0 0 0) j_pm123_1 rfl rfl hpd.1 hpd.2 (j_TW (D := D) I.2.2.1 I.2.1 hS I.2.2.2.2.1 _)
  obtain ⟨he2, -⟩ := hp2
  exact j_rowK hS I1 hS1 he2 (by show ((ct_pros j_c123_1).all fun t => Nat.ble 101 t) = true; decide +kernel) hP2 hT2 ht (k_none_ok (by show k_none (ct_eff j_c123_1) (90 + t) = true; rcases (show t = 0 ∨ t = 2 ∨ t = 3 by omega) with rfl | rfl | rfl <;> decide +kernel) _ _) hf
theorem k_trayC7s2 {k : Nat} {v : Int} {y1 y2 y3 r9 : Int32} (I : k_In s D dA a1 a2 w H locs) (hS : k_S7 a1 a2 w rw nm r) (I1 : k_In s D dA a1 a2 w' H' locs') (hS1 : k_S7 a1 a2 w' rw nm r) (hj : j_Ex0 s D dA 123 w [.ref a1, .int y1, .int y2, .int y3] H' [.int r9]) (hy1 : y1.toInt = 2) (hk : k < 60) (hf : k_fn w (r 2) 17 k v) : ∃ v', k_fn w' (r 2) 17 k v' ∧ ((r9.toInt = 1 ∧ v' = 0) ∨ (r9.toInt = 0 ∧ v' = v)) := by
  have hpd := k_preD (ct := j_c123_2) (r := k_rv [(a1 : Int), (2 : Int), y2.toInt, y3.toInt, (k : Int), (rw : Int), (r 2 : Int), v]) (vals := [.ref a1, .int y1, .int y2, .int y3]) (w := j_w w a1 rw r (j_g0 k 0 0 0 0)) (by decide +kernel) ⟨(by show (0 : Int) ≤ (3) + (0); omega), trivial⟩ ⟨k_aR (j_in_a1 hS _ I.2.2.2.2.1), ⟨_, rfl, hy1, Int.le_refl _, Int.le_refl _⟩, k_aI _, k_aI _, trivial⟩ ⟨⟨40, rfl, c_gv_id40 (by show (0 : Int) ≤ (k : Int); omega) (by show (k : Int) ≤ 59; omega)⟩, k_fnC (b := 0) (j_fn hS (j_g0 k 0 0 0 0) hS.1 (j_in_a1 hS _ I.2.2.2.2.1)) rfl rfl, k_fnC (b := 5) (j_fn hS (j_g0 k 0 0 0 0) (hS.2.2.1 2 (by omega)).1 (j_in_rw hS _)) rfl (by show (0 : Int) + (1 * (2 : Int) + 0) = _; rfl), k_fnC (b := 6) (j_fn hS (j_g0 k 0 0 0 0) hf (j_in_row hS _ (t := 2) (by omega))) rfl (by show (0 : Int) + (1 * (k : Int) + 0) = _; omega), trivial⟩
  obtain ⟨rv2, res2, w2, hh, hr2, hp2, hP2, hD2, hT2⟩ := hj (j_c123_2, k_rv [(a1 : Int), (2 : Int), y2.toInt, y3.toInt, (k : Int), (rw : Int), (r 2 : Int), v], j_tg w a1 rw r, j_g0 k 0 0 0 0) j_pm123_2 rfl rfl hpd.1 hpd.2 (j_TW (D := D) I.2.2.1 I.2.1 hS I.2.2.2.2.1 _)
  obtain ⟨x9, rfl, rfl, -, -⟩ := hr2
  have hx9 : x9 = r9 := by injection (Option.some.inj hh)
  subst hx9
  obtain ⟨he2, -, d, hd, rr, p1, p2, p3, p4, -⟩ := hp2
  have e1 : rr 1 = (a1 : Int) := p1 1 (by show 1 < c_entryN j_c123_2; decide)
  have e2 : rr 2 = (2 : Int) := p1 2 (by show 2 < c_entryN j_c123_2; decide)
  have e3 : rr 3 = y2.toInt := p1 3 (by show 3 < c_entryN j_c123_2; decide)
  have e4 : rr 4 = y3.toInt := p1 4 (by show 4 < c_entryN j_c123_2; decide)
  have e5 : rr 5 = (k : Int) := p1 5 (by show 5 < c_entryN j_c123_2; decide)
  have e6 : rr 6 = (rw : Int) := p1 6 (by show 6 < c_entryN j_c123_2; decide)
  have e7 : rr 7 = (r 2 : Int) := p1 7 (by show 7 < c_entryN j_c123_2; decide)
  have e8 : rr 8 = v := p1 8 (by show 8 < c_entryN j_c123_2; decide)
  have er : rr 9 = x9.toInt := p2 0 _ rfl
  have hin2 := k_inK he2 (by show ((ct_pros j_c123_2).all fun t => Nat.ble 101 t) = true; decide +kernel) (by decide) (j_in_row hS (j_g0 k 0 0 0 0) (t := 2) (by omega))
  have hd : d ∈ ct_post j_c123_2 := hd
  simp only [ct_post, j_c123_2, List.mem_cons, List.not_mem_nil, or_false] at hd
  rcases hd with rfl | rfl
  all_goals
    have hc : k_fn w2 (r 2) 92 k (rr 10) := k_fnD (b := 6) (p3 0 _ rfl) e7 (by show (0 : Int) + (1 * rr 5 + 0) = _; rw [e5]; omega) hin2
    simp only [List.forall_mem_cons, c_ev, c_evs, List.not_mem_nil, false_implies, implies_true, and_true, e8, er] at p4
    exact ⟨rr 10, j_back I1.1 hP2 I1.2.2.1 hT2 (hS1.2.2.1 2 (by omega)).2 rfl rfl hc, by omega⟩
theorem k_trayC7o2 {k t : Nat} {v v0 : Int} {y1 y2 y3 r9 : Int32} (I : k_In s D dA a1 a2 w H locs) (hS : k_S7 a1 a2 w rw nm r) (I1 : k_In s D dA a1 a2 w' H' locs') (hS1 : k_S7 a1 a2 w' rw nm r) (hj : j_Ex0 s D dA 123 w [.ref a1, .int y1, .int y2, .int y3] H' [.int r9]) (hy1 : y1.toInt = 2) (hk : k < 60) (ht : t < 4) (hne : t ≠ 2) (hf0 : k_fn w (r 2) 17 k v0) (hf : k_fn w (r t) 17 k v) : k_fn w' (r t) 17 k v := by
  have hpd := k_preD (ct := j_c123_2) (r := k_rv [(a1 : Int), (2 : Int), y2.toInt, y3.toInt, (k : Int), (rw : Int), (r 2 : Int), v0]) (vals := [.ref a1, .int y1, .int y2, .int y3]) (w := j_w w a1 rw r (j_g0 k 0 0 0 0)) (by decide +kernel) ⟨(by show (0 : Int) ≤ (3) + (0); omega), trivial⟩ ⟨k_aR (j_in_a1 hS _ I.2.2.2.2.1), ⟨_, rfl, hy1, Int.le_refl _, Int.le_refl _⟩, k_aI _, k_aI _, trivial⟩ ⟨⟨40, rfl, c_gv_id40 (by show (0 : Int) ≤ (k : Int); omega) (by show (k : Int) ≤ 59; omega)⟩, k_fnC (b := 0) (j_fn hS (j_g0 k 0 0 0 0) hS.1 (j_in_a1 hS _ I.2.2.2.2.1)) rfl rfl, k_fnC (b := 5) (j_fn hS (j_g0 k 0 0 0 0) (hS.2.2.1 2 (by omega)).1 (j_in_rw hS _)) rfl (by show (0 : Int) + (1 * (2 : Int) + 0) = _; rfl), k_fnC (b := 6) (j_fn hS (j_g0 k 0 0 0 0) hf0 (j_in_row hS _ (t := 2) (by omega))) rfl (by show (0 : Int) + (1 * (k : Int) + 0) = _; omega), trivial⟩
  obtain ⟨rv2, res2, w2, hh, hr2, hp2, hP2, hD2, hT2⟩ := hj (j_c123_2, k_rv [(a1 : Int), (2 : Int), y2.toInt, y3.toInt, (k : Int), (rw : Int), (r 2 : Int), v0], j_tg w a1 rw r, j_g0 k 0 0 0 0) j_pm123_2 rfl rfl hpd.1 hpd.2 (j_TW (D := D) I.2.2.1 I.2.1 hS I.2.2.2.2.1 _)
  obtain ⟨he2, -⟩ := hp2
  exact j_rowK hS I1 hS1 he2 (by show ((ct_pros j_c123_2).all fun t => Nat.ble 101 t) = true; decide +kernel) hP2 hT2 ht (k_none_ok (by show k_none (ct_eff j_c123_2) (90 + t) = true; rcases (show t = 0 ∨ t = 1 ∨ t = 3 by omega) with rfl | rfl | rfl <;> decide +kernel) _ _) hf
theorem k_trayC7s3 {k : Nat} {v : Int} {y1 y2 y3 r9 : Int32} (I : k_In s D dA a1 a2 w H locs) (hS : k_S7 a1 a2 w rw nm r) (I1 : k_In s D dA a1 a2 w' H' locs') (hS1 : k_S7 a1 a2 w' rw nm r) (hj : j_Ex0 s D dA 123 w [.ref a1, .int y1, .int y2, .int y3] H' [.int r9]) (hy1 : y1.toInt = 3) (hk : k < 60) (hf : k_fn w (r 3) 17 k v) : ∃ v', k_fn w' (r 3) 17 k v' ∧ ((r9.toInt = 1 ∧ v' = 0) ∨ (r9.toInt = 0 ∧ v' = v)) := by
  have hpd := k_preD (ct := j_c123_3) (r := k_rv [(a1 : Int), (3 : Int), y2.toInt, y3.toInt, (k : Int), (rw : Int), (r 3 : Int), v]) (vals := [.ref a1, .int y1, .int y2, .int y3]) (w := j_w w a1 rw r (j_g0 k 0 0 0 0)) (by decide +kernel) ⟨(by show (0 : Int) ≤ (3) + (0); omega), trivial⟩ ⟨k_aR (j_in_a1 hS _ I.2.2.2.2.1), ⟨_, rfl, hy1, Int.le_refl _, Int.le_refl _⟩, k_aI _, k_aI _, trivial⟩ ⟨⟨40, rfl, c_gv_id40 (by show (0 : Int) ≤ (k : Int); omega) (by show (k : Int) ≤ 59; omega)⟩, k_fnC (b := 0) (j_fn hS (j_g0 k 0 0 0 0) hS.1 (j_in_a1 hS _ I.2.2.2.2.1)) rfl rfl, k_fnC (b := 5) (j_fn hS (j_g0 k 0 0 0 0) (hS.2.2.1 3 (by omega)).1 (j_in_rw hS _)) rfl (by show (0 : Int) + (1 * (3 : Int) + 0) = _; rfl), k_fnC (b := 6) (j_fn hS (j_g0 k 0 0 0 0) hf (j_in_row hS _ (t := 3) (by omega))) rfl (by show (0 : Int) + (1 * (k : Int) + 0) = _; omega), trivial⟩
  obtain ⟨rv2, res2, w2, hh, hr2, hp2, hP2, hD2, hT2⟩ := hj (j_c123_3, k_rv [(a1 : Int), (3 : Int), y2.toInt, y3.toInt, (k : Int), (rw : Int), (r 3 : Int), v], j_tg w a1 rw r, j_g0 k 0 0 0 0) j_pm123_3 rfl rfl hpd.1 hpd.2 (j_TW (D := D) I.2.2.1 I.2.1 hS I.2.2.2.2.1 _)
  obtain ⟨x9, rfl, rfl, -, -⟩ := hr2
  have hx9 : x9 = r9 := by injection (Option.some.inj hh)
  subst hx9
  obtain ⟨he2, -, d, hd, rr, p1, p2, p3, p4, -⟩ := hp2
  have e1 : rr 1 = (a1 : Int) := p1 1 (by show 1 < c_entryN j_c123_3; decide)
  have e2 : rr 2 = (3 : Int) := p1 2 (by show 2 < c_entryN j_c123_3; decide)
  have e3 : rr 3 = y2.toInt := p1 3 (by show 3 < c_entryN j_c123_3; decide)
  have e4 : rr 4 = y3.toInt := p1 4 (by show 4 < c_entryN j_c123_3; decide)
  have e5 : rr 5 = (k : Int) := p1 5 (by show 5 < c_entryN j_c123_3; decide)
  have e6 : rr 6 = (rw : Int) := p1 6 (by show 6 < c_entryN j_c123_3; decide)
  have e7 : rr 7 = (r 3 : Int) := p1 7 (by show 7 < c_entryN j_c123_3; decide)
  have e8 : rr 8 = v := p1 8 (by show 8 < c_entryN j_c123_3; decide)
  have er : rr 9 = x9.toInt := p2 0 _ rfl
  have hin2 := k_inK he2 (by show ((ct_pros j_c123_3).all fun t => Nat.ble 101 t) = true; decide +kernel) (by decide) (j_in_row hS (j_g0 k 0 0 0 0) (t := 3) (by omega))
  have hd : d ∈ ct_post j_c123_3 := hd
  simp only [ct_post, j_c123_3, List.mem_cons, List.not_mem_nil, or_false] at hd
  rcases hd with rfl | rfl
  all_goals
    have hc : k_fn w2 (r 3) 93 k (rr 10) := k_fnD (b := 6) (p3 0 _ rfl) e7 (by show (0 : Int) + (1 * rr 5 + 0) = _; rw [e5]; omega) hin2
    simp only [List.forall_mem_cons, c_ev, c_evs, List.not_mem_nil, false_implies, implies_true, and_true, e8, er] at p4
    exact ⟨rr 10, j_back I1.1 hP2 I1.2.2.1 hT2 (hS1.2.2.1 3 (by omega)).2 rfl rfl hc, by omega⟩
theorem k_trayC7o3 {k t : Nat} {v v0 : Int} {y1 y2 y3 r9 : Int32} (I : k_In s D dA a1 a2 w H locs) (hS : k_S7 a1 a2 w rw nm r) (I1 : k_In s D dA a1 a2 w' H' locs') (hS1 : k_S7 a1 a2 w' rw nm r) (hj : j_Ex0 s D dA 123 w [.ref a1, .int y1, .int y2, .int y3] H' [.int r9]) (hy1 : y1.toInt = 3) (hk : k < 60) (ht : t < 4) (hne : t ≠ 3) (hf0 : k_fn w (r 3) 17 k v0) (hf : k_fn w (r t) 17 k v) : k_fn w' (r t) 17 k v := by
  have hpd := k_preD (ct := j_c123_3) (r := k_rv [(a1 : Int), (3 : Int), y2.toInt, y3.toInt, (k : Int), (rw : Int), (r 3 : Int), v0]) (vals := [.ref a1, .int y1, .int y2, .int y3]) (w := j_w w a1 rw r (j_g0 k 0 0 0 0)) (by decide +kernel) ⟨(by show (0 : Int) ≤ (3) + (0); omega), trivial⟩ ⟨k_aR (j_in_a1 hS _ I.2.2.2.2.1), ⟨_, rfl, hy1, Int.le_refl _, Int.le_refl _⟩, k_aI _, k_aI _, trivial⟩ ⟨⟨40, rfl, c_gv_id40 (by show (0 : Int) ≤ (k : Int); omega) (by show (k : Int) ≤ 59; omega)⟩, k_fnC (b := 0) (j_fn hS (j_g0 k 0 0 0 0) hS.1 (j_in_a1 hS _ I.2.2.2.2.1)) rfl rfl, k_fnC (b := 5) (j_fn hS (j_g0 k 0 0 0 0) (hS.2.2.1 3 (by omega)).1 (j_in_rw hS _)) rfl (by show (0 : Int) + (1 * (3 : Int) + 0) = _; rfl), k_fnC (b := 6) (j_fn hS (j_g0 k 0 0 0 0) hf0 (j_in_row hS _ (t := 3) (by omega))) rfl (by show (0 : Int) + (1 * (k : Int) + 0) = _; omega), trivial⟩
  obtain ⟨rv2, res2, w2, hh, hr2, hp2, hP2, hD2, hT2⟩ := hj (j_c123_3, k_rv [(a1 : Int), (3 : Int), y2.toInt, y3.toInt, (k : Int), (rw : Int), (r 3 : Int), v0], j_tg w a1 rw r, j_g0 k 0 0 0 0) j_pm123_3 rfl rfl hpd.1 hpd.2 (j_TW (D := D) I.2.2.1 I.2.1 hS I.2.2.2.2.1 _)
  obtain ⟨he2, -⟩ := hp2
  exact j_rowK hS I1 hS1 he2 (by show ((ct_pros j_c123_3).all fun t => Nat.ble 101 t) = true; decide +kernel) hP2 hT2 ht (k_none_ok (by show k_none (ct_eff j_c123_3) (90 + t) = true; rcases (show t = 0 ∨ t = 1 ∨ t = 2 by omega) with rfl | rfl | rfl <;> decide +kernel) _ _) hf
theorem k_trayM7e {k t : Nat} {v : Int} {y1 y2 y3 r9 : Int32} (I : k_In s D dA a1 a2 w H locs) (hS : k_S7 a1 a2 w rw nm r) (I1 : k_In s D dA a1 a2 w' H' locs') (hS1 : k_S7 a1 a2 w' rw nm r) (hj : j_Ex0 s D dA 210 w [.ref a2, .int y1, .int y2, .int y3] H' [.int r9]) (hy1 : y1.toInt = (t : Int)) (ht : t < 4) (hk : k < 60) (hf : k_fn w nm 61 (60 * t + k) v) : ∃ v', k_fn w' nm 61 (60 * t + k) v' ∧ ((r9.toInt = 0 ∧ v' = v) ∨ (r9.toInt = 1 ∧ (y3.toInt ≤ (k : Int) ∨ v' = 0))) := by
  have hpd := k_preD (ct := j_c210_0) (r := k_rv [(a2 : Int), y1.toInt, y2.toInt, y3.toInt, (k : Int), (nm : Int), v]) (vals := [.ref a2, .int y1, .int y2, .int y3]) (w := j_w w a1 rw r (j_g0 k 0 0 0 0)) (by decide +kernel) ⟨(by show (0 : Int) ≤ (3) + (0); omega), trivial⟩ ⟨k_aR (j_in_keep hS _ (by decide) (by decide) (by decide) (by decide) I.2.2.2.2.2.1), ⟨_, rfl, rfl, (by show (0 : Int) ≤ y1.toInt; omega), (by show y1.toInt ≤ (3 : Int); omega)⟩, k_aI _, k_aI _, trivial⟩ ⟨⟨40, rfl, c_gv_id40 (by show (0 : Int) ≤ (k : Int); omega) (by show (k : Int) ≤ 59; omega)⟩, k_fnC (b := 0) (j_fn hS (j_g0 k 0 0 0 0) hS.2.2.2.2.1 (j_in_keep hS _ (by decide) (by decide) (by decide) (by decide) I.2.2.2.2.2.1)) rfl rfl, k_fnC (b := 5) (j_fn hS (j_g0 k 0 0 0 0) hf (j_in_keep hS _ (by decide) (by decide) (by decide) (by decide) hS.2.2.2.2.2)) rfl (by show (0 : Int) + (60 * y1.toInt + (1 * (k : Int) + 0)) = _; omega), trivial⟩
  obtain ⟨rv2, res2, w2, hh, hr2, hp2, hP2, hD2, hT2⟩ := hj (j_c210_0, k_rv [(a2 : Int), y1.toInt, y2.toInt, y3.toInt, (k : Int), (nm : Int), v], j_tg w a1 rw r, j_g0 k 0 0 0 0) j_pm210_0 rfl rfl hpd.1 hpd.2 (j_TW (D := D) I.2.2.1 I.2.1 hS I.2.2.2.2.1 _)
  obtain ⟨x9, rfl, rfl, -, -⟩ := hr2
  have hx9 : x9 = r9 := by injection (Option.some.inj hh)
  subst hx9
  obtain ⟨he2, -, d, hd, rr, p1, p2, p3, p4, -⟩ := hp2
  have e1 : rr 1 = (a2 : Int) := p1 1 (by show 1 < c_entryN j_c210_0; decide)
  have e2 : rr 2 = y1.toInt := p1 2 (by show 2 < c_entryN j_c210_0; decide)
  have e3 : rr 3 = y2.toInt := p1 3 (by show 3 < c_entryN j_c210_0; decide)
  have e4 : rr 4 = y3.toInt := p1 4 (by show 4 < c_entryN j_c210_0; decide)
  have e5 : rr 5 = (k : Int) := p1 5 (by show 5 < c_entryN j_c210_0; decide)
  have e6 : rr 6 = (nm : Int) := p1 6 (by show 6 < c_entryN j_c210_0; decide)
  have e7 : rr 7 = v := p1 7 (by show 7 < c_entryN j_c210_0; decide)
  have er : rr 8 = x9.toInt := p2 0 _ rfl
  have hin2 := k_inK he2 (by show ((ct_pros j_c210_0).all fun t => Nat.ble 101 t) = true; decide +kernel) (by decide) (j_in_keep hS (j_g0 k 0 0 0 0) (by decide) (by decide) (by decide) (by decide) hS.2.2.2.2.2)
  have hd : d ∈ ct_post j_c210_0 := hd
  simp only [ct_post, j_c210_0, List.mem_cons, List.not_mem_nil, or_false] at hd
  rcases hd with rfl | rfl | rfl
  · have hc : k_fn w2 nm 61 (60 * t + k) (rr 9) := k_fnD (b := 5) (p3 0 _ rfl) e6 (by show (0 : Int) + (60 * rr 2 + (1 * rr 5 + 0)) = _; rw [e2, e5]; omega) hin2
    simp only [List.forall_mem_cons, c_ev, c_evs, List.not_mem_nil, false_implies, implies_true, and_true, e7, er] at p4
    exact ⟨rr 9, j_back I1.1 hP2 I1.2.2.1 hT2 hS1.2.2.2.2.2 (by decide +kernel) (by decide +kernel) hc, by omega⟩
  · simp only [List.forall_mem_cons, c_ev, c_evs, List.not_mem_nil, false_implies, implies_true, and_true, e4, e5, er] at p4
    obtain ⟨z, hz⟩ := k_fnL (i := 60 * t + k) I1.2.2.1 hS1.2.2.2.2.2 (show k_K.2.1 61 = (2, 240, 0) by decide +kernel) (by omega)
    exact ⟨z, hz, by omega⟩
  · have hc : k_fn w2 nm 61 (60 * t + k) (rr 9) := k_fnD (b := 5) (p3 0 _ rfl) e6 (by show (0 : Int) + (60 * rr 2 + (1 * rr 5 + 0)) = _; rw [e2, e5]; omega) hin2
    simp only [List.forall_mem_cons, c_ev, c_evs, List.not_mem_nil, false_implies, implies_true, and_true, e7, er] at p4
    exact ⟨rr 9, j_back I1.1 hP2 I1.2.2.1 hT2 hS1.2.2.2.2.2 (by decide +kernel) (by decide +kernel) hc, by omega⟩
theorem k_trayM7l {k t : Nat} {v : Int} {y1 y2 y3 r9 : Int32} (I : k_In s D dA a1 a2 w H locs) (hS : k_S7 a1 a2 w rw nm r) (I1 : k_In s D dA a1 a2 w' H' locs') (hS1 : k_S7 a1 a2 w' rw nm r) (hj : j_Ex0 s D dA 210 w [.ref a2, .int y1, .int y2, .int y3] H' [.int r9]) (h0 : 0 ≤ y1.toInt) (h3 : y1.toInt ≤ 3) (hy : y1.toInt < (t : Int)) (ht : t < 4) (hk : k < 60) (hf : k_fn w nm 61 (60 * t + k) v) : ∃ v', k_fn w' nm 61 (60 * t + k) v' ∧ v' = v := by
  have hpd := k_preD (ct := j_c210_1) (r := k_rv [(a2 : Int), y1.toInt, y2.toInt, y3.toInt, (k : Int), (t : Int), (nm : Int), v]) (vals := [.ref a2, .int y1, .int y2, .int y3]) (w := j_w w a1 rw r (j_g0 k t 0 0 0)) (by decide +kernel) ⟨(by show (0 : Int) ≤ (-1) + ((-1) * y1.toInt + ((1) * (t : Int) + (0))); omega), (by show (0 : Int) ≤ (0) + ((1) * (t : Int) + (0)); omega), (by show (0 : Int) ≤ (3) + ((-1) * (t : Int) + (0)); omega), (by show (0 : Int) ≤ (3) + (0); omega), trivial⟩ ⟨k_aR (j_in_keep hS _ (by decide) (by decide) (by decide) (by decide) I.2.2.2.2.2.1), ⟨_, rfl, rfl, (by show (0 : Int) ≤ y1.toInt; omega), (by show y1.toInt ≤ (3 : Int); omega)⟩, k_aI _, k_aI _, trivial⟩ ⟨⟨40, rfl, c_gv_id40 (by show (0 : Int) ≤ (k : Int); omega) (by show (k : Int) ≤ 59; omega)⟩, ⟨41, rfl, c_gv_id (by decide) (by show (-1099511627776 : Int) ≤ (t : Int); omega) (by show (t : Int) ≤ 1099511627776; omega)⟩, k_fnC (b := 0) (j_fn hS (j_g0 k t 0 0 0) hS.2.2.2.2.1 (j_in_keep hS _ (by decide) (by decide) (by decide) (by decide) I.2.2.2.2.2.1)) rfl rfl, k_fnC (b := 6) (j_fn hS (j_g0 k t 0 0 0) hf (j_in_keep hS _ (by decide) (by decide) (by decide) (by decide) hS.2.2.2.2.2)) rfl (by show (0 : Int) + (1 * (k : Int) + (60 * (t : Int) + 0)) = _; omega), trivial⟩
  obtain ⟨rv2, res2, w2, hh, hr2, hp2, hP2, hD2, hT2⟩ := hj (j_c210_1, k_rv [(a2 : Int), y1.toInt, y2.toInt, y3.toInt, (k : Int), (t : Int), (nm : Int), v], j_tg w a1 rw r, j_g0 k t 0 0 0) j_pm210_1 rfl rfl hpd.1 hpd.2 (j_TW (D := D) I.2.2.1 I.2.1 hS I.2.2.2.2.1 _)
  obtain ⟨x9, rfl, rfl, -, -⟩ := hr2
  have hx9 : x9 = r9 := by injection (Option.some.inj hh)
  subst hx9
  obtain ⟨he2, -, d, hd, rr, p1, p2, p3, p4, -⟩ := hp2
  have e1 : rr 1 = (a2 : Int) := p1 1 (by show 1 < c_entryN j_c210_1; decide)
  have e2 : rr 2 = y1.toInt := p1 2 (by show 2 < c_entryN j_c210_1; decide)
  have e3 : rr 3 = y2.toInt := p1 3 (by show 3 < c_entryN j_c210_1; decide)
  have e4 : rr 4 = y3.toInt := p1 4 (by show 4 < c_entryN j_c210_1; decide)
  have e5 : rr 5 = (k : Int) := p1 5 (by show 5 < c_entryN j_c210_1; decide)
  have e6 : rr 6 = (t : Int) := p1 6 (by show 6 < c_entryN j_c210_1; decide)
  have e7 : rr 7 = (nm : Int) := p1 7 (by show 7 < c_entryN j_c210_1; decide)
  have e8 : rr 8 = v := p1 8 (by show 8 < c_entryN j_c210_1; decide)
  have er : rr 9 = x9.toInt := p2 0 _ rfl
  have hin2 := k_inK he2 (by show ((ct_pros j_c210_1).all fun t => Nat.ble 101 t) = true; decide +kernel) (by decide) (j_in_keep hS (j_g0 k t 0 0 0) (by decide) (by decide) (by decide) (by decide) hS.2.2.2.2.2)
  have hd : d ∈ ct_post j_c210_1 := hd
  simp only [ct_post, j_c210_1, List.mem_cons, List.not_mem_nil, or_false] at hd
  subst hd
  have hc : k_fn w2 nm 61 (60 * t + k) (rr 10) := k_fnD (b := 6) (p3 0 _ rfl) e7 (by show (0 : Int) + (1 * rr 5 + (60 * rr 6 + 0)) = _; rw [e5, e6]; omega) hin2
  simp only [List.forall_mem_cons, c_ev, c_evs, List.not_mem_nil, false_implies, implies_true, and_true, e8, er] at p4
  exact ⟨rr 10, j_back I1.1 hP2 I1.2.2.1 hT2 hS1.2.2.2.2.2 (by decide +kernel) (by decide +kernel) hc, by omega⟩
theorem k_trayM7g {k t : Nat} {v : Int} {y1 y2 y3 r9 : Int32} (I : k_In s D dA a1 a2 w H locs) (hS : k_S7 a1 a2 w rw nm r) (I1 : k_In s D dA a1 a2 w' H' locs') (hS1 : k_S7 a1 a2 w' rw nm r) (hj : j_Ex0 s D dA 210 w [.ref a2, .int y1, .int y2, .int y3] H' [.int r9]) (h0 : 0 ≤ y1.toInt) (h3 : y1.toInt ≤ 3) (hy : (t : Int) < y1.toInt) (ht : t < 4) (hk : k < 60) (hf : k_fn w nm 61 (60 * t + k) v) : ∃ v', k_fn w' nm 61 (60 * t + k) v' ∧ v' = v := by
  have hpd := k_preD (ct := j_c210_2) (r := k_rv [(a2 : Int), y1.toInt, y2.toInt, y3.toInt, (k : Int), (t : Int), (nm : Int), v]) (vals := [.ref a2, .int y1, .int y2, .int y3]) (w := j_w w a1 rw r (j_g0 k t 0 0 0)) (by decide +kernel) ⟨(by show (0 : Int) ≤ (-1) + ((1) * y1.toInt + ((-1) * (t : Int) + (0))); omega), (by show (0 : Int) ≤ (0) + ((1) * (t : Int) + (0)); omega), (by show (0 : Int) ≤ (3) + ((-1) * (t : Int) + (0)); omega), (by show (0 : Int) ≤ (3) + (0); omega), trivial⟩ ⟨k_aR (j_in_keep hS _ (by decide) (by decide) (by decide) (by decide) I.2.2.2.2.2.1), ⟨_, rfl, rfl, (by show (0 : Int) ≤ y1.toInt; omega), (by show y1.toInt ≤ (3 : Int); omega)⟩, k_aI _, k_aI _, trivial⟩ ⟨⟨40, rfl, c_gv_id40 (by show (0 : Int) ≤ (k : Int); omega) (by show (k : Int) ≤ 59; omega)⟩, ⟨41, rfl, c_gv_id (by decide) (by show (-1099511627776 : Int) ≤ (t : Int); omega) (by show (t : Int) ≤ 1099511627776; omega)⟩, k_fnC (b := 0) (j_fn hS (j_g0 k t 0 0 0) hS.2.2.2.2.1 (j_in_keep hS _ (by decide) (by decide) (by decide) (by decide) I.2.2.2.2.2.1)) rfl rfl, k_fnC (b := 6) (j_fn hS (j_g0 k t 0 0 0) hf (j_in_keep hS _ (by decide) (by decide) (by decide) (by decide) hS.2.2.2.2.2)) rfl (by show (0 : Int) + (1 * (k : Int) + (60 * (t : Int) + 0)) = _; omega), trivial⟩
  obtain ⟨rv2, res2, w2, hh, hr2, hp2, hP2, hD2, hT2⟩ := hj (j_c210_2, k_rv [(a2 : Int), y1.toInt, y2.toInt, y3.toInt, (k : Int), (t : Int), (nm : Int), v], j_tg w a1 rw r, j_g0 k t 0 0 0) j_pm210_2 rfl rfl hpd.1 hpd.2 (j_TW (D := D) I.2.2.1 I.2.1 hS I.2.2.2.2.1 _)
  obtain ⟨x9, rfl, rfl, -, -⟩ := hr2
  have hx9 : x9 = r9 := by injection (Option.some.inj hh)
  subst hx9
  obtain ⟨he2, -, d, hd, rr, p1, p2, p3, p4, -⟩ := hp2
  have e1 : rr 1 = (a2 : Int) := p1 1 (by show 1 < c_entryN j_c210_2; decide)
  have e2 : rr 2 = y1.toInt := p1 2 (by show 2 < c_entryN j_c210_2; decide)
  have e3 : rr 3 = y2.toInt := p1 3 (by show 3 < c_entryN j_c210_2; decide)
  have e4 : rr 4 = y3.toInt := p1 4 (by show 4 < c_entryN j_c210_2; decide)
  have e5 : rr 5 = (k : Int) := p1 5 (by show 5 < c_entryN j_c210_2; decide)
  have e6 : rr 6 = (t : Int) := p1 6 (by show 6 < c_entryN j_c210_2; decide)
  have e7 : rr 7 = (nm : Int) := p1 7 (by show 7 < c_entryN j_c210_2; decide)
  have e8 : rr 8 = v := p1 8 (by show 8 < c_entryN j_c210_2; decide)
  have er : rr 9 = x9.toInt := p2 0 _ rfl
  have hin2 := k_inK he2 (by show ((ct_pros j_c210_2).all fun t => Nat.ble 101 t) = true; decide +kernel) (by decide) (j_in_keep hS (j_g0 k t 0 0 0) (by decide) (by decide) (by decide) (by decide) hS.2.2.2.2.2)
  have hd : d ∈ ct_post j_c210_2 := hd
  simp only [ct_post, j_c210_2, List.mem_cons, List.not_mem_nil, or_false] at hd
  subst hd
  have hc : k_fn w2 nm 61 (60 * t + k) (rr 10) := k_fnD (b := 6) (p3 0 _ rfl) e7 (by show (0 : Int) + (1 * rr 5 + (60 * rr 6 + 0)) = _; rw [e5, e6]; omega) hin2
  simp only [List.forall_mem_cons, c_ev, c_evs, List.not_mem_nil, false_implies, implies_true, and_true, e8, er] at p4
  exact ⟨rr 10, j_back I1.1 hP2 I1.2.2.1 hT2 hS1.2.2.2.2.2 (by decide +kernel) (by decide +kernel) hc, by omega⟩
theorem k_writeC7e0 {k so : Nat} {v s0 : Int} {q1 q2 q3 : Int} {y1 y2 r9 : Int32} {y3 : Int64} (I : k_In s D dA a1 a2 w H locs) (hS : k_S7 a1 a2 w rw nm r) (I1 : k_In s D dA a1 a2 w' H' locs') (hS1 : k_S7 a1 a2 w' rw nm r) (hj : j_Ex0 s D dA 125 w [.ref a1, .int y1, .int y2, .long y3] H' [.int r9]) (b1 : -1099511627776 ≤ q1 ∧ q1 ≤ 1099511627776) (b2 : -1099511627776 ≤ q2 ∧ q2 ≤ 1099511627776) (b3 : -1099511627776 ≤ q3 ∧ q3 ≤ 1099511627776) (c1 : -2147483648 ≤ y3.toInt - 4294967296 * q1 ∧ y3.toInt - 4294967296 * q1 ≤ 2147483647) (c2 : -128 ≤ y3.toInt - 4294967296 * q1 - 256 * q2 ∧ y3.toInt - 4294967296 * q1 - 256 * q2 ≤ 127) (c3 : -32768 ≤ y3.toInt - 4294967296 * q1 - 65536 * q3 ∧ y3.toInt - 4294967296 * q1 - 65536 * q3 ≤ 32767) (hso : k_fn w a1 12 4 (so : Int)) (hsi : c_in w so 14) (hs0 : k_fn w so 14 0 s0) (hy1 : y1.toInt = 0) (hy2 : y2.toInt = (k : Int)) (hk : k < 60) (hf : k_fn w (r 0) 17 k v) : ∃ v', k_fn w' (r 0) 17 k v' ∧ ((r9.toInt = 0 ∧ v' = v) ∨ (r9.toInt = 1 ∧ ((s0 = 0 ∧ v' = y3.toInt - 4294967296 * q1 - 256 * q2) ∨ (s0 = 1 ∧ v' = y3.toInt - 4294967296 * q1 - 65536 * q3) ∨ (s0 = 2 ∧ v' = y3.toInt - 4294967296 * q1) ∨ (s0 = 3 ∧ v' = y3.toInt)))) := by
  have hpd := k_preD (ct := j_c125_0) (r := k_rv [(a1 : Int), (0 : Int), y2.toInt, y3.toInt, q1, q2, q3, (rw : Int), (r 0 : Int), v, (so : Int), s0]) (vals := [.ref a1, .int y1, .int y2, .long y3]) (w := j_w w a1 rw r (j_g0 k 0 q1 q2 q3)) (by decide +kernel) ⟨(by show (0 : Int) ≤ (2147483648) + ((1) * y3.toInt + ((-4294967296) * q1 + (0))); omega), (by show (0 : Int) ≤ (2147483647) + ((-1) * y3.toInt + ((4294967296) * q1 + (0))); omega), (by show (0 : Int) ≤ (128) + ((1) * y3.toInt + ((-4294967296) * q1 + ((-256) * q2 + (0)))); omega), (by show (0 : Int) ≤ (127) + ((-1) * y3.toInt + ((4294967296) * q1 + ((256) * q2 + (0)))); omega), (by show (0 : Int) ≤ (32768) + ((1) * y3.toInt + ((-4294967296) * q1 + ((-65536) * q3 + (0)))); omega), (by show (0 : Int) ≤ (32767) + ((-1) * y3.toInt + ((4294967296) * q1 + ((65536) * q3 + (0)))); omega), (by show (0 : Int) ≤ (4) + (0); omega), trivial⟩ ⟨k_aR (j_in_a1 hS _ I.2.2.2.2.1), ⟨_, rfl, hy1, Int.le_refl _, Int.le_refl _⟩, ⟨_, rfl, rfl, (by show (0 : Int) ≤ y2.toInt; omega), (by show y2.toInt ≤ (59 : Int); omega)⟩, k_aJ _, trivial⟩ ⟨⟨300, rfl, c_gv_id (by decide) (by show (-1099511627776 : Int) ≤ q1; omega) (by show q1 ≤ 1099511627776; omega)⟩, ⟨301, rfl, c_gv_id (by decide) (by show (-1099511627776 : Int) ≤ q2; omega) (by show q2 ≤ 1099511627776; omega)⟩, ⟨302, rfl, c_gv_id (by decide) (by show (-1099511627776 : Int) ≤ q3; omega) (by show q3 ≤ 1099511627776; omega)⟩, k_fnC (b := 0) (j_fn hS (j_g0 k 0 q1 q2 q3) hS.1 (j_in_a1 hS _ I.2.2.2.2.1)) rfl rfl, k_fnC (b := 7) (j_fn hS (j_g0 k 0 q1 q2 q3) (hS.2.2.1 0 (by omega)).1 (j_in_rw hS _)) rfl (by show (0 : Int) + (1 * (0 : Int) + 0) = _; rfl), k_fnC (b := 8) (j_fn hS (j_g0 k 0 q1 q2 q3) hf (j_in_row hS _ (t := 0) (by omega))) rfl (by show (0 : Int) + (1 * y2.toInt + 0) = _; omega), k_fnC (b := 0) (j_fn hS (j_g0 k 0 q1 q2 q3) hso (j_in_a1 hS _ I.2.2.2.2.1)) rfl rfl, k_fnC (b := 10) (j_fn hS (j_g0 k 0 q1 q2 q3) hs0 (j_in_keep hS _ (by decide) (by decide) (by decide) (by decide) hsi)) rfl (by show (0 : Int) + (1 * (0 : Int) + 0) = _; omega), trivial⟩
  obtain ⟨rv2, res2, w2, hh, hr2, hp2, hP2, hD2, hT2⟩ := hj (j_c125_0, k_rv [(a1 : Int), (0 : Int), y2.toInt, y3.toInt, q1, q2, q3, (rw : Int), (r 0 : Int), v, (so : Int), s0], j_tg w a1 rw r, j_g0 k 0 q1 q2 q3) j_pm125_0 rfl rfl hpd.1 hpd.2 (j_TW (D := D) I.2.2.1 I.2.1 hS I.2.2.2.2.1 _)
  obtain ⟨x9, rfl, rfl, -, -⟩ := hr2
  have hx9 : x9 = r9 := by injection (Option.some.inj hh)
  subst hx9
  obtain ⟨he2, -, d, hd, rr, p1, p2, p3, p4, -⟩ := hp2
  have e1 : rr 1 = (a1 : Int) := p1 1 (by show 1 < c_entryN j_c125_0; decide)
  have e2 : rr 2 = (0 : Int) := p1 2 (by show 2 < c_entryN j_c125_0; decide)
  have e3 : rr 3 = y2.toInt := p1 3 (by show 3 < c_entryN j_c125_0; decide)
  have e4 : rr 4 = y3.toInt := p1 4 (by show 4 < c_entryN j_c125_0; decide)
  have e5 : rr 5 = q1 := p1 5 (by show 5 < c_entryN j_c125_0; decide)
  have e6 : rr 6 = q2 := p1 6 (by show 6 < c_entryN j_c125_0; decide)
  have e7 : rr 7 = q3 := p1 7 (by show 7 < c_entryN j_c125_0; decide)
  have e8 : rr 8 = (rw : Int) := p1 8 (by show 8 < c_entryN j_c125_0; decide)
  have e9 : rr 9 = (r 0 : Int) := p1 9 (by show 9 < c_entryN j_c125_0; decide)
  have e10 : rr 10 = v := p1 10 (by show 10 < c_entryN j_c125_0; decide)
  have e11 : rr 11 = (so : Int) := p1 11 (by show 11 < c_entryN j_c125_0; decide)
  have e12 : rr 12 = s0 := p1 12 (by show 12 < c_entryN j_c125_0; decide)
  have er : rr 13 = x9.toInt := p2 0 _ rfl
  have hin2 := k_inK he2 (by show ((ct_pros j_c125_0).all fun t => Nat.ble 101 t) = true; decide +kernel) (by decide) (j_in_row hS (j_g0 k 0 q1 q2 q3) (t := 0) (by omega))
  have hd : d ∈ ct_post j_c125_0 := hd
  simp only [ct_post, j_c125_0, List.mem_cons, List.not_mem_nil, or_false] at hd
  rcases hd with rfl | rfl | rfl | rfl | rfl
  all_goals
    have hc : k_fn w2 (r 0) 90 k (rr 14) := k_fnD (b := 8) (p3 0 _ rfl) e9 (by show (0 : Int) + (1 * rr 3 + 0) = _; rw [e3]; omega) hin2
    simp only [List.forall_mem_cons, c_ev, c_evs, List.not_mem_nil, false_implies, implies_true, and_true, e4, e5, e6, e7, e10, e12, er] at p4
    exact ⟨rr 14, j_back I1.1 hP2 I1.2.2.1 hT2 (hS1.2.2.1 0 (by omega)).2 rfl rfl hc, by omega⟩
theorem k_writeC7o0 {k k0 t so : Nat} {v v0 s0 : Int} {q1 q2 q3 : Int} {y1 y2 r9 : Int32} {y3 : Int64} (I : k_In s D dA a1 a2 w H locs) (hS : k_S7 a1 a2 w rw nm r) (I1 : k_In s D dA a1 a2 w' H' locs') (hS1 : k_S7 a1 a2 w' rw nm r) (hj : j_Ex0 s D dA 125 w [.ref a1, .int y1, .int y2, .long y3] H' [.int r9]) (b1 : -1099511627776 ≤ q1 ∧ q1 ≤ 1099511627776) (b2 : -1099511627776 ≤ q2 ∧ q2 ≤ 1099511627776) (b3 : -1099511627776 ≤ q3 ∧ q3 ≤ 1099511627776) (c1 : -2147483648 ≤ y3.toInt - 4294967296 * q1 ∧ y3.toInt - 4294967296 * q1 ≤ 2147483647) (c2 : -128 ≤ y3.toInt - 4294967296 * q1 - 256 * q2 ∧ y3.toInt - 4294967296 * q1 - 256 * q2 ≤ 127) (c3 : -32768 ≤ y3.toInt - 4294967296 * q1 - 65536 * q3 ∧ y3.toInt - 4294967296 * q1 - 65536 * q3 ≤ 32767) (hso : k_fn w a1 12 4 (so : Int)) (hsi : c_in w so 14) (hs0 : k_fn w so 14 0 s0) (hy1 : y1.toInt = 0) (hy2 : y2.toInt = (k0 : Int)) (hk0 : k0 < 60) (ht : t < 4) (hne : t ≠ 0) (hf0 : k_fn w (r 0) 17 k0 v0) (hf : k_fn w (r t) 17 k v) : k_fn w' (r t) 17 k v := by
  have hpd := k_preD (ct := j_c125_0) (r := k_rv [(a1 : Int), (0 : Int), y2.toInt, y3.toInt, q1, q2, q3, (rw : Int), (r 0 : Int), v0, (so : Int), s0]) (vals := [.ref a1, .int y1, .int y2, .long y3]) (w := j_w w a1 rw r (j_g0 k 0 q1 q2 q3)) (by decide +kernel) ⟨(by show (0 : Int) ≤ (2147483648) + ((1) * y3.toInt + ((-4294967296) * q1 + (0))); omega), (by show (0 : Int) ≤ (2147483647) + ((-1) * y3.toInt + ((4294967296) * q1 + (0))); omega), (by show (0 : Int) ≤ (128) + ((1) * y3.toInt + ((-4294967296) * q1 + ((-256) * q2 + (0)))); omega), (by show (0 : Int) ≤ (127) + ((-1) * y3.toInt + ((4294967296) * q1 + ((256) * q2 + (0)))); omega), (by show (0 : Int) ≤ (32768) + ((1) * y3.toInt + ((-4294967296) * q1 + ((-65536) * q3 + (0)))); omega), (by show (0 : Int) ≤ (32767) + ((-1) * y3.toInt + ((4294967296) * q1 + ((65536) * q3 + (0)))); omega), (by show (0 : Int) ≤ (4) + (0); omega), trivial⟩ ⟨k_aR (j_in_a1 hS _ I.2.2.2.2.1), ⟨_, rfl, hy1, Int.le_refl _, Int.le_refl _⟩, ⟨_, rfl, rfl, (by show (0 : Int) ≤ y2.toInt; omega), (by show y2.toInt ≤ (59 : Int); omega)⟩, k_aJ _, trivial⟩ ⟨⟨300, rfl, c_gv_id (by decide) (by show (-1099511627776 : Int) ≤ q1; omega) (by show q1 ≤ 1099511627776; omega)⟩, ⟨301, rfl, c_gv_id (by decide) (by show (-1099511627776 : Int) ≤ q2; omega) (by show q2 ≤ 1099511627776; omega)⟩, ⟨302, rfl, c_gv_id (by decide) (by show (-1099511627776 : Int) ≤ q3; omega) (by show q3 ≤ 1099511627776; omega)⟩, k_fnC (b := 0) (j_fn hS (j_g0 k 0 q1 q2 q3) hS.1 (j_in_a1 hS _ I.2.2.2.2.1)) rfl rfl, k_fnC (b := 7) (j_fn hS (j_g0 k 0 q1 q2 q3) (hS.2.2.1 0 (by omega)).1 (j_in_rw hS _)) rfl (by show (0 : Int) + (1 * (0 : Int) + 0) = _; rfl), k_fnC (b := 8) (j_fn hS (j_g0 k 0 q1 q2 q3) hf0 (j_in_row hS _ (t := 0) (by omega))) rfl (by show (0 : Int) + (1 * y2.toInt + 0) = _; omega), k_fnC (b := 0) (j_fn hS (j_g0 k 0 q1 q2 q3) hso (j_in_a1 hS _ I.2.2.2.2.1)) rfl rfl, k_fnC (b := 10) (j_fn hS (j_g0 k 0 q1 q2 q3) hs0 (j_in_keep hS _ (by decide) (by decide) (by decide) (by decide) hsi)) rfl (by show (0 : Int) + (1 * (0 : Int) + 0) = _; omega), trivial⟩
  obtain ⟨rv2, res2, w2, hh, hr2, hp2, hP2, hD2, hT2⟩ := hj (j_c125_0, k_rv [(a1 : Int), (0 : Int), y2.toInt, y3.toInt, q1, q2, q3, (rw : Int), (r 0 : Int), v0, (so : Int), s0], j_tg w a1 rw r, j_g0 k 0 q1 q2 q3) j_pm125_0 rfl rfl hpd.1 hpd.2 (j_TW (D := D) I.2.2.1 I.2.1 hS I.2.2.2.2.1 _)
  obtain ⟨he2, -⟩ := hp2
  exact j_rowK hS I1 hS1 he2 (by show ((ct_pros j_c125_0).all fun t => Nat.ble 101 t) = true; decide +kernel) hP2 hT2 ht (k_none_ok (by show k_none (ct_eff j_c125_0) (90 + t) = true; rcases (show t = 1 ∨ t = 2 ∨ t = 3 by omega) with rfl | rfl | rfl <;> decide +kernel) _ _) hf
theorem k_writeC7l0 {k : Nat} {v : Int} {q1 q2 q3 : Int} {y1 y2 r9 : Int32} {y3 : Int64} (I : k_In s D dA a1 a2 w H locs) (hS : k_S7 a1 a2 w rw nm r) (I1 : k_In s D dA a1 a2 w' H' locs') (hS1 : k_S7 a1 a2 w' rw nm r) (hj : j_Ex0 s D dA 125 w [.ref a1, .int y1, .int y2, .long y3] H' [.int r9]) (b1 : -1099511627776 ≤ q1 ∧ q1 ≤ 1099511627776) (b2 : -1099511627776 ≤ q2 ∧ q2 ≤ 1099511627776) (b3 : -1099511627776 ≤ q3 ∧ q3 ≤ 1099511627776) (c1 : -2147483648 ≤ y3.toInt - 4294967296 * q1 ∧ y3.toInt - 4294967296 * q1 ≤ 2147483647) (c2 : -128 ≤ y3.toInt - 4294967296 * q1 - 256 * q2 ∧ y3.toInt - 4294967296 * q1 - 256 * q2 ≤ 127) (c3 : -32768 ≤ y3.toInt - 4294967296 * q1 - 65536 * q3 ∧ y3.toInt - 4294967296 * q1 - 65536 * q3 ≤ 32767) (hy1 : y1.toInt = 0) (hy : y2.toInt < (k : Int)) (hk : k < 60) (hf : k_fn w (r 0) 17 k v) : ∃ v', k_fn w' (r 0) 17 k v' ∧ v' = v := by
  have hpd := k_preD (ct := j_c125_1) (r := k_rv [(a1 : Int), (0 : Int), y2.toInt, y3.toInt, (k : Int), q1, q2, q3, (rw : Int), (r 0 : Int), v]) (vals := [.ref a1, .int y1, .int y2, .long y3]) (w := j_w w a1 rw r (j_g0 k 0 q1 q2 q3)) (by decide +kernel) ⟨(by show (0 : Int) ≤ (-1) + ((-1) * y2.toInt + ((1) * (k : Int) + (0))); omega), (by show (0 : Int) ≤ (2147483648) + ((1) * y3.toInt + ((-4294967296) * q1 + (0))); omega), (by show (0 : Int) ≤ (2147483647) + ((-1) * y3.toInt + ((4294967296) * q1 + (0))); omega), (by show (0 : Int) ≤ (128) + ((1) * y3.toInt + ((-4294967296) * q1 + ((-256) * q2 + (0)))); omega), (by show (0 : Int) ≤ (127) + ((-1) * y3.toInt + ((4294967296) * q1 + ((256) * q2 + (0)))); omega), (by show (0 : Int) ≤ (32768) + ((1) * y3.toInt + ((-4294967296) * q1 + ((-65536) * q3 + (0)))); omega), (by show (0 : Int) ≤ (32767) + ((-1) * y3.toInt + ((4294967296) * q1 + ((65536) * q3 + (0)))); omega), (by show (0 : Int) ≤ (4) + (0); omega), trivial⟩ ⟨k_aR (j_in_a1 hS _ I.2.2.2.2.1), ⟨_, rfl, hy1, Int.le_refl _, Int.le_refl _⟩, k_aI _, k_aJ _, trivial⟩ ⟨⟨40, rfl, c_gv_id40 (by show (0 : Int) ≤ (k : Int); omega) (by show (k : Int) ≤ 59; omega)⟩, ⟨300, rfl, c_gv_id (by decide) (by show (-1099511627776 : Int) ≤ q1; omega) (by show q1 ≤ 1099511627776; omega)⟩, ⟨301, rfl, c_gv_id (by decide) (by show (-1099511627776 : Int) ≤ q2; omega) (by show q2 ≤ 1099511627776; omega)⟩, ⟨302, rfl, c_gv_id (by decide) (by show (-1099511627776 : Int) ≤ q3; omega) (by show q3 ≤ 1099511627776; omega)⟩, k_fnC (b := 0) (j_fn hS (j_g0 k 0 q1 q2 q3) hS.1 (j_in_a1 hS _ I.2.2.2.2.1)) rfl rfl, k_fnC (b := 8) (j_fn hS (j_g0 k 0 q1 q2 q3) (hS.2.2.1 0 (by omega)).1 (j_in_rw hS _)) rfl (by show (0 : Int) + (1 * (0 : Int) + 0) = _; rfl), k_fnC (b := 9) (j_fn hS (j_g0 k 0 q1 q2 q3) hf (j_in_row hS _ (t := 0) (by omega))) rfl (by show (0 : Int) + (1 * (k : Int) + 0) = _; omega), trivial⟩
  obtain ⟨rv2, res2, w2, hh, hr2, hp2, hP2, hD2, hT2⟩ := hj (j_c125_1, k_rv [(a1 : Int), (0 : Int), y2.toInt, y3.toInt, (k : Int), q1, q2, q3, (rw : Int), (r 0 : Int), v], j_tg w a1 rw r, j_g0 k 0 q1 q2 q3) j_pm125_1 rfl rfl hpd.1 hpd.2 (j_TW (D := D) I.2.2.1 I.2.1 hS I.2.2.2.2.1 _)
  obtain ⟨x9, rfl, rfl, -, -⟩ := hr2
  have hx9 : x9 = r9 := by injection (Option.some.inj hh)
  subst hx9
  obtain ⟨he2, -, d, hd, rr, p1, p2, p3, p4, -⟩ := hp2
  have e1 : rr 1 = (a1 : Int) := p1 1 (by show 1 < c_entryN j_c125_1; decide)
  have e2 : rr 2 = (0 : Int) := p1 2 (by show 2 < c_entryN j_c125_1; decide)
  have e3 : rr 3 = y2.toInt := p1 3 (by show 3 < c_entryN j_c125_1; decide)
  have e4 : rr 4 = y3.toInt := p1 4 (by show 4 < c_entryN j_c125_1; decide)
  have e5 : rr 5 = (k : Int) := p1 5 (by show 5 < c_entryN j_c125_1; decide)
  have e6 : rr 6 = q1 := p1 6 (by show 6 < c_entryN j_c125_1; decide)
  have e7 : rr 7 = q2 := p1 7 (by show 7 < c_entryN j_c125_1; decide)
  have e8 : rr 8 = q3 := p1 8 (by show 8 < c_entryN j_c125_1; decide)
  have e9 : rr 9 = (rw : Int) := p1 9 (by show 9 < c_entryN j_c125_1; decide)
  have e10 : rr 10 = (r 0 : Int) := p1 10 (by show 10 < c_entryN j_c125_1; decide)
  have e11 : rr 11 = v := p1 11 (by show 11 < c_entryN j_c125_1; decide)
  have er : rr 12 = x9.toInt := p2 0 _ rfl
  have hin2 := k_inK he2 (by show ((ct_pros j_c125_1).all fun t => Nat.ble 101 t) = true; decide +kernel) (by decide) (j_in_row hS (j_g0 k 0 q1 q2 q3) (t := 0) (by omega))
  have hd : d ∈ ct_post j_c125_1 := hd
  simp only [ct_post, j_c125_1, List.mem_cons, List.not_mem_nil, or_false] at hd
  subst hd
  have hc : k_fn w2 (r 0) 90 k (rr 13) := k_fnD (b := 9) (p3 0 _ rfl) e10 (by show (0 : Int) + (1 * rr 5 + 0) = _; rw [e5]; omega) hin2
  simp only [List.forall_mem_cons, c_ev, c_evs, List.not_mem_nil, false_implies, implies_true, and_true, e11, er] at p4
  exact ⟨rr 13, j_back I1.1 hP2 I1.2.2.1 hT2 (hS1.2.2.1 0 (by omega)).2 rfl rfl hc, by omega⟩
theorem k_writeC7g0 {k : Nat} {v : Int} {q1 q2 q3 : Int} {y1 y2 r9 : Int32} {y3 : Int64} (I : k_In s D dA a1 a2 w H locs) (hS : k_S7 a1 a2 w rw nm r) (I1 : k_In s D dA a1 a2 w' H' locs') (hS1 : k_S7 a1 a2 w' rw nm r) (hj : j_Ex0 s D dA 125 w [.ref a1, .int y1, .int y2, .long y3] H' [.int r9]) (b1 : -1099511627776 ≤ q1 ∧ q1 ≤ 1099511627776) (b2 : -1099511627776 ≤ q2 ∧ q2 ≤ 1099511627776) (b3 : -1099511627776 ≤ q3 ∧ q3 ≤ 1099511627776) (c1 : -2147483648 ≤ y3.toInt - 4294967296 * q1 ∧ y3.toInt - 4294967296 * q1 ≤ 2147483647) (c2 : -128 ≤ y3.toInt - 4294967296 * q1 - 256 * q2 ∧ y3.toInt - 4294967296 * q1 - 256 * q2 ≤ 127) (c3 : -32768 ≤ y3.toInt - 4294967296 * q1 - 65536 * q3 ∧ y3.toInt - 4294967296 * q1 - 65536 * q3 ≤ 32767) (hy1 : y1.toInt = 0) (hy : (k : Int) < y2.toInt) (hk : k < 60) (hf : k_fn w (r 0) 17 k v) : ∃ v', k_fn w' (r 0) 17 k v' ∧ v' = v := by
  have hpd := k_preD (ct := j_c125_2) (r := k_rv [(a1 : Int), (0 : Int), y2.toInt, y3.toInt, (k : Int), q1, q2, q3, (rw : Int), (r 0 : Int), v]) (vals := [.ref a1, .int y1, .int y2, .long y3]) (w := j_w w a1 rw r (j_g0 k 0 q1 q2 q3)) (by decide +kernel) ⟨(by show (0 : Int) ≤ (-1) + ((1) * y2.toInt + ((-1) * (k : Int) + (0))); omega), (by show (0 : Int) ≤ (2147483648) + ((1) * y3.toInt + ((-4294967296) * q1 + (0))); omega), (by show (0 : Int) ≤ (2147483647) + ((-1) * y3.toInt + ((4294967296) * q1 + (0))); omega), (by show (0 : Int) ≤ (128) + ((1) * y3.toInt + ((-4294967296) * q1 + ((-256) * q2 + (0)))); omega), (by show (0 : Int) ≤ (127) + ((-1) * y3.toInt + ((4294967296) * q1 + ((256) * q2 + (0)))); omega), (by show (0 : Int) ≤ (32768) + ((1) * y3.toInt + ((-4294967296) * q1 + ((-65536) * q3 + (0)))); omega), (by show (0 : Int) ≤ (32767) + ((-1) * y3.toInt + ((4294967296) * q1 + ((65536) * q3 + (0)))); omega), (by show (0 : Int) ≤ (4) + (0); omega), trivial⟩ ⟨k_aR (j_in_a1 hS _ I.2.2.2.2.1), ⟨_, rfl, hy1, Int.le_refl _, Int.le_refl _⟩, k_aI _, k_aJ _, trivial⟩ ⟨⟨40, rfl, c_gv_id40 (by show (0 : Int) ≤ (k : Int); omega) (by show (k : Int) ≤ 59; omega)⟩, ⟨300, rfl, c_gv_id (by decide) (by show (-1099511627776 : Int) ≤ q1; omega) (by show q1 ≤ 1099511627776; omega)⟩, ⟨301, rfl, c_gv_id (by decide) (by show (-1099511627776 : Int) ≤ q2; omega) (by show q2 ≤ 1099511627776; omega)⟩, ⟨302, rfl, c_gv_id (by decide) (by show (-1099511627776 : Int) ≤ q3; omega) (by show q3 ≤ 1099511627776; omega)⟩, k_fnC (b := 0) (j_fn hS (j_g0 k 0 q1 q2 q3) hS.1 (j_in_a1 hS _ I.2.2.2.2.1)) rfl rfl, k_fnC (b := 8) (j_fn hS (j_g0 k 0 q1 q2 q3) (hS.2.2.1 0 (by omega)).1 (j_in_rw hS _)) rfl (by show (0 : Int) + (1 * (0 : Int) + 0) = _; rfl), k_fnC (b := 9) (j_fn hS (j_g0 k 0 q1 q2 q3) hf (j_in_row hS _ (t := 0) (by omega))) rfl (by show (0 : Int) + (1 * (k : Int) + 0) = _; omega), trivial⟩
  obtain ⟨rv2, res2, w2, hh, hr2, hp2, hP2, hD2, hT2⟩ := hj (j_c125_2, k_rv [(a1 : Int), (0 : Int), y2.toInt, y3.toInt, (k : Int), q1, q2, q3, (rw : Int), (r 0 : Int), v], j_tg w a1 rw r, j_g0 k 0 q1 q2 q3) j_pm125_2 rfl rfl hpd.1 hpd.2 (j_TW (D := D) I.2.2.1 I.2.1 hS I.2.2.2.2.1 _)
  obtain ⟨x9, rfl, rfl, -, -⟩ := hr2
  have hx9 : x9 = r9 := by injection (Option.some.inj hh)
  subst hx9
  obtain ⟨he2, -, d, hd, rr, p1, p2, p3, p4, -⟩ := hp2
  have e1 : rr 1 = (a1 : Int) := p1 1 (by show 1 < c_entryN j_c125_2; decide)
  have e2 : rr 2 = (0 : Int) := p1 2 (by show 2 < c_entryN j_c125_2; decide)
  have e3 : rr 3 = y2.toInt := p1 3 (by show 3 < c_entryN j_c125_2; decide)
  have e4 : rr 4 = y3.toInt := p1 4 (by show 4 < c_entryN j_c125_2; decide)
  have e5 : rr 5 = (k : Int) := p1 5 (by show 5 < c_entryN j_c125_2; decide)
  have e6 : rr 6 = q1 := p1 6 (by show 6 < c_entryN j_c125_2; decide)
  have e7 : rr 7 = q2 := p1 7 (by show 7 < c_entryN j_c125_2; decide)
  have e8 : rr 8 = q3 := p1 8 (by show 8 < c_entryN j_c125_2; decide)
  have e9 : rr 9 = (rw : Int) := p1 9 (by show 9 < c_entryN j_c125_2; decide)
  have e10 : rr 10 = (r 0 : Int) := p1 10 (by show 10 < c_entryN j_c125_2; decide)
  have e11 : rr 11 = v := p1 11 (by show 11 < c_entryN j_c125_2; decide)
  have er : rr 12 = x9.toInt := p2 0 _ rfl
  have hin2 := k_inK he2 (by show ((ct_pros j_c125_2).all fun t => Nat.ble 101 t) = true; decide +kernel) (by decide) (j_in_row hS (j_g0 k 0 q1 q2 q3) (t := 0) (by omega))
  have hd : d ∈ ct_post j_c125_2 := hd
  simp only [ct_post, j_c125_2, List.mem_cons, List.not_mem_nil, or_false] at hd
  subst hd
  have hc : k_fn w2 (r 0) 90 k (rr 13) := k_fnD (b := 9) (p3 0 _ rfl) e10 (by show (0 : Int) + (1 * rr 5 + 0) = _; rw [e5]; omega) hin2
  simp only [List.forall_mem_cons, c_ev, c_evs, List.not_mem_nil, false_implies, implies_true, and_true, e11, er] at p4
  exact ⟨rr 13, j_back I1.1 hP2 I1.2.2.1 hT2 (hS1.2.2.1 0 (by omega)).2 rfl rfl hc, by omega⟩
theorem k_writeC7e1 {k so : Nat} {v s0 : Int} {q1 q2 q3 : Int} {y1 y2 r9 : Int32} {y3 : Int64} (I : k_In s D dA a1 a2 w H locs) (hS : k_S7 a1 a2 w rw nm r) (I1 : k_In s D dA a1 a2 w' H' locs') (hS1 : k_S7 a1 a2 w' rw nm r) (hj : j_Ex0 s D dA 125 w [.ref a1, .int y1, .int y2, .long y3] H' [.int r9]) (b1 : -1099511627776 ≤ q1 ∧ q1 ≤ 1099511627776) (b2 : -1099511627776 ≤ q2 ∧ q2 ≤ 1099511627776) (b3 : -1099511627776 ≤ q3 ∧ q3 ≤ 1099511627776) (c1 : -2147483648 ≤ y3.toInt - 4294967296 * q1 ∧ y3.toInt - 4294967296 * q1 ≤ 2147483647) (c2 : -128 ≤ y3.toInt - 4294967296 * q1 - 256 * q2 ∧ y3.toInt - 4294967296 * q1 - 256 * q2 ≤ 127) (c3 : -32768 ≤ y3.toInt - 4294967296 * q1 - 65536 * q3 ∧ y3.toInt - 4294967296 * q1 - 65536 * q3 ≤ 32767) (hso : k_fn w a1 12 4 (so : Int)) (hsi : c_in w so 14) (hs0 : k_fn w so 14 1 s0) (hy1 : y1.toInt = 1) (hy2 : y2.toInt = (k : Int)) (hk : k < 60) (hf : k_fn w (r 1) 17 k v) : ∃ v', k_fn w' (r 1) 17 k v' ∧ ((r9.toInt = 0 ∧ v' = v) ∨ (r9.toInt = 1 ∧ ((s0 = 0 ∧ v' = y3.toInt - 4294967296 * q1 - 256 * q2) ∨ (s0 = 1 ∧ v' = y3.toInt - 4294967296 * q1 - 65536 * q3) ∨ (s0 = 2 ∧ v' = y3.toInt - 4294967296 * q1) ∨ (s0 = 3 ∧ v' = y3.toInt)))) := by
  have hpd := k_preD (ct := j_c125_3) (r := k_rv [(a1 : Int), (1 : Int), y2.toInt, y3.toInt, q1, q2, q3, (rw : Int), (r 1 : Int), v, (so : Int), s0]) (vals := [.ref a1, .int y1, .int y2, .long y3]) (w := j_w w a1 rw r (j_g0 k 0 q1 q2 q3)) (by decide +kernel) ⟨(by show (0 : Int) ≤ (2147483648) + ((1) * y3.toInt + ((-4294967296) * q1 + (0))); omega), (by show (0 : Int) ≤ (2147483647) + ((-1) * y3.toInt + ((4294967296) * q1 + (0))); omega), (by show (0 : Int) ≤ (128) + ((1) * y3.toInt + ((-4294967296) * q1 + ((-256) * q2 + (0)))); omega), (by show (0 : Int) ≤ (127) + ((-1) * y3.toInt + ((4294967296) * q1 + ((256) * q2 + (0)))); omega), (by show (0 : Int) ≤ (32768) + ((1) * y3.toInt + ((-4294967296) * q1 + ((-65536) * q3 + (0)))); omega), (by show (0 : Int) ≤ (32767) + ((-1) * y3.toInt + ((4294967296) * q1 + ((65536) * q3 + (0)))); omega), (by show (0 : Int) ≤ (4) + (0); omega), trivial⟩ ⟨k_aR (j_in_a1 hS _ I.2.2.2.2.1), ⟨_, rfl, hy1, Int.le_refl _, Int.le_refl _⟩, ⟨_, rfl, rfl, (by show (0 : Int) ≤ y2.toInt; omega), (by show y2.toInt ≤ (59 : Int); omega)⟩, k_aJ _, trivial⟩ ⟨⟨300, rfl, c_gv_id (by decide) (by show (-1099511627776 : Int) ≤ q1; omega) (by show q1 ≤ 1099511627776; omega)⟩, ⟨301, rfl, c_gv_id (by decide) (by show (-1099511627776 : Int) ≤ q2; omega) (by show q2 ≤ 1099511627776; omega)⟩, ⟨302, rfl, c_gv_id (by decide) (by show (-1099511627776 : Int) ≤ q3; omega) (by show q3 ≤ 1099511627776; omega)⟩, k_fnC (b := 0) (j_fn hS (j_g0 k 0 q1 q2 q3) hS.1 (j_in_a1 hS _ I.2.2.2.2.1)) rfl rfl, k_fnC (b := 7) (j_fn hS (j_g0 k 0 q1 q2 q3) (hS.2.2.1 1 (by omega)).1 (j_in_rw hS _)) rfl (by show (0 : Int) + (1 * (1 : Int) + 0) = _; rfl), k_fnC (b := 8) (j_fn hS (j_g0 k 0 q1 q2 q3) hf (j_in_row hS _ (t := 1) (by omega))) rfl (by show (0 : Int) + (1 * y2.toInt + 0) = _; omega), k_fnC (b := 0) (j_fn hS (j_g0 k 0 q1 q2 q3) hso (j_in_a1 hS _ I.2.2.2.2.1)) rfl rfl, k_fnC (b := 10) (j_fn hS (j_g0 k 0 q1 q2 q3) hs0 (j_in_keep hS _ (by decide) (by decide) (by decide) (by decide) hsi)) rfl (by show (0 : Int) + (1 * (1 : Int) + 0) = _; omega), trivial⟩
  obtain ⟨rv2, res2, w2, hh, hr2, hp2, hP2, hD2, hT2⟩ := hj (j_c125_3, k_rv [(a1 : Int), (1 : Int), y2.toInt, y3.toInt, q1, q2, q3, (rw : Int), (r 1 : Int), v, (so : Int), s0], j_tg w a1 rw r, j_g0 k 0 q1 q2 q3) j_pm125_3 rfl rfl hpd.1 hpd.2 (j_TW (D := D) I.2.2.1 I.2.1 hS I.2.2.2.2.1 _)
  obtain ⟨x9, rfl, rfl, -, -⟩ := hr2
  have hx9 : x9 = r9 := by injection (Option.some.inj hh)
  subst hx9
  obtain ⟨he2, -, d, hd, rr, p1, p2, p3, p4, -⟩ := hp2
  have e1 : rr 1 = (a1 : Int) := p1 1 (by show 1 < c_entryN j_c125_3; decide)
  have e2 : rr 2 = (1 : Int) := p1 2 (by show 2 < c_entryN j_c125_3; decide)
  have e3 : rr 3 = y2.toInt := p1 3 (by show 3 < c_entryN j_c125_3; decide)
  have e4 : rr 4 = y3.toInt := p1 4 (by show 4 < c_entryN j_c125_3; decide)
  have e5 : rr 5 = q1 := p1 5 (by show 5 < c_entryN j_c125_3; decide)
  have e6 : rr 6 = q2 := p1 6 (by show 6 < c_entryN j_c125_3; decide)
  have e7 : rr 7 = q3 := p1 7 (by show 7 < c_entryN j_c125_3; decide)
  have e8 : rr 8 = (rw : Int) := p1 8 (by show 8 < c_entryN j_c125_3; decide)
  have e9 : rr 9 = (r 1 : Int) := p1 9 (by show 9 < c_entryN j_c125_3; decide)
  have e10 : rr 10 = v := p1 10 (by show 10 < c_entryN j_c125_3; decide)
  have e11 : rr 11 = (so : Int) := p1 11 (by show 11 < c_entryN j_c125_3; decide)
  have e12 : rr 12 = s0 := p1 12 (by show 12 < c_entryN j_c125_3; decide)
  have er : rr 13 = x9.toInt := p2 0 _ rfl
  have hin2 := k_inK he2 (by show ((ct_pros j_c125_3).all fun t => Nat.ble 101 t) = true; decide +kernel) (by decide) (j_in_row hS (j_g0 k 0 q1 q2 q3) (t := 1) (by omega))
  have hd : d ∈ ct_post j_c125_3 := hd
  simp only [ct_post, j_c125_3, List.mem_cons, List.not_mem_nil, or_false] at hd
  rcases hd with rfl | rfl | rfl | rfl | rfl
  all_goals
    have hc : k_fn w2 (r 1) 91 k (rr 14) := k_fnD (b := 8) (p3 0 _ rfl) e9 (by show (0 : Int) + (1 * rr 3 + 0) = _; rw [e3]; omega) hin2
    simp only [List.forall_mem_cons, c_ev, c_evs, List.not_mem_nil, false_implies, implies_true, and_true, e4, e5, e6, e7, e10, e12, er] at p4
    exact ⟨rr 14, j_back I1.1 hP2 I1.2.2.1 hT2 (hS1.2.2.1 1 (by omega)).2 rfl rfl hc, by omega⟩
theorem k_writeC7o1 {k k0 t so : Nat} {v v0 s0 : Int} {q1 q2 q3 : Int} {y1 y2 r9 : Int32} {y3 : Int64} (I : k_In s D dA a1 a2 w H locs) (hS : k_S7 a1 a2 w rw nm r) (I1 : k_In s D dA a1 a2 w' H' locs') (hS1 : k_S7 a1 a2 w' rw nm r) (hj : j_Ex0 s D dA 125 w [.ref a1, .int y1, .int y2, .long y3] H' [.int r9]) (b1 : -1099511627776 ≤ q1 ∧ q1 ≤ 1099511627776) (b2 : -1099511627776 ≤ q2 ∧ q2 ≤ 1099511627776) (b3 : -1099511627776 ≤ q3 ∧ q3 ≤ 1099511627776) (c1 : -2147483648 ≤ y3.toInt - 4294967296 * q1 ∧ y3.toInt - 4294967296 * q1 ≤ 2147483647) (c2 : -128 ≤ y3.toInt - 4294967296 * q1 - 256 * q2 ∧ y3.toInt - 4294967296 * q1 - 256 * q2 ≤ 127) (c3 : -32768 ≤ y3.toInt - 4294967296 * q1 - 65536 * q3 ∧ y3.toInt - 4294967296 * q1 - 65536 * q3 ≤ 32767) (hso : k_fn w a1 12 4 (so : Int)) (hsi : c_in w so 14) (hs0 : k_fn w so 14 1 s0) (hy1 : y1.toInt = 1) (hy2 : y2.toInt = (k0 : Int)) (hk0 : k0 < 60) (ht : t < 4) (hne : t ≠ 1) (hf0 : k_fn w (r 1) 17 k0 v0) (hf : k_fn w (r t) 17 k v) : k_fn w' (r t) 17 k v := by
  have hpd := k_preD (ct := j_c125_3) (r := k_rv [(a1 : Int), (1 : Int), y2.toInt, y3.toInt, q1, q2, q3, (rw : Int), (r 1 : Int), v0, (so : Int), s0]) (vals := [.ref a1, .int y1, .int y2, .long y3]) (w := j_w w a1 rw r (j_g0 k 0 q1 q2 q3)) (by decide +kernel) ⟨(by show (0 : Int) ≤ (2147483648) + ((1) * y3.toInt + ((-4294967296) * q1 + (0))); omega), (by show (0 : Int) ≤ (2147483647) + ((-1) * y3.toInt + ((4294967296) * q1 + (0))); omega), (by show (0 : Int) ≤ (128) + ((1) * y3.toInt + ((-4294967296) * q1 + ((-256) * q2 + (0)))); omega), (by show (0 : Int) ≤ (127) + ((-1) * y3.toInt + ((4294967296) * q1 + ((256) * q2 + (0)))); omega), (by show (0 : Int) ≤ (32768) + ((1) * y3.toInt + ((-4294967296) * q1 + ((-65536) * q3 + (0)))); omega), (by show (0 : Int) ≤ (32767) + ((-1) * y3.toInt + ((4294967296) * q1 + ((65536) * q3 + (0)))); omega), (by show (0 : Int) ≤ (4) + (0); omega), trivial⟩ ⟨k_aR (j_in_a1 hS _ I.2.2.2.2.1), ⟨_, rfl, hy1, Int.le_refl _, Int.le_refl _⟩, ⟨_, rfl, rfl, (by show (0 : Int) ≤ y2.toInt; omega), (by show y2.toInt ≤ (59 : Int); omega)⟩, k_aJ _, trivial⟩ ⟨⟨300, rfl, c_gv_id (by decide) (by show (-1099511627776 : Int) ≤ q1; omega) (by show q1 ≤ 1099511627776; omega)⟩, ⟨301, rfl, c_gv_id (by decide) (by show (-1099511627776 : Int) ≤ q2; omega) (by show q2 ≤ 1099511627776; omega)⟩, ⟨302, rfl, c_gv_id (by decide) (by show (-1099511627776 : Int) ≤ q3; omega) (by show q3 ≤ 1099511627776; omega)⟩, k_fnC (b := 0) (j_fn hS (j_g0 k 0 q1 q2 q3) hS.1 (j_in_a1 hS _ I.2.2.2.2.1)) rfl rfl, k_fnC (b := 7) (j_fn hS (j_g0 k 0 q1 q2 q3) (hS.2.2.1 1 (by omega)).1 (j_in_rw hS _)) rfl (by show (0 : Int) + (1 * (1 : Int) + 0) = _; rfl), k_fnC (b := 8) (j_fn hS (j_g0 k 0 q1 q2 q3) hf0 (j_in_row hS _ (t := 1) (by omega))) rfl (by show (0 : Int) + (1 * y2.toInt + 0) = _; omega), k_fnC (b := 0) (j_fn hS (j_g0 k 0 q1 q2 q3) hso (j_in_a1 hS _ I.2.2.2.2.1)) rfl rfl, k_fnC (b := 10) (j_fn hS (j_g0 k 0 q1 q2 q3) hs0 (j_in_keep hS _ (by decide) (by decide) (by decide) (by decide) hsi)) rfl (by show (0 : Int) + (1 * (1 : Int) + 0) = _; omega), trivial⟩
  obtain ⟨rv2, res2, w2, hh, hr2, hp2, hP2, hD2, hT2⟩ := hj (j_c125_3, k_rv [(a1 : Int), (1 : Int), y2.toInt, y3.toInt, q1, q2, q3, (rw : Int), (r 1 : Int), v0, (so : Int), s0], j_tg w a1 rw r, j_g0 k 0 q1 q2 q3) j_pm125_3 rfl rfl hpd.1 hpd.2 (j_TW (D := D) I.2.2.1 I.2.1 hS I.2.2.2.2.1 _)
  obtain ⟨he2, -⟩ := hp2
  exact j_rowK hS I1 hS1 he2 (by show ((ct_pros j_c125_3).all fun t => Nat.ble 101 t) = true; decide +kernel) hP2 hT2 ht (k_none_ok (by show k_none (ct_eff j_c125_3) (90 + t) = true; rcases (show t = 0 ∨ t = 2 ∨ t = 3 by omega) with rfl | rfl | rfl <;> decide +kernel) _ _) hf
theorem k_writeC7l1 {k : Nat} {v : Int} {q1 q2 q3 : Int} {y1 y2 r9 : Int32} {y3 : Int64} (I : k_In s D dA a1 a2 w H locs) (hS : k_S7 a1 a2 w rw nm r) (I1 : k_In s D dA a1 a2 w' H' locs') (hS1 : k_S7 a1 a2 w' rw nm r) (hj : j_Ex0 s D dA 125 w [.ref a1, .int y1, .int y2, .long y3] H' [.int r9]) (b1 : -1099511627776 ≤ q1 ∧ q1 ≤ 1099511627776) (b2 : -1099511627776 ≤ q2 ∧ q2 ≤ 1099511627776) (b3 : -1099511627776 ≤ q3 ∧ q3 ≤ 1099511627776) (c1 : -2147483648 ≤ y3.toInt - 4294967296 * q1 ∧ y3.toInt - 4294967296 * q1 ≤ 2147483647) (c2 : -128 ≤ y3.toInt - 4294967296 * q1 - 256 * q2 ∧ y3.toInt - 4294967296 * q1 - 256 * q2 ≤ 127) (c3 : -32768 ≤ y3.toInt - 4294967296 * q1 - 65536 * q3 ∧ y3.toInt - 4294967296 * q1 - 65536 * q3 ≤ 32767) (hy1 : y1.toInt = 1) (hy : y2.toInt < (k : Int)) (hk : k < 60) (hf : k_fn w (r 1) 17 k v) : ∃ v', k_fn w' (r 1) 17 k v' ∧ v' = v := by
  have hpd := k_preD (ct := j_c125_4) (r := k_rv [(a1 : Int), (1 : Int), y2.toInt, y3.toInt, (k : Int), q1, q2, q3, (rw : Int), (r 1 : Int), v]) (vals := [.ref a1, .int y1, .int y2, .long y3]) (w := j_w w a1 rw r (j_g0 k 0 q1 q2 q3)) (by decide +kernel) ⟨(by show (0 : Int) ≤ (-1) + ((-1) * y2.toInt + ((1) * (k : Int) + (0))); omega), (by show (0 : Int) ≤ (2147483648) + ((1) * y3.toInt + ((-4294967296) * q1 + (0))); omega), (by show (0 : Int) ≤ (2147483647) + ((-1) * y3.toInt + ((4294967296) * q1 + (0))); omega), (by show (0 : Int) ≤ (128) + ((1) * y3.toInt + ((-4294967296) * q1 + ((-256) * q2 + (0)))); omega), (by show (0 : Int) ≤ (127) + ((-1) * y3.toInt + ((4294967296) * q1 + ((256) * q2 + (0)))); omega), (by show (0 : Int) ≤ (32768) + ((1) * y3.toInt + ((-4294967296) * q1 + ((-65536) * q3 + (0)))); omega), (by show (0 : Int) ≤ (32767) + ((-1) * y3.toInt + ((4294967296) * q1 + ((65536) * q3 + (0)))); omega), (by show (0 : Int) ≤ (4) + (0); omega), trivial⟩ ⟨k_aR (j_in_a1 hS _ I.2.2.2.2.1), ⟨_, rfl, hy1, Int.le_refl _, Int.le_refl _⟩, k_aI _, k_aJ _, trivial⟩ ⟨⟨40, rfl, c_gv_id40 (by show (0 : Int) ≤ (k : Int); omega) (by show (k : Int) ≤ 59; omega)⟩, ⟨300, rfl, c_gv_id (by decide) (by show (-1099511627776 : Int) ≤ q1; omega) (by show q1 ≤ 1099511627776; omega)⟩, ⟨301, rfl, c_gv_id (by decide) (by show (-1099511627776 : Int) ≤ q2; omega) (by show q2 ≤ 1099511627776; omega)⟩, ⟨302, rfl, c_gv_id (by decide) (by show (-1099511627776 : Int) ≤ q3; omega) (by show q3 ≤ 1099511627776; omega)⟩, k_fnC (b := 0) (j_fn hS (j_g0 k 0 q1 q2 q3) hS.1 (j_in_a1 hS _ I.2.2.2.2.1)) rfl rfl, k_fnC (b := 8) (j_fn hS (j_g0 k 0 q1 q2 q3) (hS.2.2.1 1 (by omega)).1 (j_in_rw hS _)) rfl (by show (0 : Int) + (1 * (1 : Int) + 0) = _; rfl), k_fnC (b := 9) (j_fn hS (j_g0 k 0 q1 q2 q3) hf (j_in_row hS _ (t := 1) (by omega))) rfl (by show (0 : Int) + (1 * (k : Int) + 0) = _; omega), trivial⟩
  obtain ⟨rv2, res2, w2, hh, hr2, hp2, hP2, hD2, hT2⟩ := hj (j_c125_4, k_rv [(a1 : Int), (1 : Int), y2.toInt, y3.toInt, (k : Int), q1, q2, q3, (rw : Int), (r 1 : Int), v], j_tg w a1 rw r, j_g0 k 0 q1 q2 q3) j_pm125_4 rfl rfl hpd.1 hpd.2 (j_TW (D := D) I.2.2.1 I.2.1 hS I.2.2.2.2.1 _)
  obtain ⟨x9, rfl, rfl, -, -⟩ := hr2
  have hx9 : x9 = r9 := by injection (Option.some.inj hh)
  subst hx9
  obtain ⟨he2, -, d, hd, rr, p1, p2, p3, p4, -⟩ := hp2
  have e1 : rr 1 = (a1 : Int) := p1 1 (by show 1 < c_entryN j_c125_4; decide)
  have e2 : rr 2 = (1 : Int) := p1 2 (by show 2 < c_entryN j_c125_4; decide)
  have e3 : rr 3 = y2.toInt := p1 3 (by show 3 < c_entryN j_c125_4; decide)
  have e4 : rr 4 = y3.toInt := p1 4 (by show 4 < c_entryN j_c125_4; decide)
  have e5 : rr 5 = (k : Int) := p1 5 (by show 5 < c_entryN j_c125_4; decide)
  have e6 : rr 6 = q1 := p1 6 (by show 6 < c_entryN j_c125_4; decide)
  have e7 : rr 7 = q2 := p1 7 (by show 7 < c_entryN j_c125_4; decide)
  have e8 : rr 8 = q3 := p1 8 (by show 8 < c_entryN j_c125_4; decide)
  have e9 : rr 9 = (rw : Int) := p1 9 (by show 9 < c_entryN j_c125_4; decide)
  have e10 : rr 10 = (r 1 : Int) := p1 10 (by show 10 < c_entryN j_c125_4; decide)
  have e11 : rr 11 = v := p1 11 (by show 11 < c_entryN j_c125_4; decide)
  have er : rr 12 = x9.toInt := p2 0 _ rfl
  have hin2 := k_inK he2 (by show ((ct_pros j_c125_4).all fun t => Nat.ble 101 t) = true; decide +kernel) (by decide) (j_in_row hS (j_g0 k 0 q1 q2 q3) (t := 1) (by omega))
  have hd : d ∈ ct_post j_c125_4 := hd
  simp only [ct_post, j_c125_4, List.mem_cons, List.not_mem_nil, or_false] at hd
  subst hd
  have hc : k_fn w2 (r 1) 91 k (rr 13) := k_fnD (b := 9) (p3 0 _ rfl) e10 (by show (0 : Int) + (1 * rr 5 + 0) = _; rw [e5]; omega) hin2
  simp only [List.forall_mem_cons, c_ev, c_evs, List.not_mem_nil, false_implies, implies_true, and_true, e11, er] at p4
  exact ⟨rr 13, j_back I1.1 hP2 I1.2.2.1 hT2 (hS1.2.2.1 1 (by omega)).2 rfl rfl hc, by omega⟩
theorem k_writeC7g1 {k : Nat} {v : Int} {q1 q2 q3 : Int} {y1 y2 r9 : Int32} {y3 : Int64} (I : k_In s D dA a1 a2 w H locs) (hS : k_S7 a1 a2 w rw nm r) (I1 : k_In s D dA a1 a2 w' H' locs') (hS1 : k_S7 a1 a2 w' rw nm r) (hj : j_Ex0 s D dA 125 w [.ref a1, .int y1, .int y2, .long y3] H' [.int r9]) (b1 : -1099511627776 ≤ q1 ∧ q1 ≤ 1099511627776) (b2 : -1099511627776 ≤ q2 ∧ q2 ≤ 1099511627776) (b3 : -1099511627776 ≤ q3 ∧ q3 ≤ 1099511627776) (c1 : -2147483648 ≤ y3.toInt - 4294967296 * q1 ∧ y3.toInt - 4294967296 * q1 ≤ 2147483647) (c2 : -128 ≤ y3.toInt - 4294967296 * q1 - 256 * q2 ∧ y3.toInt - 4294967296 * q1 - 256 * q2 ≤ 127) (c3 : -32768 ≤ y3.toInt - 4294967296 * q1 - 65536 * q3 ∧ y3.toInt - 4294967296 * q1 - 65536 * q3 ≤ 32767) (hy1 : y1.toInt = 1) (hy : (k : Int) < y2.toInt) (hk : k < 60) (hf : k_fn w (r 1) 17 k v) : ∃ v', k_fn w' (r 1) 17 k v' ∧ v' = v := by
  have hpd := k_preD (ct := j_c125_5) (r := k_rv [(a1 : Int), (1 : Int), y2.toInt, y3.toInt, (k : Int), q1, q2, q3, (rw : Int), (r 1 : Int), v]) (vals := [.ref a1, .int y1, .int y2, .long y3]) (w := j_w w a1 rw r (j_g0 k 0 q1 q2 q3)) (by decide +kernel) ⟨(by show (0 : Int) ≤ (-1) + ((1) * y2.toInt + ((-1) * (k : Int) + (0))); omega), (by show (0 : Int) ≤ (2147483648) + ((1) * y3.toInt + ((-4294967296) * q1 + (0))); omega), (by show (0 : Int) ≤ (2147483647) + ((-1) * y3.toInt + ((4294967296) * q1 + (0))); omega), (by show (0 : Int) ≤ (128) + ((1) * y3.toInt + ((-4294967296) * q1 + ((-256) * q2 + (0)))); omega), (by show (0 : Int) ≤ (127) + ((-1) * y3.toInt + ((4294967296) * q1 + ((256) * q2 + (0)))); omega), (by show (0 : Int) ≤ (32768) + ((1) * y3.toInt + ((-4294967296) * q1 + ((-65536) * q3 + (0)))); omega), (by show (0 : Int) ≤ (32767) + ((-1) * y3.toInt + ((4294967296) * q1 + ((65536) * q3 + (0)))); omega), (by show (0 : Int) ≤ (4) + (0); omega), trivial⟩ ⟨k_aR (j_in_a1 hS _ I.2.2.2.2.1), ⟨_, rfl, hy1, Int.le_refl _, Int.le_refl _⟩, k_aI _, k_aJ _, trivial⟩ ⟨⟨40, rfl, c_gv_id40 (by show (0 : Int) ≤ (k : Int); omega) (by show (k : Int) ≤ 59; omega)⟩, ⟨300, rfl, c_gv_id (by decide) (by show (-1099511627776 : Int) ≤ q1; omega) (by show q1 ≤ 1099511627776; omega)⟩, ⟨301, rfl, c_gv_id (by decide) (by show (-1099511627776 : Int) ≤ q2; omega) (by show q2 ≤ 1099511627776; omega)⟩, ⟨302, rfl, c_gv_id (by decide) (by show (-1099511627776 : Int) ≤ q3; omega) (by show q3 ≤ 1099511627776; omega)⟩, k_fnC (b := 0) (j_fn hS (j_g0 k 0 q1 q2 q3) hS.1 (j_in_a1 hS _ I.2.2.2.2.1)) rfl rfl, k_fnC (b := 8) (j_fn hS (j_g0 k 0 q1 q2 q3) (hS.2.2.1 1 (by omega)).1 (j_in_rw hS _)) rfl (by show (0 : Int) + (1 * (1 : Int) + 0) = _; rfl), k_fnC (b := 9) (j_fn hS (j_g0 k 0 q1 q2 q3) hf (j_in_row hS _ (t := 1) (by omega))) rfl (by show (0 : Int) + (1 * (k : Int) + 0) = _; omega), trivial⟩
  obtain ⟨rv2, res2, w2, hh, hr2, hp2, hP2, hD2, hT2⟩ := hj (j_c125_5, k_rv [(a1 : Int), (1 : Int), y2.toInt, y3.toInt, (k : Int), q1, q2, q3, (rw : Int), (r 1 : Int), v], j_tg w a1 rw r, j_g0 k 0 q1 q2 q3) j_pm125_5 rfl rfl hpd.1 hpd.2 (j_TW (D := D) I.2.2.1 I.2.1 hS I.2.2.2.2.1 _)
  obtain ⟨x9, rfl, rfl, -, -⟩ := hr2
  have hx9 : x9 = r9 := by injection (Option.some.inj hh)
  subst hx9
  obtain ⟨he2, -, d, hd, rr, p1, p2, p3, p4, -⟩ := hp2
  have e1 : rr 1 = (a1 : Int) := p1 1 (by show 1 < c_entryN j_c125_5; decide)
  have e2 : rr 2 = (1 : Int) := p1 2 (by show 2 < c_entryN j_c125_5; decide)
  have e3 : rr 3 = y2.toInt := p1 3 (by show 3 < c_entryN j_c125_5; decide)
  have e4 : rr 4 = y3.toInt := p1 4 (by show 4 < c_entryN j_c125_5; decide)
  have e5 : rr 5 = (k : Int) := p1 5 (by show 5 < c_entryN j_c125_5; decide)
  have e6 : rr 6 = q1 := p1 6 (by show 6 < c_entryN j_c125_5; decide)
  have e7 : rr 7 = q2 := p1 7 (by show 7 < c_entryN j_c125_5; decide)
  have e8 : rr 8 = q3 := p1 8 (by show 8 < c_entryN j_c125_5; decide)
  have e9 : rr 9 = (rw : Int) := p1 9 (by show 9 < c_entryN j_c125_5; decide)
  have e10 : rr 10 = (r 1 : Int) := p1 10 (by show 10 < c_entryN j_c125_5; decide)
  have e11 : rr 11 = v := p1 11 (by show 11 < c_entryN j_c125_5; decide)
  have er : rr 12 = x9.toInt := p2 0 _ rfl
  have hin2 := k_inK he2 (by show ((ct_pros j_c125_5).all fun t => Nat.ble 101 t) = true; decide +kernel) (by decide) (j_in_row hS (j_g0 k 0 q1 q2 q3) (t := 1) (by omega))
  have hd : d ∈ ct_post j_c125_5 := hd
  simp only [ct_post, j_c125_5, List.mem_cons, List.not_mem_nil, or_false] at hd
  subst hd
  have hc : k_fn w2 (r 1) 91 k (rr 13) := k_fnD (b := 9) (p3 0 _ rfl) e10 (by show (0 : Int) + (1 * rr 5 + 0) = _; rw [e5]; omega) hin2
  simp only [List.forall_mem_cons, c_ev, c_evs, List.not_mem_nil, false_implies, implies_true, and_true, e11, er] at p4
  exact ⟨rr 13, j_back I1.1 hP2 I1.2.2.1 hT2 (hS1.2.2.1 1 (by omega)).2 rfl rfl hc, by omega⟩
theorem k_writeC7e2 {k so : Nat} {v s0 : Int} {q1 q2 q3 : Int} {y1 y2 r9 : Int32} {y3 : Int64} (I : k_In s D dA a1 a2 w H locs) (hS : k_S7 a1 a2 w rw nm r) (I1 : k_In s D dA a1 a2 w' H' locs') (hS1 : k_S7 a1 a2 w' rw nm r) (hj : j_Ex0 s D dA 125 w [.ref a1, .int y1, .int y2, .long y3] H' [.int r9]) (b1 : -1099511627776 ≤ q1 ∧ q1 ≤ 1099511627776) (b2 : -1099511627776 ≤ q2 ∧ q2 ≤ 1099511627776) (b3 : -1099511627776 ≤ q3 ∧ q3 ≤ 1099511627776) (c1 : -2147483648 ≤ y3.toInt - 4294967296 * q1 ∧ y3.toInt - 4294967296 * q1 ≤ 2147483647) (c2 : -128 ≤ y3.toInt - 4294967296 * q1 - 256 * q2 ∧ y3.toInt - 4294967296 * q1 - 256 * q2 ≤ 127) (c3 : -32768 ≤ y3.toInt - 4294967296 * q1 - 65536 * q3 ∧ y3.toInt - 4294967296 * q1 - 65536 * q3 ≤ 32767) (hso : k_fn w a1 12 4 (so : Int)) (hsi : c_in w so 14) (hs0 : k_fn w so 14 2 s0) (hy1 : y1.toInt = 2) (hy2 : y2.toInt = (k : Int)) (hk : k < 60) (hf : k_fn w (r 2) 17 k v) : ∃ v', k_fn w' (r 2) 17 k v' ∧ ((r9.toInt = 0 ∧ v' = v) ∨ (r9.toInt = 1 ∧ ((s0 = 0 ∧ v' = y3.toInt - 4294967296 * q1 - 256 * q2) ∨ (s0 = 1 ∧ v' = y3.toInt - 4294967296 * q1 - 65536 * q3) ∨ (s0 = 2 ∧ v' = y3.toInt - 4294967296 * q1) ∨ (s0 = 3 ∧ v' = y3.toInt)))) := by
  have hpd := k_preD (ct := j_c125_6) (r := k_rv [(a1 : Int), (2 : Int), y2.toInt, y3.toInt, q1, q2, q3, (rw : Int), (r 2 : Int), v, (so : Int), s0]) (vals := [.ref a1, .int y1, .int y2, .long y3]) (w := j_w w a1 rw r (j_g0 k 0 q1 q2 q3)) (by decide +kernel) ⟨(by show (0 : Int) ≤ (2147483648) + ((1) * y3.toInt + ((-4294967296) * q1 + (0))); omega), (by show (0 : Int) ≤ (2147483647) + ((-1) * y3.toInt + ((4294967296) * q1 + (0))); omega), (by show (0 : Int) ≤ (128) + ((1) * y3.toInt + ((-4294967296) * q1 + ((-256) * q2 + (0)))); omega), (by show (0 : Int) ≤ (127) + ((-1) * y3.toInt + ((4294967296) * q1 + ((256) * q2 + (0)))); omega), (by show (0 : Int) ≤ (32768) + ((1) * y3.toInt + ((-4294967296) * q1 + ((-65536) * q3 + (0)))); omega), (by show (0 : Int) ≤ (32767) + ((-1) * y3.toInt + ((4294967296) * q1 + ((65536) * q3 + (0)))); omega), (by show (0 : Int) ≤ (4) + (0); omega), trivial⟩ ⟨k_aR (j_in_a1 hS _ I.2.2.2.2.1), ⟨_, rfl, hy1, Int.le_refl _, Int.le_refl _⟩, ⟨_, rfl, rfl, (by show (0 : Int) ≤ y2.toInt; omega), (by show y2.toInt ≤ (59 : Int); omega)⟩, k_aJ _, trivial⟩ ⟨⟨300, rfl, c_gv_id (by decide) (by show (-1099511627776 : Int) ≤ q1; omega) (by show q1 ≤ 1099511627776; omega)⟩, ⟨301, rfl, c_gv_id (by decide) (by show (-1099511627776 : Int) ≤ q2; omega) (by show q2 ≤ 1099511627776; omega)⟩, ⟨302, rfl, c_gv_id (by decide) (by show (-1099511627776 : Int) ≤ q3; omega) (by show q3 ≤ 1099511627776; omega)⟩, k_fnC (b := 0) (j_fn hS (j_g0 k 0 q1 q2 q3) hS.1 (j_in_a1 hS _ I.2.2.2.2.1)) rfl rfl, k_fnC (b := 7) (j_fn hS (j_g0 k 0 q1 q2 q3) (hS.2.2.1 2 (by omega)).1 (j_in_rw hS _)) rfl (by show (0 : Int) + (1 * (2 : Int) + 0) = _; rfl), k_fnC (b := 8) (j_fn hS (j_g0 k 0 q1 q2 q3) hf (j_in_row hS _ (t := 2) (by omega))) rfl (by show (0 : Int) + (1 * y2.toInt + 0) = _; omega), k_fnC (b := 0) (j_fn hS (j_g0 k 0 q1 q2 q3) hso (j_in_a1 hS _ I.2.2.2.2.1)) rfl rfl, k_fnC (b := 10) (j_fn hS (j_g0 k 0 q1 q2 q3) hs0 (j_in_keep hS _ (by decide) (by decide) (by decide) (by decide) hsi)) rfl (by show (0 : Int) + (1 * (2 : Int) + 0) = _; omega), trivial⟩
  obtain ⟨rv2, res2, w2, hh, hr2, hp2, hP2, hD2, hT2⟩ := hj (j_c125_6, k_rv [(a1 : Int), (2 : Int), y2.toInt, y3.toInt, q1, q2, q3, (rw : Int), (r 2 : Int), v, (so : Int), s0], j_tg w a1 rw r, j_g0 k 0 q1 q2 q3) j_pm125_6 rfl rfl hpd.1 hpd.2 (j_TW (D := D) I.2.2.1 I.2.1 hS I.2.2.2.2.1 _)
  obtain ⟨x9, rfl, rfl, -, -⟩ := hr2
  have hx9 : x9 = r9 := by injection (Option.some.inj hh)
  subst hx9
  obtain ⟨he2, -, d, hd, rr, p1, p2, p3, p4, -⟩ := hp2
  have e1 : rr 1 = (a1 : Int) := p1 1 (by show 1 < c_entryN j_c125_6; decide)
  have e2 : rr 2 = (2 : Int) := p1 2 (by show 2 < c_entryN j_c125_6; decide)
  have e3 : rr 3 = y2.toInt := p1 3 (by show 3 < c_entryN j_c125_6; decide)
  have e4 : rr 4 = y3.toInt := p1 4 (by show 4 < c_entryN j_c125_6; decide)
  have e5 : rr 5 = q1 := p1 5 (by show 5 < c_entryN j_c125_6; decide)
  have e6 : rr 6 = q2 := p1 6 (by show 6 < c_entryN j_c125_6; decide)
  have e7 : rr 7 = q3 := p1 7 (by show 7 < c_entryN j_c125_6; decide)
  have e8 : rr 8 = (rw : Int) := p1 8 (by show 8 < c_entryN j_c125_6; decide)
  have e9 : rr 9 = (r 2 : Int) := p1 9 (by show 9 < c_entryN j_c125_6; decide)
  have e10 : rr 10 = v := p1 10 (by show 10 < c_entryN j_c125_6; decide)
  have e11 : rr 11 = (so : Int) := p1 11 (by show 11 < c_entryN j_c125_6; decide)
  have e12 : rr 12 = s0 := p1 12 (by show 12 < c_entryN j_c125_6; decide)
  have er : rr 13 = x9.toInt := p2 0 _ rfl
  have hin2 := k_inK he2 (by show ((ct_pros j_c125_6).all fun t => Nat.ble 101 t) = true; decide +kernel) (by decide) (j_in_row hS (j_g0 k 0 q1 q2 q3) (t := 2) (by omega))
  have hd : d ∈ ct_post j_c125_6 := hd
  simp only [ct_post, j_c125_6, List.mem_cons, List.not_mem_nil, or_false] at hd
  rcases hd with rfl | rfl | rfl | rfl | rfl
  all_goals
    have hc : k_fn w2 (r 2) 92 k (rr 14) := k_fnD (b := 8) (p3 0 _ rfl) e9 (by show (0 : Int) + (1 * rr 3 + 0) = _; rw [e3]; omega) hin2
    simp only [List.forall_mem_cons, c_ev, c_evs, List.not_mem_nil, false_implies, implies_true, and_true, e4, e5, e6, e7, e10, e12, er] at p4
    exact ⟨rr 14, j_back I1.1 hP2 I1.2.2.1 hT2 (hS1.2.2.1 2 (by omega)).2 rfl rfl hc, by omega⟩
theorem k_writeC7o2 {k k0 t so : Nat} {v v0 s0 : Int} {q1 q2 q3 : Int} {y1 y2 r9 : Int32} {y3 : Int64} (I : k_In s D dA a1 a2 w H locs) (hS : k_S7 a1 a2 w rw nm r) (I1 : k_In s D dA a1 a2 w' H' locs') (hS1 : k_S7 a1 a2 w' rw nm r) (hj : j_Ex0 s D dA 125 w [.ref a1, .int y1, .int y2, .long y3] H' [.int r9]) (b1 : -1099511627776 ≤ q1 ∧ q1 ≤ 1099511627776) (b2 : -1099511627776 ≤ q2 ∧ q2 ≤ 1099511627776) (b3 : -1099511627776 ≤ q3 ∧ q3 ≤ 1099511627776) (c1 : -2147483648 ≤ y3.toInt - 4294967296 * q1 ∧ y3.toInt - 4294967296 * q1 ≤ 2147483647) (c2 : -128 ≤ y3.toInt - 4294967296 * q1 - 256 * q2 ∧ y3.toInt - 4294967296 * q1 - 256 * q2 ≤ 127) (c3 : -32768 ≤ y3.toInt - 4294967296 * q1 - 65536 * q3 ∧ y3.toInt - 4294967296 * q1 - 65536 * q3 ≤ 32767) (hso : k_fn w a1 12 4 (so : Int)) (hsi : c_in w so 14) (hs0 : k_fn w so 14 2 s0) (hy1 : y1.toInt = 2) (hy2 : y2.toInt = (k0 : Int)) (hk0 : k0 < 60) (ht : t < 4) (hne : t ≠ 2) (hf0 : k_fn w (r 2) 17 k0 v0) (hf : k_fn w (r t) 17 k v) : k_fn w' (r t) 17 k v := by
  have hpd := k_preD (ct := j_c125_6) (r := k_rv [(a1 : Int), (2 : Int), y2.toInt, y3.toInt, q1, q2, q3, (rw : Int), (r 2 : Int), v0, (so : Int), s0]) (vals := [.ref a1, .int y1, .int y2, .long y3]) (w := j_w w a1 rw r (j_g0 k 0 q1 q2 q3)) (by decide +kernel) ⟨(by show (0 : Int) ≤ (2147483648) + ((1) * y3.toInt + ((-4294967296) * q1 + (0))); omega), (by show (0 : Int) ≤ (2147483647) + ((-1) * y3.toInt + ((4294967296) * q1 + (0))); omega), (by show (0 : Int) ≤ (128) + ((1) * y3.toInt + ((-4294967296) * q1 + ((-256) * q2 + (0)))); omega), (by show (0 : Int) ≤ (127) + ((-1) * y3.toInt + ((4294967296) * q1 + ((256) * q2 + (0)))); omega), (by show (0 : Int) ≤ (32768) + ((1) * y3.toInt + ((-4294967296) * q1 + ((-65536) * q3 + (0)))); omega), (by show (0 : Int) ≤ (32767) + ((-1) * y3.toInt + ((4294967296) * q1 + ((65536) * q3 + (0)))); omega), (by show (0 : Int) ≤ (4) + (0); omega), trivial⟩ ⟨k_aR (j_in_a1 hS _ I.2.2.2.2.1), ⟨_, rfl, hy1, Int.le_refl _, Int.le_refl _⟩, ⟨_, rfl, rfl, (by show (0 : Int) ≤ y2.toInt; omega), (by show y2.toInt ≤ (59 : Int); omega)⟩, k_aJ _, trivial⟩ ⟨⟨300, rfl, c_gv_id (by decide) (by show (-1099511627776 : Int) ≤ q1; omega) (by show q1 ≤ 1099511627776; omega)⟩, ⟨301, rfl, c_gv_id (by decide) (by show (-1099511627776 : Int) ≤ q2; omega) (by show q2 ≤ 1099511627776; omega)⟩, ⟨302, rfl, c_gv_id (by decide) (by show (-1099511627776 : Int) ≤ q3; omega) (by show q3 ≤ 1099511627776; omega)⟩, k_fnC (b := 0) (j_fn hS (j_g0 k 0 q1 q2 q3) hS.1 (j_in_a1 hS _ I.2.2.2.2.1)) rfl rfl, k_fnC (b := 7) (j_fn hS (j_g0 k 0 q1 q2 q3) (hS.2.2.1 2 (by omega)).1 (j_in_rw hS _)) rfl (by show (0 : Int) + (1 * (2 : Int) + 0) = _; rfl), k_fnC (b := 8) (j_fn hS (j_g0 k 0 q1 q2 q3) hf0 (j_in_row hS _ (t := 2) (by omega))) rfl (by show (0 : Int) + (1 * y2.toInt + 0) = _; omega), k_fnC (b := 0) (j_fn hS (j_g0 k 0 q1 q2 q3) hso (j_in_a1 hS _ I.2.2.2.2.1)) rfl rfl, k_fnC (b := 10) (j_fn hS (j_g0 k 0 q1 q2 q3) hs0 (j_in_keep hS _ (by decide) (by decide) (by decide) (by decide) hsi)) rfl (by show (0 : Int) + (1 * (2 : Int) + 0) = _; omega), trivial⟩
  obtain ⟨rv2, res2, w2, hh, hr2, hp2, hP2, hD2, hT2⟩ := hj (j_c125_6, k_rv [(a1 : Int), (2 : Int), y2.toInt, y3.toInt, q1, q2, q3, (rw : Int), (r 2 : Int), v0, (so : Int), s0], j_tg w a1 rw r, j_g0 k 0 q1 q2 q3) j_pm125_6 rfl rfl hpd.1 hpd.2 (j_TW (D := D) I.2.2.1 I.2.1 hS I.2.2.2.2.1 _)
  obtain ⟨he2, -⟩ := hp2
  exact j_rowK hS I1 hS1 he2 (by show ((ct_pros j_c125_6).all fun t => Nat.ble 101 t) = true; decide +kernel) hP2 hT2 ht (k_none_ok (by show k_none (ct_eff j_c125_6) (90 + t) = true; rcases (show t = 0 ∨ t = 1 ∨ t = 3 by omega) with rfl | rfl | rfl <;> decide +kernel) _ _) hf
theorem k_writeC7l2 {k : Nat} {v : Int} {q1 q2 q3 : Int} {y1 y2 r9 : Int32} {y3 : Int64} (I : k_In s D dA a1 a2 w H locs) (hS : k_S7 a1 a2 w rw nm r) (I1 : k_In s D dA a1 a2 w' H' locs') (hS1 : k_S7 a1 a2 w' rw nm r) (hj : j_Ex0 s D dA 125 w [.ref a1, .int y1, .int y2, .long y3] H' [.int r9]) (b1 : -1099511627776 ≤ q1 ∧ q1 ≤ 1099511627776) (b2 : -1099511627776 ≤ q2 ∧ q2 ≤ 1099511627776) (b3 : -1099511627776 ≤ q3 ∧ q3 ≤ 1099511627776) (c1 : -2147483648 ≤ y3.toInt - 4294967296 * q1 ∧ y3.toInt - 4294967296 * q1 ≤ 2147483647) (c2 : -128 ≤ y3.toInt - 4294967296 * q1 - 256 * q2 ∧ y3.toInt - 4294967296 * q1 - 256 * q2 ≤ 127) (c3 : -32768 ≤ y3.toInt - 4294967296 * q1 - 65536 * q3 ∧ y3.toInt - 4294967296 * q1 - 65536 * q3 ≤ 32767) (hy1 : y1.toInt = 2) (hy : y2.toInt < (k : Int)) (hk : k < 60) (hf : k_fn w (r 2) 17 k v) : ∃ v', k_fn w' (r 2) 17 k v' ∧ v' = v := by
  have hpd := k_preD (ct := j_c125_7) (r := k_rv [(a1 : Int), (2 : Int), y2.toInt, y3.toInt, (k : Int), q1, q2, q3, (rw : Int), (r 2 : Int), v]) (vals := [.ref a1, .int y1, .int y2, .long y3]) (w := j_w w a1 rw r (j_g0 k 0 q1 q2 q3)) (by decide +kernel) ⟨(by show (0 : Int) ≤ (-1) + ((-1) * y2.toInt + ((1) * (k : Int) + (0))); omega), (by show (0 : Int) ≤ (2147483648) + ((1) * y3.toInt + ((-4294967296) * q1 + (0))); omega), (by show (0 : Int) ≤ (2147483647) + ((-1) * y3.toInt + ((4294967296) * q1 + (0))); omega), (by show (0 : Int) ≤ (128) + ((1) * y3.toInt + ((-4294967296) * q1 + ((-256) * q2 + (0)))); omega), (by show (0 : Int) ≤ (127) + ((-1) * y3.toInt + ((4294967296) * q1 + ((256) * q2 + (0)))); omega), (by show (0 : Int) ≤ (32768) + ((1) * y3.toInt + ((-4294967296) * q1 + ((-65536) * q3 + (0)))); omega), (by show (0 : Int) ≤ (32767) + ((-1) * y3.toInt + ((4294967296) * q1 + ((65536) * q3 + (0)))); omega), (by show (0 : Int) ≤ (4) + (0); omega), trivial⟩ ⟨k_aR (j_in_a1 hS _ I.2.2.2.2.1), ⟨_, rfl, hy1, Int.le_refl _, Int.le_refl _⟩, k_aI _, k_aJ _, trivial⟩ ⟨⟨40, rfl, c_gv_id40 (by show (0 : Int) ≤ (k : Int); omega) (by show (k : Int) ≤ 59; omega)⟩, ⟨300, rfl, c_gv_id (by decide) (by show (-1099511627776 : Int) ≤ q1; omega) (by show q1 ≤ 1099511627776; omega)⟩, ⟨301, rfl, c_gv_id (by decide) (by show (-1099511627776 : Int) ≤ q2; omega) (by show q2 ≤ 1099511627776; omega)⟩, ⟨302, rfl, c_gv_id (by decide) (by show (-1099511627776 : Int) ≤ q3; omega) (by show q3 ≤ 1099511627776; omega)⟩, k_fnC (b := 0) (j_fn hS (j_g0 k 0 q1 q2 q3) hS.1 (j_in_a1 hS _ I.2.2.2.2.1)) rfl rfl, k_fnC (b := 8) (j_fn hS (j_g0 k 0 q1 q2 q3) (hS.2.2.1 2 (by omega)).1 (j_in_rw hS _)) rfl (by show (0 : Int) + (1 * (2 : Int) + 0) = _; rfl), k_fnC (b := 9) (j_fn hS (j_g0 k 0 q1 q2 q3) hf (j_in_row hS _ (t := 2) (by omega))) rfl (by show (0 : Int) + (1 * (k : Int) + 0) = _; omega), trivial⟩
  obtain ⟨rv2, res2, w2, hh, hr2, hp2, hP2, hD2, hT2⟩ := hj (j_c125_7, k_rv [(a1 : Int), (2 : Int), y2.toInt, y3.toInt, (k : Int), q1, q2, q3, (rw : Int), (r 2 : Int), v], j_tg w a1 rw r, j_g0 k 0 q1 q2 q3) j_pm125_7 rfl rfl hpd.1 hpd.2 (j_TW (D := D) I.2.2.1 I.2.1 hS I.2.2.2.2.1 _)
  obtain ⟨x9, rfl, rfl, -, -⟩ := hr2
  have hx9 : x9 = r9 := by injection (Option.some.inj hh)
  subst hx9
  obtain ⟨he2, -, d, hd, rr, p1, p2, p3, p4, -⟩ := hp2
  have e1 : rr 1 = (a1 : Int) := p1 1 (by show 1 < c_entryN j_c125_7; decide)
  have e2 : rr 2 = (2 : Int) := p1 2 (by show 2 < c_entryN j_c125_7; decide)
  have e3 : rr 3 = y2.toInt := p1 3 (by show 3 < c_entryN j_c125_7; decide)
  have e4 : rr 4 = y3.toInt := p1 4 (by show 4 < c_entryN j_c125_7; decide)
  have e5 : rr 5 = (k : Int) := p1 5 (by show 5 < c_entryN j_c125_7; decide)
  have e6 : rr 6 = q1 := p1 6 (by show 6 < c_entryN j_c125_7; decide)
  have e7 : rr 7 = q2 := p1 7 (by show 7 < c_entryN j_c125_7; decide)
  have e8 : rr 8 = q3 := p1 8 (by show 8 < c_entryN j_c125_7; decide)
  have e9 : rr 9 = (rw : Int) := p1 9 (by show 9 < c_entryN j_c125_7; decide)
  have e10 : rr 10 = (r 2 : Int) := p1 10 (by show 10 < c_entryN j_c125_7; decide)
  have e11 : rr 11 = v := p1 11 (by show 11 < c_entryN j_c125_7; decide)
  have er : rr 12 = x9.toInt := p2 0 _ rfl
  have hin2 := k_inK he2 (by show ((ct_pros j_c125_7).all fun t => Nat.ble 101 t) = true; decide +kernel) (by decide) (j_in_row hS (j_g0 k 0 q1 q2 q3) (t := 2) (by omega))
  have hd : d ∈ ct_post j_c125_7 := hd
  simp only [ct_post, j_c125_7, List.mem_cons, List.not_mem_nil, or_false] at hd
  subst hd
  have hc : k_fn w2 (r 2) 92 k (rr 13) := k_fnD (b := 9) (p3 0 _ rfl) e10 (by show (0 : Int) + (1 * rr 5 + 0) = _; rw [e5]; omega) hin2
  simp only [List.forall_mem_cons, c_ev, c_evs, List.not_mem_nil, false_implies, implies_true, and_true, e11, er] at p4
  exact ⟨rr 13, j_back I1.1 hP2 I1.2.2.1 hT2 (hS1.2.2.1 2 (by omega)).2 rfl rfl hc, by omega⟩
theorem k_writeC7g2 {k : Nat} {v : Int} {q1 q2 q3 : Int} {y1 y2 r9 : Int32} {y3 : Int64} (I : k_In s D dA a1 a2 w H locs) (hS : k_S7 a1 a2 w rw nm r) (I1 : k_In s D dA a1 a2 w' H' locs') (hS1 : k_S7 a1 a2 w' rw nm r) (hj : j_Ex0 s D dA 125 w [.ref a1, .int y1, .int y2, .long y3] H' [.int r9]) (b1 : -1099511627776 ≤ q1 ∧ q1 ≤ 1099511627776) (b2 : -1099511627776 ≤ q2 ∧ q2 ≤ 1099511627776) (b3 : -1099511627776 ≤ q3 ∧ q3 ≤ 1099511627776) (c1 : -2147483648 ≤ y3.toInt - 4294967296 * q1 ∧ y3.toInt - 4294967296 * q1 ≤ 2147483647) (c2 : -128 ≤ y3.toInt - 4294967296 * q1 - 256 * q2 ∧ y3.toInt - 4294967296 * q1 - 256 * q2 ≤ 127) (c3 : -32768 ≤ y3.toInt - 4294967296 * q1 - 65536 * q3 ∧ y3.toInt - 4294967296 * q1 - 65536 * q3 ≤ 32767) (hy1 : y1.toInt = 2) (hy : (k : Int) < y2.toInt) (hk : k < 60) (hf : k_fn w (r 2) 17 k v) : ∃ v', k_fn w' (r 2) 17 k v' ∧ v' = v := by
  have hpd := k_preD (ct := j_c125_8) (r := k_rv [(a1 : Int), (2 : Int), y2.toInt, y3.toInt, (k : Int), q1, q2, q3, (rw : Int), (r 2 : Int), v]) (vals := [.ref a1, .int y1, .int y2, .long y3]) (w := j_w w a1 rw r (j_g0 k 0 q1 q2 q3)) (by decide +kernel) ⟨(by show (0 : Int) ≤ (-1) + ((1) * y2.toInt + ((-1) * (k : Int) + (0))); omega), (by show (0 : Int) ≤ (2147483648) + ((1) * y3.toInt + ((-4294967296) * q1 + (0))); omega), (by show (0 : Int) ≤ (2147483647) + ((-1) * y3.toInt + ((4294967296) * q1 + (0))); omega), (by show (0 : Int) ≤ (128) + ((1) * y3.toInt + ((-4294967296) * q1 + ((-256) * q2 + (0)))); omega), (by show (0 : Int) ≤ (127) + ((-1) * y3.toInt + ((4294967296) * q1 + ((256) * q2 + (0)))); omega), (by show (0 : Int) ≤ (32768) + ((1) * y3.toInt + ((-4294967296) * q1 + ((-65536) * q3 + (0)))); omega), (by show (0 : Int) ≤ (32767) + ((-1) * y3.toInt + ((4294967296) * q1 + ((65536) * q3 + (0)))); omega), (by show (0 : Int) ≤ (4) + (0); omega), trivial⟩ ⟨k_aR (j_in_a1 hS _ I.2.2.2.2.1), ⟨_, rfl, hy1, Int.le_refl _, Int.le_refl _⟩, k_aI _, k_aJ _, trivial⟩ ⟨⟨40, rfl, c_gv_id40 (by show (0 : Int) ≤ (k : Int); omega) (by show (k : Int) ≤ 59; omega)⟩, ⟨300, rfl, c_gv_id (by decide) (by show (-1099511627776 : Int) ≤ q1; omega) (by show q1 ≤ 1099511627776; omega)⟩, ⟨301, rfl, c_gv_id (by decide) (by show (-1099511627776 : Int) ≤ q2; omega) (by show q2 ≤ 1099511627776; omega)⟩, ⟨302, rfl, c_gv_id (by decide) (by show (-1099511627776 : Int) ≤ q3; omega) (by show q3 ≤ 1099511627776; omega)⟩, k_fnC (b := 0) (j_fn hS (j_g0 k 0 q1 q2 q3) hS.1 (j_in_a1 hS _ I.2.2.2.2.1)) rfl rfl, k_fnC (b := 8) (j_fn hS (j_g0 k 0 q1 q2 q3) (hS.2.2.1 2 (by omega)).1 (j_in_rw hS _)) rfl (by show (0 : Int) + (1 * (2 : Int) + 0) = _; rfl), k_fnC (b := 9) (j_fn hS (j_g0 k 0 q1 q2 q3) hf (j_in_row hS _ (t := 2) (by omega))) rfl (by show (0 : Int) + (1 * (k : Int) + 0) = _; omega), trivial⟩
  obtain ⟨rv2, res2, w2, hh, hr2, hp2, hP2, hD2, hT2⟩ := hj (j_c125_8, k_rv [(a1 : Int), (2 : Int), y2.toInt, y3.toInt, (k : Int), q1, q2, q3, (rw : Int), (r 2 : Int), v], j_tg w a1 rw r, j_g0 k 0 q1 q2 q3) j_pm125_8 rfl rfl hpd.1 hpd.2 (j_TW (D := D) I.2.2.1 I.2.1 hS I.2.2.2.2.1 _)
  obtain ⟨x9, rfl, rfl, -, -⟩ := hr2
  have hx9 : x9 = r9 := by injection (Option.some.inj hh)
  subst hx9
  obtain ⟨he2, -, d, hd, rr, p1, p2, p3, p4, -⟩ := hp2
  have e1 : rr 1 = (a1 : Int) := p1 1 (by show 1 < c_entryN j_c125_8; decide)
  have e2 : rr 2 = (2 : Int) := p1 2 (by show 2 < c_entryN j_c125_8; decide)
  have e3 : rr 3 = y2.toInt := p1 3 (by show 3 < c_entryN j_c125_8; decide)
  have e4 : rr 4 = y3.toInt := p1 4 (by show 4 < c_entryN j_c125_8; decide)
  have e5 : rr 5 = (k : Int) := p1 5 (by show 5 < c_entryN j_c125_8; decide)
  have e6 : rr 6 = q1 := p1 6 (by show 6 < c_entryN j_c125_8; decide)
  have e7 : rr 7 = q2 := p1 7 (by show 7 < c_entryN j_c125_8; decide)
  have e8 : rr 8 = q3 := p1 8 (by show 8 < c_entryN j_c125_8; decide)
  have e9 : rr 9 = (rw : Int) := p1 9 (by show 9 < c_entryN j_c125_8; decide)
  have e10 : rr 10 = (r 2 : Int) := p1 10 (by show 10 < c_entryN j_c125_8; decide)
  have e11 : rr 11 = v := p1 11 (by show 11 < c_entryN j_c125_8; decide)
  have er : rr 12 = x9.toInt := p2 0 _ rfl
  have hin2 := k_inK he2 (by show ((ct_pros j_c125_8).all fun t => Nat.ble 101 t) = true; decide +kernel) (by decide) (j_in_row hS (j_g0 k 0 q1 q2 q3) (t := 2) (by omega))
  have hd : d ∈ ct_post j_c125_8 := hd
  simp only [ct_post, j_c125_8, List.mem_cons, List.not_mem_nil, or_false] at hd
  subst hd
  have hc : k_fn w2 (r 2) 92 k (rr 13) := k_fnD (b := 9) (p3 0 _ rfl) e10 (by show (0 : Int) + (1 * rr 5 + 0) = _; rw [e5]; omega) hin2
  simp only [List.forall_mem_cons, c_ev, c_evs, List.not_mem_nil, false_implies, implies_true, and_true, e11, er] at p4
  exact ⟨rr 13, j_back I1.1 hP2 I1.2.2.1 hT2 (hS1.2.2.1 2 (by omega)).2 rfl rfl hc, by omega⟩
theorem k_writeC7e3 {k so : Nat} {v s0 : Int} {q1 q2 q3 : Int} {y1 y2 r9 : Int32} {y3 : Int64} (I : k_In s D dA a1 a2 w H locs) (hS : k_S7 a1 a2 w rw nm r) (I1 : k_In s D dA a1 a2 w' H' locs') (hS1 : k_S7 a1 a2 w' rw nm r) (hj : j_Ex0 s D dA 125 w [.ref a1, .int y1, .int y2, .long y3] H' [.int r9]) (b1 : -1099511627776 ≤ q1 ∧ q1 ≤ 1099511627776) (b2 : -1099511627776 ≤ q2 ∧ q2 ≤ 1099511627776) (b3 : -1099511627776 ≤ q3 ∧ q3 ≤ 1099511627776) (c1 : -2147483648 ≤ y3.toInt - 4294967296 * q1 ∧ y3.toInt - 4294967296 * q1 ≤ 2147483647) (c2 : -128 ≤ y3.toInt - 4294967296 * q1 - 256 * q2 ∧ y3.toInt - 4294967296 * q1 - 256 * q2 ≤ 127) (c3 : -32768 ≤ y3.toInt - 4294967296 * q1 - 65536 * q3 ∧ y3.toInt - 4294967296 * q1 - 65536 * q3 ≤ 32767) (hso : k_fn w a1 12 4 (so : Int)) (hsi : c_in w so 14) (hs0 : k_fn w so 14 3 s0) (hy1 : y1.toInt = 3) (hy2 : y2.toInt = (k : Int)) (hk : k < 60) (hf : k_fn w (r 3) 17 k v) : ∃ v', k_fn w' (r 3) 17 k v' ∧ ((r9.toInt = 0 ∧ v' = v) ∨ (r9.toInt = 1 ∧ ((s0 = 0 ∧ v' = y3.toInt - 4294967296 * q1 - 256 * q2) ∨ (s0 = 1 ∧ v' = y3.toInt - 4294967296 * q1 - 65536 * q3) ∨ (s0 = 2 ∧ v' = y3.toInt - 4294967296 * q1) ∨ (s0 = 3 ∧ v' = y3.toInt)))) := by
  have hpd := k_preD (ct := j_c125_9) (r := k_rv [(a1 : Int), (3 : Int), y2.toInt, y3.toInt, q1, q2, q3, (rw : Int), (r 3 : Int), v, (so : Int), s0]) (vals := [.ref a1, .int y1, .int y2, .long y3]) (w := j_w w a1 rw r (j_g0 k 0 q1 q2 q3)) (by decide +kernel) ⟨(by show (0 : Int) ≤ (2147483648) + ((1) * y3.toInt + ((-4294967296) * q1 + (0))); omega), (by show (0 : Int) ≤ (2147483647) + ((-1) * y3.toInt + ((4294967296) * q1 + (0))); omega), (by show (0 : Int) ≤ (128) + ((1) * y3.toInt + ((-4294967296) * q1 + ((-256) * q2 + (0)))); omega), (by show (0 : Int) ≤ (127) + ((-1) * y3.toInt + ((4294967296) * q1 + ((256) * q2 + (0)))); omega), (by show (0 : Int) ≤ (32768) + ((1) * y3.toInt + ((-4294967296) * q1 + ((-65536) * q3 + (0)))); omega), (by show (0 : Int) ≤ (32767) + ((-1) * y3.toInt + ((4294967296) * q1 + ((65536) * q3 + (0)))); omega), (by show (0 : Int) ≤ (4) + (0); omega), trivial⟩ ⟨k_aR (j_in_a1 hS _ I.2.2.2.2.1), ⟨_, rfl, hy1, Int.le_refl _, Int.le_refl _⟩, ⟨_, rfl, rfl, (by show (0 : Int) ≤ y2.toInt; omega), (by show y2.toInt ≤ (59 : Int); omega)⟩, k_aJ _, trivial⟩ ⟨⟨300, rfl, c_gv_id (by decide) (by show (-1099511627776 : Int) ≤ q1; omega) (by show q1 ≤ 1099511627776; omega)⟩, ⟨301, rfl, c_gv_id (by decide) (by show (-1099511627776 : Int) ≤ q2; omega) (by show q2 ≤ 1099511627776; omega)⟩, ⟨302, rfl, c_gv_id (by decide) (by show (-1099511627776 : Int) ≤ q3; omega) (by show q3 ≤ 1099511627776; omega)⟩, k_fnC (b := 0) (j_fn hS (j_g0 k 0 q1 q2 q3) hS.1 (j_in_a1 hS _ I.2.2.2.2.1)) rfl rfl, k_fnC (b := 7) (j_fn hS (j_g0 k 0 q1 q2 q3) (hS.2.2.1 3 (by omega)).1 (j_in_rw hS _)) rfl (by show (0 : Int) + (1 * (3 : Int) + 0) = _; rfl), k_fnC (b := 8) (j_fn hS (j_g0 k 0 q1 q2 q3) hf (j_in_row hS _ (t := 3) (by omega))) rfl (by show (0 : Int) + (1 * y2.toInt + 0) = _; omega), k_fnC (b := 0) (j_fn hS (j_g0 k 0 q1 q2 q3) hso (j_in_a1 hS _ I.2.2.2.2.1)) rfl rfl, k_fnC (b := 10) (j_fn hS (j_g0 k 0 q1 q2 q3) hs0 (j_in_keep hS _ (by decide) (by decide) (by decide) (by decide) hsi)) rfl (by show (0 : Int) + (1 * (3 : Int) + 0) = _; omega), trivial⟩
  obtain ⟨rv2, res2, w2, hh, hr2, hp2, hP2, hD2, hT2⟩ := hj (j_c125_9, k_rv [(a1 : Int), (3 : Int), y2.toInt, y3.toInt, q1, q2, q3, (rw : Int), (r 3 : Int), v, (so : Int), s0], j_tg w a1 rw r, j_g0 k 0 q1 q2 q3) j_pm125_9 rfl rfl hpd.1 hpd.2 (j_TW (D := D) I.2.2.1 I.2.1 hS I.2.2.2.2.1 _)
  obtain ⟨x9, rfl, rfl, -, -⟩ := hr2
  have hx9 : x9 = r9 := by injection (Option.some.inj hh)
  subst hx9
  obtain ⟨he2, -, d, hd, rr, p1, p2, p3, p4, -⟩ := hp2
  have e1 : rr 1 = (a1 : Int) := p1 1 (by show 1 < c_entryN j_c125_9; decide)
  have e2 : rr 2 = (3 : Int) := p1 2 (by show 2 < c_entryN j_c125_9; decide)
  have e3 : rr 3 = y2.toInt := p1 3 (by show 3 < c_entryN j_c125_9; decide)
  have e4 : rr 4 = y3.toInt := p1 4 (by show 4 < c_entryN j_c125_9; decide)
  have e5 : rr 5 = q1 := p1 5 (by show 5 < c_entryN j_c125_9; decide)
  have e6 : rr 6 = q2 := p1 6 (by show 6 < c_entryN j_c125_9; decide)
  have e7 : rr 7 = q3 := p1 7 (by show 7 < c_entryN j_c125_9; decide)
  have e8 : rr 8 = (rw : Int) := p1 8 (by show 8 < c_entryN j_c125_9; decide)
  have e9 : rr 9 = (r 3 : Int) := p1 9 (by show 9 < c_entryN j_c125_9; decide)
  have e10 : rr 10 = v := p1 10 (by show 10 < c_entryN j_c125_9; decide)
  have e11 : rr 11 = (so : Int) := p1 11 (by show 11 < c_entryN j_c125_9; decide)
  have e12 : rr 12 = s0 := p1 12 (by show 12 < c_entryN j_c125_9; decide)
  have er : rr 13 = x9.toInt := p2 0 _ rfl
  have hin2 := k_inK he2 (by show ((ct_pros j_c125_9).all fun t => Nat.ble 101 t) = true; decide +kernel) (by decide) (j_in_row hS (j_g0 k 0 q1 q2 q3) (t := 3) (by omega))
  have hd : d ∈ ct_post j_c125_9 := hd
  simp only [ct_post, j_c125_9, List.mem_cons, List.not_mem_nil, or_false] at hd
  rcases hd with rfl | rfl | rfl | rfl | rfl
  all_goals
    have hc : k_fn w2 (r 3) 93 k (rr 14) := k_fnD (b := 8) (p3 0 _ rfl) e9 (by show (0 : Int) + (1 * rr 3 + 0) = _; rw [e3]; omega) hin2
    simp only [List.forall_mem_cons, c_ev, c_evs, List.not_mem_nil, false_implies, implies_true, and_true, e4, e5, e6, e7, e10, e12, er] at p4
    exact ⟨rr 14, j_back I1.1 hP2 I1.2.2.1 hT2 (hS1.2.2.1 3 (by omega)).2 rfl rfl hc, by omega⟩
theorem k_writeC7o3 {k k0 t so : Nat} {v v0 s0 : Int} {q1 q2 q3 : Int} {y1 y2 r9 : Int32} {y3 : Int64} (I : k_In s D dA a1 a2 w H locs) (hS : k_S7 a1 a2 w rw nm r) (I1 : k_In s D dA a1 a2 w' H' locs') (hS1 : k_S7 a1 a2 w' rw nm r) (hj : j_Ex0 s D dA 125 w [.ref a1, .int y1, .int y2, .long y3] H' [.int r9]) (b1 : -1099511627776 ≤ q1 ∧ q1 ≤ 1099511627776) (b2 : -1099511627776 ≤ q2 ∧ q2 ≤ 1099511627776) (b3 : -1099511627776 ≤ q3 ∧ q3 ≤ 1099511627776) (c1 : -2147483648 ≤ y3.toInt - 4294967296 * q1 ∧ y3.toInt - 4294967296 * q1 ≤ 2147483647) (c2 : -128 ≤ y3.toInt - 4294967296 * q1 - 256 * q2 ∧ y3.toInt - 4294967296 * q1 - 256 * q2 ≤ 127) (c3 : -32768 ≤ y3.toInt - 4294967296 * q1 - 65536 * q3 ∧ y3.toInt - 4294967296 * q1 - 65536 * q3 ≤ 32767) (hso : k_fn w a1 12 4 (so : Int)) (hsi : c_in w so 14) (hs0 : k_fn w so 14 3 s0) (hy1 : y1.toInt = 3) (hy2 : y2.toInt = (k0 : Int)) (hk0 : k0 < 60) (ht : t < 4) (hne : t ≠ 3) (hf0 : k_fn w (r 3) 17 k0 v0) (hf : k_fn w (r t) 17 k v) : k_fn w' (r t) 17 k v := by
  have hpd := k_preD (ct := j_c125_9) (r := k_rv [(a1 : Int), (3 : Int), y2.toInt, y3.toInt, q1, q2, q3, (rw : Int), (r 3 : Int), v0, (so : Int), s0]) (vals := [.ref a1, .int y1, .int y2, .long y3]) (w := j_w w a1 rw r (j_g0 k 0 q1 q2 q3)) (by decide +kernel) ⟨(by show (0 : Int) ≤ (2147483648) + ((1) * y3.toInt + ((-4294967296) * q1 + (0))); omega), (by show (0 : Int) ≤ (2147483647) + ((-1) * y3.toInt + ((4294967296) * q1 + (0))); omega), (by show (0 : Int) ≤ (128) + ((1) * y3.toInt + ((-4294967296) * q1 + ((-256) * q2 + (0)))); omega), (by show (0 : Int) ≤ (127) + ((-1) * y3.toInt + ((4294967296) * q1 + ((256) * q2 + (0)))); omega), (by show (0 : Int) ≤ (32768) + ((1) * y3.toInt + ((-4294967296) * q1 + ((-65536) * q3 + (0)))); omega), (by show (0 : Int) ≤ (32767) + ((-1) * y3.toInt + ((4294967296) * q1 + ((65536) * q3 + (0)))); omega), (by show (0 : Int) ≤ (4) + (0); omega), trivial⟩ ⟨k_aR (j_in_a1 hS _ I.2.2.2.2.1), ⟨_, rfl, hy1, Int.le_refl _, Int.le_refl _⟩, ⟨_, rfl, rfl, (by show (0 : Int) ≤ y2.toInt; omega), (by show y2.toInt ≤ (59 : Int); omega)⟩, k_aJ _, trivial⟩ ⟨⟨300, rfl, c_gv_id (by decide) (by show (-1099511627776 : Int) ≤ q1; omega) (by show q1 ≤ 1099511627776; omega)⟩, ⟨301, rfl, c_gv_id (by decide) (by show (-1099511627776 : Int) ≤ q2; omega) (by show q2 ≤ 1099511627776; omega)⟩, ⟨302, rfl, c_gv_id (by decide) (by show (-1099511627776 : Int) ≤ q3; omega) (by show q3 ≤ 1099511627776; omega)⟩, k_fnC (b := 0) (j_fn hS (j_g0 k 0 q1 q2 q3) hS.1 (j_in_a1 hS _ I.2.2.2.2.1)) rfl rfl, k_fnC (b := 7) (j_fn hS (j_g0 k 0 q1 q2 q3) (hS.2.2.1 3 (by omega)).1 (j_in_rw hS _)) rfl (by show (0 : Int) + (1 * (3 : Int) + 0) = _; rfl), k_fnC (b := 8) (j_fn hS (j_g0 k 0 q1 q2 q3) hf0 (j_in_row hS _ (t := 3) (by omega))) rfl (by show (0 : Int) + (1 * y2.toInt + 0) = _; omega), k_fnC (b := 0) (j_fn hS (j_g0 k 0 q1 q2 q3) hso (j_in_a1 hS _ I.2.2.2.2.1)) rfl rfl, k_fnC (b := 10) (j_fn hS (j_g0 k 0 q1 q2 q3) hs0 (j_in_keep hS _ (by decide) (by decide) (by decide) (by decide) hsi)) rfl (by show (0 : Int) + (1 * (3 : Int) + 0) = _; omega), trivial⟩
  obtain ⟨rv2, res2, w2, hh, hr2, hp2, hP2, hD2, hT2⟩ := hj (j_c125_9, k_rv [(a1 : Int), (3 : Int), y2.toInt, y3.toInt, q1, q2, q3, (rw : Int), (r 3 : Int), v0, (so : Int), s0], j_tg w a1 rw r, j_g0 k 0 q1 q2 q3) j_pm125_9 rfl rfl hpd.1 hpd.2 (j_TW (D := D) I.2.2.1 I.2.1 hS I.2.2.2.2.1 _)
  obtain ⟨he2, -⟩ := hp2
  exact j_rowK hS I1 hS1 he2 (by show ((ct_pros j_c125_9).all fun t => Nat.ble 101 t) = true; decide +kernel) hP2 hT2 ht (k_none_ok (by show k_none (ct_eff j_c125_9) (90 + t) = true; rcases (show t = 0 ∨ t = 1 ∨ t = 2 by omega) with rfl | rfl | rfl <;> decide +kernel) _ _) hf
theorem k_writeC7l3 {k : Nat} {v : Int} {q1 q2 q3 : Int} {y1 y2 r9 : Int32} {y3 : Int64} (I : k_In s D dA a1 a2 w H locs) (hS : k_S7 a1 a2 w rw nm r) (I1 : k_In s D dA a1 a2 w' H' locs') (hS1 : k_S7 a1 a2 w' rw nm r) (hj : j_Ex0 s D dA 125 w [.ref a1, .int y1, .int y2, .long y3] H' [.int r9]) (b1 : -1099511627776 ≤ q1 ∧ q1 ≤ 1099511627776) (b2 : -1099511627776 ≤ q2 ∧ q2 ≤ 1099511627776) (b3 : -1099511627776 ≤ q3 ∧ q3 ≤ 1099511627776) (c1 : -2147483648 ≤ y3.toInt - 4294967296 * q1 ∧ y3.toInt - 4294967296 * q1 ≤ 2147483647) (c2 : -128 ≤ y3.toInt - 4294967296 * q1 - 256 * q2 ∧ y3.toInt - 4294967296 * q1 - 256 * q2 ≤ 127) (c3 : -32768 ≤ y3.toInt - 4294967296 * q1 - 65536 * q3 ∧ y3.toInt - 4294967296 * q1 - 65536 * q3 ≤ 32767) (hy1 : y1.toInt = 3) (hy : y2.toInt < (k : Int)) (hk : k < 60) (hf : k_fn w (r 3) 17 k v) : ∃ v', k_fn w' (r 3) 17 k v' ∧ v' = v := by
  have hpd := k_preD (ct := j_c125_10) (r := k_rv [(a1 : Int), (3 : Int), y2.toInt, y3.toInt, (k : Int), q1, q2, q3, (rw : Int), (r 3 : Int), v]) (vals := [.ref a1, .int y1, .int y2, .long y3]) (w := j_w w a1 rw r (j_g0 k 0 q1 q2 q3)) (by decide +kernel) ⟨(by show (0 : Int) ≤ (-1) + ((-1) * y2.toInt + ((1) * (k : Int) + (0))); omega), (by show (0 : Int) ≤ (2147483648) + ((1) * y3.toInt + ((-4294967296) * q1 + (0))); omega), (by show (0 : Int) ≤ (2147483647) + ((-1) * y3.toInt + ((4294967296) * q1 + (0))); omega), (by show (0 : Int) ≤ (128) + ((1) * y3.toInt + ((-4294967296) * q1 + ((-256) * q2 + (0)))); omega), (by show (0 : Int) ≤ (127) + ((-1) * y3.toInt + ((4294967296) * q1 + ((256) * q2 + (0)))); omega), (by show (0 : Int) ≤ (32768) + ((1) * y3.toInt + ((-4294967296) * q1 + ((-65536) * q3 + (0)))); omega), (by show (0 : Int) ≤ (32767) + ((-1) * y3.toInt + ((4294967296) * q1 + ((65536) * q3 + (0)))); omega), (by show (0 : Int) ≤ (4) + (0); omega), trivial⟩ ⟨k_aR (j_in_a1 hS _ I.2.2.2.2.1), ⟨_, rfl, hy1, Int.le_refl _, Int.le_refl _⟩, k_aI _, k_aJ _, trivial⟩ ⟨⟨40, rfl, c_gv_id40 (by show (0 : Int) ≤ (k : Int); omega) (by show (k : Int) ≤ 59; omega)⟩, ⟨300, rfl, c_gv_id (by decide) (by show (-1099511627776 : Int) ≤ q1; omega) (by show q1 ≤ 1099511627776; omega)⟩, ⟨301, rfl, c_gv_id (by decide) (by show (-1099511627776 : Int) ≤ q2; omega) (by show q2 ≤ 1099511627776; omega)⟩, ⟨302, rfl, c_gv_id (by decide) (by show (-1099511627776 : Int) ≤ q3; omega) (by show q3 ≤ 1099511627776; omega)⟩, k_fnC (b := 0) (j_fn hS (j_g0 k 0 q1 q2 q3) hS.1 (j_in_a1 hS _ I.2.2.2.2.1)) rfl rfl, k_fnC (b := 8) (j_fn hS (j_g0 k 0 q1 q2 q3) (hS.2.2.1 3 (by omega)).1 (j_in_rw hS _)) rfl (by show (0 : Int) + (1 * (3 : Int) + 0) = _; rfl), k_fnC (b := 9) (j_fn hS (j_g0 k 0 q1 q2 q3) hf (j_in_row hS _ (t := 3) (by omega))) rfl (by show (0 : Int) + (1 * (k : Int) + 0) = _; omega), trivial⟩
  obtain ⟨rv2, res2, w2, hh, hr2, hp2, hP2, hD2, hT2⟩ := hj (j_c125_10, k_rv [(a1 : Int), (3 : Int), y2.toInt, y3.toInt, (k : Int), q1, q2, q3, (rw : Int), (r 3 : Int), v], j_tg w a1 rw r, j_g0 k 0 q1 q2 q3) j_pm125_10 rfl rfl hpd.1 hpd.2 (j_TW (D := D) I.2.2.1 I.2.1 hS I.2.2.2.2.1 _)
  obtain ⟨x9, rfl, rfl, -, -⟩ := hr2
  have hx9 : x9 = r9 := by injection (Option.some.inj hh)
  subst hx9
  obtain ⟨he2, -, d, hd, rr, p1, p2, p3, p4, -⟩ := hp2
  have e1 : rr 1 = (a1 : Int) := p1 1 (by show 1 < c_entryN j_c125_10; decide)
  have e2 : rr 2 = (3 : Int) := p1 2 (by show 2 < c_entryN j_c125_10; decide)
  have e3 : rr 3 = y2.toInt := p1 3 (by show 3 < c_entryN j_c125_10; decide)
  have e4 : rr 4 = y3.toInt := p1 4 (by show 4 < c_entryN j_c125_10; decide)
  have e5 : rr 5 = (k : Int) := p1 5 (by show 5 < c_entryN j_c125_10; decide)
  have e6 : rr 6 = q1 := p1 6 (by show 6 < c_entryN j_c125_10; decide)
  have e7 : rr 7 = q2 := p1 7 (by show 7 < c_entryN j_c125_10; decide)
  have e8 : rr 8 = q3 := p1 8 (by show 8 < c_entryN j_c125_10; decide)
  have e9 : rr 9 = (rw : Int) := p1 9 (by show 9 < c_entryN j_c125_10; decide)
  have e10 : rr 10 = (r 3 : Int) := p1 10 (by show 10 < c_entryN j_c125_10; decide)
  have e11 : rr 11 = v := p1 11 (by show 11 < c_entryN j_c125_10; decide)
  have er : rr 12 = x9.toInt := p2 0 _ rfl
  have hin2 := k_inK he2 (by show ((ct_pros j_c125_10).all fun t => Nat.ble 101 t) = true; decide +kernel) (by decide) (j_in_row hS (j_g0 k 0 q1 q2 q3) (t := 3) (by omega))
  have hd : d ∈ ct_post j_c125_10 := hd
  simp only [ct_post, j_c125_10, List.mem_cons, List.not_mem_nil, or_false] at hd
  subst hd
  have hc : k_fn w2 (r 3) 93 k (rr 13) := k_fnD (b := 9) (p3 0 _ rfl) e10 (by show (0 : Int) + (1 * rr 5 + 0) = _; rw [e5]; omega) hin2
  simp only [List.forall_mem_cons, c_ev, c_evs, List.not_mem_nil, false_implies, implies_true, and_true, e11, er] at p4
  exact ⟨rr 13, j_back I1.1 hP2 I1.2.2.1 hT2 (hS1.2.2.1 3 (by omega)).2 rfl rfl hc, by omega⟩
theorem k_writeC7g3 {k : Nat} {v : Int} {q1 q2 q3 : Int} {y1 y2 r9 : Int32} {y3 : Int64} (I : k_In s D dA a1 a2 w H locs) (hS : k_S7 a1 a2 w rw nm r) (I1 : k_In s D dA a1 a2 w' H' locs') (hS1 : k_S7 a1 a2 w' rw nm r) (hj : j_Ex0 s D dA 125 w [.ref a1, .int y1, .int y2, .long y3] H' [.int r9]) (b1 : -1099511627776 ≤ q1 ∧ q1 ≤ 1099511627776) (b2 : -1099511627776 ≤ q2 ∧ q2 ≤ 1099511627776) (b3 : -1099511627776 ≤ q3 ∧ q3 ≤ 1099511627776) (c1 : -2147483648 ≤ y3.toInt - 4294967296 * q1 ∧ y3.toInt - 4294967296 * q1 ≤ 2147483647) (c2 : -128 ≤ y3.toInt - 4294967296 * q1 - 256 * q2 ∧ y3.toInt - 4294967296 * q1 - 256 * q2 ≤ 127) (c3 : -32768 ≤ y3.toInt - 4294967296 * q1 - 65536 * q3 ∧ y3.toInt - 4294967296 * q1 - 65536 * q3 ≤ 32767) (hy1 : y1.toInt = 3) (hy : (k : Int) < y2.toInt) (hk : k < 60) (hf : k_fn w (r 3) 17 k v) : ∃ v', k_fn w' (r 3) 17 k v' ∧ v' = v := by
  have hpd := k_preD (ct := j_c125_11) (r := k_rv [(a1 : Int), (3 : Int), y2.toInt, y3.toInt, (k : Int), q1, q2, q3, (rw : Int), (r 3 : Int), v]) (vals := [.ref a1, .int y1, .int y2, .long y3]) (w := j_w w a1 rw r (j_g0 k 0 q1 q2 q3)) (by decide +kernel) ⟨(by show (0 : Int) ≤ (-1) + ((1) * y2.toInt + ((-1) * (k : Int) + (0))); omega), (by show (0 : Int) ≤ (2147483648) + ((1) * y3.toInt + ((-4294967296) * q1 + (0))); omega), (by show (0 : Int) ≤ (2147483647) + ((-1) * y3.toInt + ((4294967296) * q1 + (0))); omega), (by show (0 : Int) ≤ (128) + ((1) * y3.toInt + ((-4294967296) * q1 + ((-256) * q2 + (0)))); omega), (by show (0 : Int) ≤ (127) + ((-1) * y3.toInt + ((4294967296) * q1 + ((256) * q2 + (0)))); omega), (by show (0 : Int) ≤ (32768) + ((1) * y3.toInt + ((-4294967296) * q1 + ((-65536) * q3 + (0)))); omega), (by show (0 : Int) ≤ (32767) + ((-1) * y3.toInt + ((4294967296) * q1 + ((65536) * q3 + (0)))); omega), (by show (0 : Int) ≤ (4) + (0); omega), trivial⟩ ⟨k_aR (j_in_a1 hS _ I.2.2.2.2.1), ⟨_, rfl, hy1, Int.le_refl _, Int.le_refl _⟩, k_aI _, k_aJ _, trivial⟩ ⟨⟨40, rfl, c_gv_id40 (by show (0 : Int) ≤ (k : Int); omega) (by show (k : Int) ≤ 59; omega)⟩, ⟨300, rfl, c_gv_id (by decide) (by show (-1099511627776 : Int) ≤ q1; omega) (by show q1 ≤ 1099511627776; omega)⟩, ⟨301, rfl, c_gv_id (by decide) (by show (-1099511627776 : Int) ≤ q2; omega) (by show q2 ≤ 1099511627776; omega)⟩, ⟨302, rfl, c_gv_id (by decide) (by show (-1099511627776 : Int) ≤ q3; omega) (by show q3 ≤ 1099511627776; omega)⟩, k_fnC (b := 0) (j_fn hS (j_g0 k 0 q1 q2 q3) hS.1 (j_in_a1 hS _ I.2.2.2.2.1)) rfl rfl, k_fnC (b := 8) (j_fn hS (j_g0 k 0 q1 q2 q3) (hS.2.2.1 3 (by omega)).1 (j_in_rw hS _)) rfl (by show (0 : Int) + (1 * (3 : Int) + 0) = _; rfl), k_fnC (b := 9) (j_fn hS (j_g0 k 0 q1 q2 q3) hf (j_in_row hS _ (t := 3) (by omega))) rfl (by show (0 : Int) + (1 * (k : Int) + 0) = _; omega), trivial⟩
  obtain ⟨rv2, res2, w2, hh, hr2, hp2, hP2, hD2, hT2⟩ := hj (j_c125_11, k_rv [(a1 : Int), (3 : Int), y2.toInt, y3.toInt, (k : Int), q1, q2, q3, (rw : Int), (r 3 : Int), v], j_tg w a1 rw r, j_g0 k 0 q1 q2 q3) j_pm125_11 rfl rfl hpd.1 hpd.2 (j_TW (D := D) I.2.2.1 I.2.1 hS I.2.2.2.2.1 _)
  obtain ⟨x9, rfl, rfl, -, -⟩ := hr2
  have hx9 : x9 = r9 := by injection (Option.some.inj hh)
  subst hx9
  obtain ⟨he2, -, d, hd, rr, p1, p2, p3, p4, -⟩ := hp2
  have e1 : rr 1 = (a1 : Int) := p1 1 (by show 1 < c_entryN j_c125_11; decide)
  have e2 : rr 2 = (3 : Int) := p1 2 (by show 2 < c_entryN j_c125_11; decide)
  have e3 : rr 3 = y2.toInt := p1 3 (by show 3 < c_entryN j_c125_11; decide)
  have e4 : rr 4 = y3.toInt := p1 4 (by show 4 < c_entryN j_c125_11; decide)
  have e5 : rr 5 = (k : Int) := p1 5 (by show 5 < c_entryN j_c125_11; decide)
  have e6 : rr 6 = q1 := p1 6 (by show 6 < c_entryN j_c125_11; decide)
  have e7 : rr 7 = q2 := p1 7 (by show 7 < c_entryN j_c125_11; decide)
  have e8 : rr 8 = q3 := p1 8 (by show 8 < c_entryN j_c125_11; decide)
  have e9 : rr 9 = (rw : Int) := p1 9 (by show 9 < c_entryN j_c125_11; decide)
  have e10 : rr 10 = (r 3 : Int) := p1 10 (by show 10 < c_entryN j_c125_11; decide)
  have e11 : rr 11 = v := p1 11 (by show 11 < c_entryN j_c125_11; decide)
  have er : rr 12 = x9.toInt := p2 0 _ rfl
  have hin2 := k_inK he2 (by show ((ct_pros j_c125_11).all fun t => Nat.ble 101 t) = true; decide +kernel) (by decide) (j_in_row hS (j_g0 k 0 q1 q2 q3) (t := 3) (by omega))
  have hd : d ∈ ct_post j_c125_11 := hd
  simp only [ct_post, j_c125_11, List.mem_cons, List.not_mem_nil, or_false] at hd
  subst hd
  have hc : k_fn w2 (r 3) 93 k (rr 13) := k_fnD (b := 9) (p3 0 _ rfl) e10 (by show (0 : Int) + (1 * rr 5 + 0) = _; rw [e5]; omega) hin2
  simp only [List.forall_mem_cons, c_ev, c_evs, List.not_mem_nil, false_implies, implies_true, and_true, e11, er] at p4
  exact ⟨rr 13, j_back I1.1 hP2 I1.2.2.1 hT2 (hS1.2.2.1 3 (by omega)).2 rfl rfl hc, by omega⟩
theorem k_writeC7n {k t : Nat} {v : Int} {y1 y2 r9 : Int32} {y3 : Int64} (I : k_In s D dA a1 a2 w H locs) (hS : k_S7 a1 a2 w rw nm r) (I1 : k_In s D dA a1 a2 w' H' locs') (hS1 : k_S7 a1 a2 w' rw nm r) (hj : j_Ex0 s D dA 125 w [.ref a1, .int y1, .int y2, .long y3] H' [.int r9]) (h0 : 0 ≤ y1.toInt) (h3 : y1.toInt ≤ 3) (hy : y2.toInt < 0) (ht : t < 4) (hf : k_fn w (r t) 17 k v) : k_fn w' (r t) 17 k v := by
  have hpd := k_preD (ct := j_c125_12) (r := k_rv [(a1 : Int), y1.toInt, y2.toInt, y3.toInt]) (vals := [.ref a1, .int y1, .int y2, .long y3]) (w := j_w w a1 rw r (fun _ => (0 : Int))) (by decide +kernel) ⟨(by show (0 : Int) ≤ (4) + (0); omega), trivial⟩ ⟨k_aR (j_in_a1 hS _ I.2.2.2.2.1), ⟨_, rfl, rfl, (by show (0 : Int) ≤ y1.toInt; omega), (by show y1.toInt ≤ (3 : Int); omega)⟩, ⟨_, rfl, rfl, y2.le_toInt, (by show y2.toInt ≤ (-1 : Int); omega)⟩, k_aJ _, trivial⟩ trivial
  obtain ⟨rv2, res2, w2, hh, hr2, hp2, hP2, hD2, hT2⟩ := hj (j_c125_12, k_rv [(a1 : Int), y1.toInt, y2.toInt, y3.toInt], j_tg w a1 rw r, fun _ => (0 : Int)) j_pm125_12 rfl rfl hpd.1 hpd.2 (j_TW (D := D) I.2.2.1 I.2.1 hS I.2.2.2.2.1 _)
  obtain ⟨he2, -⟩ := hp2
  exact j_rowK hS I1 hS1 he2 (by show ((ct_pros j_c125_12).all fun t => Nat.ble 101 t) = true; decide +kernel) hP2 hT2 ht (k_none_ok (by show k_none (ct_eff j_c125_12) (90 + t) = true; rcases (show t = 0 ∨ t = 1 ∨ t = 2 ∨ t = 3 by omega) with rfl | rfl | rfl | rfl <;> decide +kernel) _ _) hf
theorem k_writeC7p {k t : Nat} {v : Int} {y1 y2 r9 : Int32} {y3 : Int64} (I : k_In s D dA a1 a2 w H locs) (hS : k_S7 a1 a2 w rw nm r) (I1 : k_In s D dA a1 a2 w' H' locs') (hS1 : k_S7 a1 a2 w' rw nm r) (hj : j_Ex0 s D dA 125 w [.ref a1, .int y1, .int y2, .long y3] H' [.int r9]) (h0 : 0 ≤ y1.toInt) (h3 : y1.toInt ≤ 3) (hy : 60 ≤ y2.toInt) (ht : t < 4) (hf : k_fn w (r t) 17 k v) : k_fn w' (r t) 17 k v := by
  have hpd := k_preD (ct := j_c125_13) (r := k_rv [(a1 : Int), y1.toInt, y2.toInt, y3.toInt]) (vals := [.ref a1, .int y1, .int y2, .long y3]) (w := j_w w a1 rw r (fun _ => (0 : Int))) (by decide +kernel) ⟨(by show (0 : Int) ≤ (4) + (0); omega), trivial⟩ ⟨k_aR (j_in_a1 hS _ I.2.2.2.2.1), ⟨_, rfl, rfl, (by show (0 : Int) ≤ y1.toInt; omega), (by show y1.toInt ≤ (3 : Int); omega)⟩, ⟨_, rfl, rfl, (by show (60 : Int) ≤ y2.toInt; omega), (by have := y2.toInt_lt; show y2.toInt ≤ (2147483647 : Int); omega)⟩, k_aJ _, trivial⟩ trivial
  obtain ⟨rv2, res2, w2, hh, hr2, hp2, hP2, hD2, hT2⟩ := hj (j_c125_13, k_rv [(a1 : Int), y1.toInt, y2.toInt, y3.toInt], j_tg w a1 rw r, fun _ => (0 : Int)) j_pm125_13 rfl rfl hpd.1 hpd.2 (j_TW (D := D) I.2.2.1 I.2.1 hS I.2.2.2.2.1 _)
  obtain ⟨he2, -⟩ := hp2
  exact j_rowK hS I1 hS1 he2 (by show ((ct_pros j_c125_13).all fun t => Nat.ble 101 t) = true; decide +kernel) hP2 hT2 ht (k_none_ok (by show k_none (ct_eff j_c125_13) (90 + t) = true; rcases (show t = 0 ∨ t = 1 ∨ t = 2 ∨ t = 3 by omega) with rfl | rfl | rfl | rfl <;> decide +kernel) _ _) hf
theorem k_writeM7n {k t : Nat} {v : Int} {y1 y2 r9 : Int32} {y3 : Int64} (I : k_In s D dA a1 a2 w H locs) (hS : k_S7 a1 a2 w rw nm r) (I1 : k_In s D dA a1 a2 w' H' locs') (hS1 : k_S7 a1 a2 w' rw nm r) (hj : j_Ex0 s D dA 213 w [.ref a2, .int y1, .int y2, .long y3] H' [.int r9]) (h0 : 0 ≤ y1.toInt) (h3 : y1.toInt ≤ 3) (hy : y2.toInt < 0) (ht : t < 4) (hf : k_fn w nm 61 (60 * t + k) v) : k_fn w' nm 61 (60 * t + k) v := by
  have hpd := k_preD (ct := j_c213_3) (r := k_rv [(a2 : Int), y1.toInt, y2.toInt, y3.toInt]) (vals := [.ref a2, .int y1, .int y2, .long y3]) (w := j_w w a1 rw r (fun _ => (0 : Int))) (by decide +kernel) ⟨(by show (0 : Int) ≤ (4) + (0); omega), trivial⟩ ⟨k_aR (j_in_keep hS _ (by decide) (by decide) (by decide) (by decide) I.2.2.2.2.2.1), ⟨_, rfl, rfl, (by show (0 : Int) ≤ y1.toInt; omega), (by show y1.toInt ≤ (3 : Int); omega)⟩, ⟨_, rfl, rfl, y2.le_toInt, (by show y2.toInt ≤ (-1 : Int); omega)⟩, k_aJ _, trivial⟩ trivial
  obtain ⟨rv2, res2, w2, hh, hr2, hp2, hP2, hD2, hT2⟩ := hj (j_c213_3, k_rv [(a2 : Int), y1.toInt, y2.toInt, y3.toInt], j_tg w a1 rw r, fun _ => (0 : Int)) j_pm213_3 rfl rfl hpd.1 hpd.2 (j_TW (D := D) I.2.2.1 I.2.1 hS I.2.2.2.2.1 _)
  obtain ⟨he2, -⟩ := hp2
  exact j_numK hS I1 hS1 he2 (by show ((ct_pros j_c213_3).all fun t => Nat.ble 101 t) = true; decide +kernel) hP2 hT2 (k_none_ok (by show k_none (ct_eff j_c213_3) 61 = true; decide +kernel) _ _) hf
theorem k_writeM7p {k t : Nat} {v : Int} {y1 y2 r9 : Int32} {y3 : Int64} (I : k_In s D dA a1 a2 w H locs) (hS : k_S7 a1 a2 w rw nm r) (I1 : k_In s D dA a1 a2 w' H' locs') (hS1 : k_S7 a1 a2 w' rw nm r) (hj : j_Ex0 s D dA 213 w [.ref a2, .int y1, .int y2, .long y3] H' [.int r9]) (h0 : 0 ≤ y1.toInt) (h3 : y1.toInt ≤ 3) (hy : 60 ≤ y2.toInt) (ht : t < 4) (hf : k_fn w nm 61 (60 * t + k) v) : k_fn w' nm 61 (60 * t + k) v := by
  have hpd := k_preD (ct := j_c213_4) (r := k_rv [(a2 : Int), y1.toInt, y2.toInt, y3.toInt]) (vals := [.ref a2, .int y1, .int y2, .long y3]) (w := j_w w a1 rw r (fun _ => (0 : Int))) (by decide +kernel) ⟨(by show (0 : Int) ≤ (4) + (0); omega), trivial⟩ ⟨k_aR (j_in_keep hS _ (by decide) (by decide) (by decide) (by decide) I.2.2.2.2.2.1), ⟨_, rfl, rfl, (by show (0 : Int) ≤ y1.toInt; omega), (by show y1.toInt ≤ (3 : Int); omega)⟩, ⟨_, rfl, rfl, (by show (60 : Int) ≤ y2.toInt; omega), (by have := y2.toInt_lt; show y2.toInt ≤ (2147483647 : Int); omega)⟩, k_aJ _, trivial⟩ trivial
  obtain ⟨rv2, res2, w2, hh, hr2, hp2, hP2, hD2, hT2⟩ := hj (j_c213_4, k_rv [(a2 : Int), y1.toInt, y2.toInt, y3.toInt], j_tg w a1 rw r, fun _ => (0 : Int)) j_pm213_4 rfl rfl hpd.1 hpd.2 (j_TW (D := D) I.2.2.1 I.2.1 hS I.2.2.2.2.1 _)
  obtain ⟨he2, -⟩ := hp2
  exact j_numK hS I1 hS1 he2 (by show ((ct_pros j_c213_4).all fun t => Nat.ble 101 t) = true; decide +kernel) hP2 hT2 (k_none_ok (by show k_none (ct_eff j_c213_4) 61 = true; decide +kernel) _ _) hf
theorem k_writeM7e {k t ts : Nat} {v u0 : Int} {q1 q2 q3 : Int} {y1 y2 r9 : Int32} {y3 : Int64} (I : k_In s D dA a1 a2 w H locs) (hS : k_S7 a1 a2 w rw nm r) (I1 : k_In s D dA a1 a2 w' H' locs') (hS1 : k_S7 a1 a2 w' rw nm r) (hj : j_Ex0 s D dA 213 w [.ref a2, .int y1, .int y2, .long y3] H' [.int r9]) (b1 : -1099511627776 ≤ q1 ∧ q1 ≤ 1099511627776) (b2 : -1099511627776 ≤ q2 ∧ q2 ≤ 1099511627776) (b3 : -1099511627776 ≤ q3 ∧ q3 ≤ 1099511627776) (c1 : -2147483648 ≤ y3.toInt - 4294967296 * q1 ∧ y3.toInt - 4294967296 * q1 ≤ 2147483647) (c2 : -128 ≤ y3.toInt - 4294967296 * q1 - 256 * q2 ∧ y3.toInt - 4294967296 * q1 - 256 * q2 ≤ 127) (c3 : -32768 ≤ y3.toInt - 4294967296 * q1 - 65536 * q3 ∧ y3.toInt - 4294967296 * q1 - 65536 * q3 ≤ 32767) (hts : k_fn w a2 13 4 (ts : Int)) (hti : c_in w ts 59) (hu0 : k_fn w ts 59 t u0) (hy1 : y1.toInt = (t : Int)) (ht : t < 4) (hy2 : y2.toInt = (k : Int)) (hk : k < 60) (hf : k_fn w nm 61 (60 * t + k) v) : ∃ v', k_fn w' nm 61 (60 * t + k) v' ∧ ((r9.toInt = 0 ∧ v' = v) ∨ (r9.toInt = 1 ∧ ((u0 = 0 ∧ v' = y3.toInt - 4294967296 * q1 - 256 * q2) ∨ (u0 = 1 ∧ v' = y3.toInt - 4294967296 * q1 - 65536 * q3) ∨ (u0 = 2 ∧ v' = y3.toInt - 4294967296 * q1) ∨ (u0 = 3 ∧ v' = y3.toInt)))) := by
  have hpd := k_preD (ct := j_c213_0) (r := k_rv [(a2 : Int), y1.toInt, y2.toInt, y3.toInt, q1, q2, q3, (nm : Int), v, (ts : Int), u0]) (vals := [.ref a2, .int y1, .int y2, .long y3]) (w := j_w w a1 rw r (j_g0 k 0 q1 q2 q3)) (by decide +kernel) ⟨(by show (0 : Int) ≤ (2147483648) + ((1) * y3.toInt + ((-4294967296) * q1 + (0))); omega), (by show (0 : Int) ≤ (2147483647) + ((-1) * y3.toInt + ((4294967296) * q1 + (0))); omega), (by show (0 : Int) ≤ (128) + ((1) * y3.toInt + ((-4294967296) * q1 + ((-256) * q2 + (0)))); omega), (by show (0 : Int) ≤ (127) + ((-1) * y3.toInt + ((4294967296) * q1 + ((256) * q2 + (0)))); omega), (by show (0 : Int) ≤ (32768) + ((1) * y3.toInt + ((-4294967296) * q1 + ((-65536) * q3 + (0)))); omega), (by show (0 : Int) ≤ (32767) + ((-1) * y3.toInt + ((4294967296) * q1 + ((65536) * q3 + (0)))); omega), (by show (0 : Int) ≤ (4) + (0); omega), trivial⟩ ⟨k_aR (j_in_keep hS _ (by decide) (by decide) (by decide) (by decide) I.2.2.2.2.2.1), ⟨_, rfl, rfl, (by show (0 : Int) ≤ y1.toInt; omega), (by show y1.toInt ≤ (3 : Int); omega)⟩, ⟨_, rfl, rfl, (by show (0 : Int) ≤ y2.toInt; omega), (by show y2.toInt ≤ (59 : Int); omega)⟩, k_aJ _, trivial⟩ ⟨⟨300, rfl, c_gv_id (by decide) (by show (-1099511627776 : Int) ≤ q1; omega) (by show q1 ≤ 1099511627776; omega)⟩, ⟨301, rfl, c_gv_id (by decide) (by show (-1099511627776 : Int) ≤ q2; omega) (by show q2 ≤ 1099511627776; omega)⟩, ⟨302, rfl, c_gv_id (by decide) (by show (-1099511627776 : Int) ≤ q3; omega) (by show q3 ≤ 1099511627776; omega)⟩, k_fnC (b := 0) (j_fn hS (j_g0 k 0 q1 q2 q3) hS.2.2.2.2.1 (j_in_keep hS _ (by decide) (by decide) (by decide) (by decide) I.2.2.2.2.2.1)) rfl rfl, k_fnC (b := 7) (j_fn hS (j_g0 k 0 q1 q2 q3) hf (j_in_keep hS _ (by decide) (by decide) (by decide) (by decide) hS.2.2.2.2.2)) rfl (by show (0 : Int) + (60 * y1.toInt + (1 * y2.toInt + 0)) = _; omega), k_fnC (b := 0) (j_fn hS (j_g0 k 0 q1 q2 q3) hts (j_in_keep hS _ (by decide) (by decide) (by decide) (by decide) I.2.2.2.2.2.1)) rfl rfl, k_fnC (b := 9) (j_fn hS (j_g0 k 0 q1 q2 q3) hu0 (j_in_keep hS _ (by decide) (by decide) (by decide) (by decide) hti)) rfl (by show (0 : Int) + (1 * y1.toInt + 0) = _; omega), trivial⟩
  obtain ⟨rv2, res2, w2, hh, hr2, hp2, hP2, hD2, hT2⟩ := hj (j_c213_0, k_rv [(a2 : Int), y1.toInt, y2.toInt, y3.toInt, q1, q2, q3, (nm : Int), v, (ts : Int), u0], j_tg w a1 rw r, j_g0 k 0 q1 q2 q3) j_pm213_0 rfl rfl hpd.1 hpd.2 (j_TW (D := D) I.2.2.1 I.2.1 hS I.2.2.2.2.1 _)
  obtain ⟨x9, rfl, rfl, -, -⟩ := hr2
  have hx9 : x9 = r9 := by injection (Option.some.inj hh)
  subst hx9
  obtain ⟨he2, -, d, hd, rr, p1, p2, p3, p4, -⟩ := hp2
  have e1 : rr 1 = (a2 : Int) := p1 1 (by show 1 < c_entryN j_c213_0; decide)
  have e2 : rr 2 = y1.toInt := p1 2 (by show 2 < c_entryN j_c213_0; decide)
  have e3 : rr 3 = y2.toInt := p1 3 (by show 3 < c_entryN j_c213_0; decide)
  have e4 : rr 4 = y3.toInt := p1 4 (by show 4 < c_entryN j_c213_0; decide)
  have e5 : rr 5 = q1 := p1 5 (by show 5 < c_entryN j_c213_0; decide)
  have e6 : rr 6 = q2 := p1 6 (by show 6 < c_entryN j_c213_0; decide)
  have e7 : rr 7 = q3 := p1 7 (by show 7 < c_entryN j_c213_0; decide)
  have e8 : rr 8 = (nm : Int) := p1 8 (by show 8 < c_entryN j_c213_0; decide)
  have e9 : rr 9 = v := p1 9 (by show 9 < c_entryN j_c213_0; decide)
  have e10 : rr 10 = (ts : Int) := p1 10 (by show 10 < c_entryN j_c213_0; decide)
  have e11 : rr 11 = u0 := p1 11 (by show 11 < c_entryN j_c213_0; decide)
  have er : rr 12 = x9.toInt := p2 0 _ rfl
  have hin2 := k_inK he2 (by show ((ct_pros j_c213_0).all fun t => Nat.ble 101 t) = true; decide +kernel) (by decide) (j_in_keep hS (j_g0 k 0 q1 q2 q3) (by decide) (by decide) (by decide) (by decide) hS.2.2.2.2.2)
  have hd : d ∈ ct_post j_c213_0 := hd
  simp only [ct_post, j_c213_0, List.mem_cons, List.not_mem_nil, or_false] at hd
  rcases hd with rfl | rfl | rfl | rfl | rfl
  all_goals
    have hc : k_fn w2 nm 61 (60 * t + k) (rr 13) := k_fnD (b := 7) (p3 0 _ rfl) e8 (by show (0 : Int) + (60 * rr 2 + (1 * rr 3 + 0)) = _; rw [e2, e3]; omega) hin2
    simp only [List.forall_mem_cons, c_ev, c_evs, List.not_mem_nil, false_implies, implies_true, and_true, e4, e5, e6, e7, e9, e11, er] at p4
    exact ⟨rr 13, j_back I1.1 hP2 I1.2.2.1 hT2 hS1.2.2.2.2.2 (by decide +kernel) (by decide +kernel) hc, by omega⟩
theorem k_writeM7l {k t : Nat} {v : Int} {q1 q2 q3 : Int} {y1 y2 r9 : Int32} {y3 : Int64} (I : k_In s D dA a1 a2 w H locs) (hS : k_S7 a1 a2 w rw nm r) (I1 : k_In s D dA a1 a2 w' H' locs') (hS1 : k_S7 a1 a2 w' rw nm r) (hj : j_Ex0 s D dA 213 w [.ref a2, .int y1, .int y2, .long y3] H' [.int r9]) (b1 : -1099511627776 ≤ q1 ∧ q1 ≤ 1099511627776) (b2 : -1099511627776 ≤ q2 ∧ q2 ≤ 1099511627776) (b3 : -1099511627776 ≤ q3 ∧ q3 ≤ 1099511627776) (c1 : -2147483648 ≤ y3.toInt - 4294967296 * q1 ∧ y3.toInt - 4294967296 * q1 ≤ 2147483647) (c2 : -128 ≤ y3.toInt - 4294967296 * q1 - 256 * q2 ∧ y3.toInt - 4294967296 * q1 - 256 * q2 ≤ 127) (c3 : -32768 ≤ y3.toInt - 4294967296 * q1 - 65536 * q3 ∧ y3.toInt - 4294967296 * q1 - 65536 * q3 ≤ 32767) (h0 : 0 ≤ y1.toInt) (h3 : y1.toInt ≤ 3) (g0 : 0 ≤ y2.toInt) (g3 : y2.toInt ≤ 59) (hy : 60 * y1.toInt + y2.toInt < 60 * (t : Int) + (k : Int)) (ht : t < 4) (hk : k < 60) (hf : k_fn w nm 61 (60 * t + k) v) : ∃ v', k_fn w' nm 61 (60 * t + k) v' ∧ v' = v := by
  have hpd := k_preD (ct := j_c213_1) (r := k_rv [(a2 : Int), y1.toInt, y2.toInt, y3.toInt, (k : Int), (t : Int), q1, q2, q3, (nm : Int), v]) (vals := [.ref a2, .int y1, .int y2, .long y3]) (w := j_w w a1 rw r (j_g0 k t q1 q2 q3)) (by decide +kernel) ⟨(by show (0 : Int) ≤ (-1) + ((-60) * y1.toInt + ((-1) * y2.toInt + ((1) * (k : Int) + ((60) * (t : Int) + (0))))); omega), (by show (0 : Int) ≤ (0) + ((1) * (t : Int) + (0)); omega), (by show (0 : Int) ≤ (3) + ((-1) * (t : Int) + (0)); omega), (by show (0 : Int) ≤ (2147483648) + ((1) * y3.toInt + ((-4294967296) * q1 + (0))); omega), (by show (0 : Int) ≤ (2147483647) + ((-1) * y3.toInt + ((4294967296) * q1 + (0))); omega), (by show (0 : Int) ≤ (128) + ((1) * y3.toInt + ((-4294967296) * q1 + ((-256) * q2 + (0)))); omega), (by show (0 : Int) ≤ (127) + ((-1) * y3.toInt + ((4294967296) * q1 + ((256) * q2 + (0)))); omega), (by show (0 : Int) ≤ (32768) + ((1) * y3.toInt + ((-4294967296) * q1 + ((-65536) * q3 + (0)))); omega), (by show (0 : Int) ≤ (32767) + ((-1) * y3.toInt + ((4294967296) * q1 + ((65536) * q3 + (0)))); omega), (by show (0 : Int) ≤ (4) + (0); omega), trivial⟩ ⟨k_aR (j_in_keep hS _ (by decide) (by decide) (by decide) (by decide) I.2.2.2.2.2.1), ⟨_, rfl, rfl, (by show (0 : Int) ≤ y1.toInt; omega), (by show y1.toInt ≤ (3 : Int); omega)⟩, ⟨_, rfl, rfl, (by show (0 : Int) ≤ y2.toInt; omega), (by show y2.toInt ≤ (59 : Int); omega)⟩, k_aJ _, trivial⟩ ⟨⟨40, rfl, c_gv_id40 (by show (0 : Int) ≤ (k : Int); omega) (by show (k : Int) ≤ 59; omega)⟩, ⟨41, rfl, c_gv_id (by decide) (by show (-1099511627776 : Int) ≤ (t : Int); omega) (by show (t : Int) ≤ 1099511627776; omega)⟩, ⟨300, rfl, c_gv_id (by decide) (by show (-1099511627776 : Int) ≤ q1; omega) (by show q1 ≤ 1099511627776; omega)⟩, ⟨301, rfl, c_gv_id (by decide) (by show (-1099511627776 : Int) ≤ q2; omega) (by show q2 ≤ 1099511627776; omega)⟩, ⟨302, rfl, c_gv_id (by decide) (by show (-1099511627776 : Int) ≤ q3; omega) (by show q3 ≤ 1099511627776; omega)⟩, k_fnC (b := 0) (j_fn hS (j_g0 k t q1 q2 q3) hS.2.2.2.2.1 (j_in_keep hS _ (by decide) (by decide) (by decide) (by decide) I.2.2.2.2.2.1)) rfl rfl, k_fnC (b := 9) (j_fn hS (j_g0 k t q1 q2 q3) hf (j_in_keep hS _ (by decide) (by decide) (by decide) (by decide) hS.2.2.2.2.2)) rfl (by show (0 : Int) + (1 * (k : Int) + (60 * (t : Int) + 0)) = _; omega), trivial⟩
  obtain ⟨rv2, res2, w2, hh, hr2, hp2, hP2, hD2, hT2⟩ := hj (j_c213_1, k_rv [(a2 : Int), y1.toInt, y2.toInt, y3.toInt, (k : Int), (t : Int), q1, q2, q3, (nm : Int), v], j_tg w a1 rw r, j_g0 k t q1 q2 q3) j_pm213_1 rfl rfl hpd.1 hpd.2 (j_TW (D := D) I.2.2.1 I.2.1 hS I.2.2.2.2.1 _)
  obtain ⟨x9, rfl, rfl, -, -⟩ := hr2
  have hx9 : x9 = r9 := by injection (Option.some.inj hh)
  subst hx9
  obtain ⟨he2, -, d, hd, rr, p1, p2, p3, p4, -⟩ := hp2
  have e1 : rr 1 = (a2 : Int) := p1 1 (by show 1 < c_entryN j_c213_1; decide)
  have e2 : rr 2 = y1.toInt := p1 2 (by show 2 < c_entryN j_c213_1; decide)
  have e3 : rr 3 = y2.toInt := p1 3 (by show 3 < c_entryN j_c213_1; decide)
  have e4 : rr 4 = y3.toInt := p1 4 (by show 4 < c_entryN j_c213_1; decide)
  have e5 : rr 5 = (k : Int) := p1 5 (by show 5 < c_entryN j_c213_1; decide)
  have e6 : rr 6 = (t : Int) := p1 6 (by show 6 < c_entryN j_c213_1; decide)
  have e7 : rr 7 = q1 := p1 7 (by show 7 < c_entryN j_c213_1; decide)
  have e8 : rr 8 = q2 := p1 8 (by show 8 < c_entryN j_c213_1; decide)
  have e9 : rr 9 = q3 := p1 9 (by show 9 < c_entryN j_c213_1; decide)
  have e10 : rr 10 = (nm : Int) := p1 10 (by show 10 < c_entryN j_c213_1; decide)
  have e11 : rr 11 = v := p1 11 (by show 11 < c_entryN j_c213_1; decide)
  have er : rr 12 = x9.toInt := p2 0 _ rfl
  have hin2 := k_inK he2 (by show ((ct_pros j_c213_1).all fun t => Nat.ble 101 t) = true; decide +kernel) (by decide) (j_in_keep hS (j_g0 k t q1 q2 q3) (by decide) (by decide) (by decide) (by decide) hS.2.2.2.2.2)
  have hd : d ∈ ct_post j_c213_1 := hd
  simp only [ct_post, j_c213_1, List.mem_cons, List.not_mem_nil, or_false] at hd
  subst hd
  have hc : k_fn w2 nm 61 (60 * t + k) (rr 13) := k_fnD (b := 9) (p3 0 _ rfl) e10 (by show (0 : Int) + (1 * rr 5 + (60 * rr 6 + 0)) = _; rw [e5, e6]; omega) hin2
  simp only [List.forall_mem_cons, c_ev, c_evs, List.not_mem_nil, false_implies, implies_true, and_true, e11, er] at p4
  exact ⟨rr 13, j_back I1.1 hP2 I1.2.2.1 hT2 hS1.2.2.2.2.2 (by decide +kernel) (by decide +kernel) hc, by omega⟩
theorem k_writeM7g {k t : Nat} {v : Int} {q1 q2 q3 : Int} {y1 y2 r9 : Int32} {y3 : Int64} (I : k_In s D dA a1 a2 w H locs) (hS : k_S7 a1 a2 w rw nm r) (I1 : k_In s D dA a1 a2 w' H' locs') (hS1 : k_S7 a1 a2 w' rw nm r) (hj : j_Ex0 s D dA 213 w [.ref a2, .int y1, .int y2, .long y3] H' [.int r9]) (b1 : -1099511627776 ≤ q1 ∧ q1 ≤ 1099511627776) (b2 : -1099511627776 ≤ q2 ∧ q2 ≤ 1099511627776) (b3 : -1099511627776 ≤ q3 ∧ q3 ≤ 1099511627776) (c1 : -2147483648 ≤ y3.toInt - 4294967296 * q1 ∧ y3.toInt - 4294967296 * q1 ≤ 2147483647) (c2 : -128 ≤ y3.toInt - 4294967296 * q1 - 256 * q2 ∧ y3.toInt - 4294967296 * q1 - 256 * q2 ≤ 127) (c3 : -32768 ≤ y3.toInt - 4294967296 * q1 - 65536 * q3 ∧ y3.toInt - 4294967296 * q1 - 65536 * q3 ≤ 32767) (h0 : 0 ≤ y1.toInt) (h3 : y1.toInt ≤ 3) (g0 : 0 ≤ y2.toInt) (g3 : y2.toInt ≤ 59) (hy : 60 * (t : Int) + (k : Int) < 60 * y1.toInt + y2.toInt) (ht : t < 4) (hk : k < 60) (hf : k_fn w nm 61 (60 * t + k) v) : ∃ v', k_fn w' nm 61 (60 * t + k) v' ∧ v' = v := by
  have hpd := k_preD (ct := j_c213_2) (r := k_rv [(a2 : Int), y1.toInt, y2.toInt, y3.toInt, (k : Int), (t : Int), q1, q2, q3, (nm : Int), v]) (vals := [.ref a2, .int y1, .int y2, .long y3]) (w := j_w w a1 rw r (j_g0 k t q1 q2 q3)) (by decide +kernel) ⟨(by show (0 : Int) ≤ (-1) + ((60) * y1.toInt + ((1) * y2.toInt + ((-1) * (k : Int) + ((-60) * (t : Int) + (0))))); omega), (by show (0 : Int) ≤ (0) + ((1) * (t : Int) + (0)); omega), (by show (0 : Int) ≤ (3) + ((-1) * (t : Int) + (0)); omega), (by show (0 : Int) ≤ (2147483648) + ((1) * y3.toInt + ((-4294967296) * q1 + (0))); omega), (by show (0 : Int) ≤ (2147483647) + ((-1) * y3.toInt + ((4294967296) * q1 + (0))); omega), (by show (0 : Int) ≤ (128) + ((1) * y3.toInt + ((-4294967296) * q1 + ((-256) * q2 + (0)))); omega), (by show (0 : Int) ≤ (127) + ((-1) * y3.toInt + ((4294967296) * q1 + ((256) * q2 + (0)))); omega), (by show (0 : Int) ≤ (32768) + ((1) * y3.toInt + ((-4294967296) * q1 + ((-65536) * q3 + (0)))); omega), (by show (0 : Int) ≤ (32767) + ((-1) * y3.toInt + ((4294967296) * q1 + ((65536) * q3 + (0)))); omega), (by show (0 : Int) ≤ (4) + (0); omega), trivial⟩ ⟨k_aR (j_in_keep hS _ (by decide) (by decide) (by decide) (by decide) I.2.2.2.2.2.1), ⟨_, rfl, rfl, (by show (0 : Int) ≤ y1.toInt; omega), (by show y1.toInt ≤ (3 : Int); omega)⟩, ⟨_, rfl, rfl, (by show (0 : Int) ≤ y2.toInt; omega), (by show y2.toInt ≤ (59 : Int); omega)⟩, k_aJ _, trivial⟩ ⟨⟨40, rfl, c_gv_id40 (by show (0 : Int) ≤ (k : Int); omega) (by show (k : Int) ≤ 59; omega)⟩, ⟨41, rfl, c_gv_id (by decide) (by show (-1099511627776 : Int) ≤ (t : Int); omega) (by show (t : Int) ≤ 1099511627776; omega)⟩, ⟨300, rfl, c_gv_id (by decide) (by show (-1099511627776 : Int) ≤ q1; omega) (by show q1 ≤ 1099511627776; omega)⟩, ⟨301, rfl, c_gv_id (by decide) (by show (-1099511627776 : Int) ≤ q2; omega) (by show q2 ≤ 1099511627776; omega)⟩, ⟨302, rfl, c_gv_id (by decide) (by show (-1099511627776 : Int) ≤ q3; omega) (by show q3 ≤ 1099511627776; omega)⟩, k_fnC (b := 0) (j_fn hS (j_g0 k t q1 q2 q3) hS.2.2.2.2.1 (j_in_keep hS _ (by decide) (by decide) (by decide) (by decide) I.2.2.2.2.2.1)) rfl rfl, k_fnC (b := 9) (j_fn hS (j_g0 k t q1 q2 q3) hf (j_in_keep hS _ (by decide) (by decide) (by decide) (by decide) hS.2.2.2.2.2)) rfl (by show (0 : Int) + (1 * (k : Int) + (60 * (t : Int) + 0)) = _; omega), trivial⟩
  obtain ⟨rv2, res2, w2, hh, hr2, hp2, hP2, hD2, hT2⟩ := hj (j_c213_2, k_rv [(a2 : Int), y1.toInt, y2.toInt, y3.toInt, (k : Int), (t : Int), q1, q2, q3, (nm : Int), v], j_tg w a1 rw r, j_g0 k t q1 q2 q3) j_pm213_2 rfl rfl hpd.1 hpd.2 (j_TW (D := D) I.2.2.1 I.2.1 hS I.2.2.2.2.1 _)
  obtain ⟨x9, rfl, rfl, -, -⟩ := hr2
  have hx9 : x9 = r9 := by injection (Option.some.inj hh)
  subst hx9
  obtain ⟨he2, -, d, hd, rr, p1, p2, p3, p4, -⟩ := hp2
  have e1 : rr 1 = (a2 : Int) := p1 1 (by show 1 < c_entryN j_c213_2; decide)
  have e2 : rr 2 = y1.toInt := p1 2 (by show 2 < c_entryN j_c213_2; decide)
  have e3 : rr 3 = y2.toInt := p1 3 (by show 3 < c_entryN j_c213_2; decide)
  have e4 : rr 4 = y3.toInt := p1 4 (by show 4 < c_entryN j_c213_2; decide)
  have e5 : rr 5 = (k : Int) := p1 5 (by show 5 < c_entryN j_c213_2; decide)
  have e6 : rr 6 = (t : Int) := p1 6 (by show 6 < c_entryN j_c213_2; decide)
  have e7 : rr 7 = q1 := p1 7 (by show 7 < c_entryN j_c213_2; decide)
  have e8 : rr 8 = q2 := p1 8 (by show 8 < c_entryN j_c213_2; decide)
  have e9 : rr 9 = q3 := p1 9 (by show 9 < c_entryN j_c213_2; decide)
  have e10 : rr 10 = (nm : Int) := p1 10 (by show 10 < c_entryN j_c213_2; decide)
  have e11 : rr 11 = v := p1 11 (by show 11 < c_entryN j_c213_2; decide)
  have er : rr 12 = x9.toInt := p2 0 _ rfl
  have hin2 := k_inK he2 (by show ((ct_pros j_c213_2).all fun t => Nat.ble 101 t) = true; decide +kernel) (by decide) (j_in_keep hS (j_g0 k t q1 q2 q3) (by decide) (by decide) (by decide) (by decide) hS.2.2.2.2.2)
  have hd : d ∈ ct_post j_c213_2 := hd
  simp only [ct_post, j_c213_2, List.mem_cons, List.not_mem_nil, or_false] at hd
  subst hd
  have hc : k_fn w2 nm 61 (60 * t + k) (rr 13) := k_fnD (b := 9) (p3 0 _ rfl) e10 (by show (0 : Int) + (1 * rr 5 + (60 * rr 6 + 0)) = _; rw [e5, e6]; omega) hin2
  simp only [List.forall_mem_cons, c_ev, c_evs, List.not_mem_nil, false_implies, implies_true, and_true, e11, er] at p4
  exact ⟨rr 13, j_back I1.1 hP2 I1.2.2.1 hT2 hS1.2.2.2.2.2 (by decide +kernel) (by decide +kernel) hc, by omega⟩
theorem k_pourC7i00 {k k9 : Nat} {u v : Int} {y1 y2 y3 y4 y5 r9 : Int32} (I : k_In s D dA a1 a2 w H locs) (hS : k_S7 a1 a2 w rw nm r) (I1 : k_In s D dA a1 a2 w' H' locs') (hS1 : k_S7 a1 a2 w' rw nm r) (hj : j_Ex0 s D dA 128 w [.ref a1, .int y1, .int y2, .int y3, .int y4, .int y5] H' [.int r9]) (hy1 : y1.toInt = 0) (hy3 : y3.toInt = 0) (h4 : y4.toInt ≤ (k : Int)) (h5 : (k : Int) < y4.toInt + y5.toInt) (h9 : (k9 : Int) = y2.toInt - y4.toInt + (k : Int)) (hk9 : k9 < 60) (hk : k < 60) (hs9 : k_fn w (r 0) 17 k9 u) (hf : k_fn w (r 0) 17 k v) : ∃ v', k_fn w' (r 0) 17 k v' ∧ ((r9.toInt = 1 ∧ v' = u) ∨ (r9.toInt = 0 ∧ v' = v)) := by
  have hpd := k_preD (ct := j_c128_0) (r := k_rv [(a1 : Int), (0 : Int), y2.toInt, (0 : Int), y4.toInt, y5.toInt, (k : Int), (rw : Int), (r 0 : Int), (r 0 : Int), u, v]) (vals := [.ref a1, .int y1, .int y2, .int y3, .int y4, .int y5]) (w := j_w w a1 rw r (j_g0 k 0 0 0 0)) (by decide +kernel) ⟨(by show (0 : Int) ≤ (0) + ((-1) * y4.toInt + ((1) * (k : Int) + (0))); omega), (by show (0 : Int) ≤ (-1) + ((1) * y4.toInt + ((1) * y5.toInt + ((-1) * (k : Int) + (0)))); omega), (by show (0 : Int) ≤ (0) + ((1) * y2.toInt + ((-1) * y4.toInt + ((1) * (k : Int) + (0)))); omega), (by show (0 : Int) ≤ (59) + ((-1) * y2.toInt + ((1) * y4.toInt + ((-1) * (k : Int) + (0)))); omega), (by show (0 : Int) ≤ (3) + (0); omega), trivial⟩ ⟨k_aR (j_in_a1 hS _ I.2.2.2.2.1), ⟨_, rfl, hy1, Int.le_refl _, Int.le_refl _⟩, k_aI _, ⟨_, rfl, hy3, Int.le_refl _, Int.le_refl _⟩, k_aI _, k_aI _, trivial⟩ ⟨⟨40, rfl, c_gv_id40 (by show (0 : Int) ≤ (k : Int); omega) (by show (k : Int) ≤ 59; omega)⟩, k_fnC (b := 0) (j_fn hS (j_g0 k 0 0 0 0) hS.1 (j_in_a1 hS _ I.2.2.2.2.1)) rfl rfl, k_fnC (b := 7) (j_fn hS (j_g0 k 0 0 0 0) (hS.2.2.1 0 (by omega)).1 (j_in_rw hS _)) rfl (by show (0 : Int) + (1 * (0 : Int) + 0) = _; rfl), k_fnC (b := 7) (j_fn hS (j_g0 k 0 0 0 0) (hS.2.2.1 0 (by omega)).1 (j_in_rw hS _)) rfl (by show (0 : Int) + (1 * (0 : Int) + 0) = _; rfl), k_fnC (b := 8) (j_fn hS (j_g0 k 0 0 0 0) hs9 (j_in_row hS _ (t := 0) (by omega))) rfl (by show (0 : Int) + (1 * y2.toInt + ((-1) * y4.toInt + (1 * (k : Int) + 0))) = _; omega), k_fnC (b := 9) (j_fn hS (j_g0 k 0 0 0 0) hf (j_in_row hS _ (t := 0) (by omega))) rfl (by show (0 : Int) + (1 * (k : Int) + 0) = _; omega), trivial⟩
  obtain ⟨rv2, res2, w2, hh, hr2, hp2, hP2, hD2, hT2⟩ := hj (j_c128_0, k_rv [(a1 : Int), (0 : Int), y2.toInt, (0 : Int), y4.toInt, y5.toInt, (k : Int), (rw : Int), (r 0 : Int), (r 0 : Int), u, v], j_tg w a1 rw r, j_g0 k 0 0 0 0) j_pm128_0 rfl rfl hpd.1 hpd.2 (j_TW (D := D) I.2.2.1 I.2.1 hS I.2.2.2.2.1 _)
  obtain ⟨x9, rfl, rfl, -, -⟩ := hr2
  have hx9 : x9 = r9 := by injection (Option.some.inj hh)
  subst hx9
  obtain ⟨he2, -, d, hd, rr, p1, p2, p3, p4, -⟩ := hp2
  have e1 : rr 1 = (a1 : Int) := p1 1 (by show 1 < c_entryN j_c128_0; decide)
  have e2 : rr 2 = (0 : Int) := p1 2 (by show 2 < c_entryN j_c128_0; decide)
  have e3 : rr 3 = y2.toInt := p1 3 (by show 3 < c_entryN j_c128_0; decide)
  have e4 : rr 4 = (0 : Int) := p1 4 (by show 4 < c_entryN j_c128_0; decide)
  have e5 : rr 5 = y4.toInt := p1 5 (by show 5 < c_entryN j_c128_0; decide)
  have e6 : rr 6 = y5.toInt := p1 6 (by show 6 < c_entryN j_c128_0; decide)
  have e7 : rr 7 = (k : Int) := p1 7 (by show 7 < c_entryN j_c128_0; decide)
  have e8 : rr 8 = (rw : Int) := p1 8 (by show 8 < c_entryN j_c128_0; decide)
  have e9 : rr 9 = (r 0 : Int) := p1 9 (by show 9 < c_entryN j_c128_0; decide)
  have e10 : rr 10 = (r 0 : Int) := p1 10 (by show 10 < c_entryN j_c128_0; decide)
  have e11 : rr 11 = u := p1 11 (by show 11 < c_entryN j_c128_0; decide)
  have e12 : rr 12 = v := p1 12 (by show 12 < c_entryN j_c128_0; decide)
  have er : rr 13 = x9.toInt := p2 0 _ rfl
  have hin2 := k_inK he2 (by show ((ct_pros j_c128_0).all fun t => Nat.ble 101 t) = true; decide +kernel) (by decide) (j_in_row hS (j_g0 k 0 0 0 0) (t := 0) (by omega))
  have hd : d ∈ ct_post j_c128_0 := hd
  simp only [ct_post, j_c128_0, List.mem_cons, List.not_mem_nil, or_false] at hd
  rcases hd with rfl | rfl
  all_goals
    have hc : k_fn w2 (r 0) 90 k (rr 14) := k_fnD (b := 9) (p3 0 _ rfl) e10 (by show (0 : Int) + (1 * rr 7 + 0) = _; rw [e7]; omega) hin2
    simp only [List.forall_mem_cons, c_ev, c_evs, List.not_mem_nil, false_implies, implies_true, and_true, e11, e12, er] at p4
    exact ⟨rr 14, j_back I1.1 hP2 I1.2.2.1 hT2 (hS1.2.2.1 0 (by omega)).2 rfl rfl hc, by omega⟩
theorem k_pourC7l00 {k : Nat} {v : Int} {y1 y2 y3 y4 y5 r9 : Int32} (I : k_In s D dA a1 a2 w H locs) (hS : k_S7 a1 a2 w rw nm r) (I1 : k_In s D dA a1 a2 w' H' locs') (hS1 : k_S7 a1 a2 w' rw nm r) (hj : j_Ex0 s D dA 128 w [.ref a1, .int y1, .int y2, .int y3, .int y4, .int y5] H' [.int r9]) (hy1 : y1.toInt = 0) (hy3 : y3.toInt = 0) (h4 : (k : Int) < y4.toInt) (hk : k < 60) (hf : k_fn w (r 0) 17 k v) : ∃ v', k_fn w' (r 0) 17 k v' ∧ v' = v := by
  have hpd := k_preD (ct := j_c128_1) (r := k_rv [(a1 : Int), (0 : Int), y2.toInt, (0 : Int), y4.toInt, y5.toInt, (k : Int), (rw : Int), (r 0 : Int), (r 0 : Int), v]) (vals := [.ref a1, .int y1, .int y2, .int y3, .int y4, .int y5]) (w := j_w w a1 rw r (j_g0 k 0 0 0 0)) (by decide +kernel) ⟨(by show (0 : Int) ≤ (-1) + ((1) * y4.toInt + ((-1) * (k : Int) + (0))); omega), (by show (0 : Int) ≤ (3) + (0); omega), trivial⟩ ⟨k_aR (j_in_a1 hS _ I.2.2.2.2.1), ⟨_, rfl, hy1, Int.le_refl _, Int.le_refl _⟩, k_aI _, ⟨_, rfl, hy3, Int.le_refl _, Int.le_refl _⟩, k_aI _, k_aI _, trivial⟩ ⟨⟨40, rfl, c_gv_id40 (by show (0 : Int) ≤ (k : Int); omega) (by show (k : Int) ≤ 59; omega)⟩, k_fnC (b := 0) (j_fn hS (j_g0 k 0 0 0 0) hS.1 (j_in_a1 hS _ I.2.2.2.2.1)) rfl rfl, k_fnC (b := 7) (j_fn hS (j_g0 k 0 0 0 0) (hS.2.2.1 0 (by omega)).1 (j_in_rw hS _)) rfl (by show (0 : Int) + (1 * (0 : Int) + 0) = _; rfl), k_fnC (b := 7) (j_fn hS (j_g0 k 0 0 0 0) (hS.2.2.1 0 (by omega)).1 (j_in_rw hS _)) rfl (by show (0 : Int) + (1 * (0 : Int) + 0) = _; rfl), k_fnC (b := 9) (j_fn hS (j_g0 k 0 0 0 0) hf (j_in_row hS _ (t := 0) (by omega))) rfl (by show (0 : Int) + (1 * (k : Int) + 0) = _; omega), trivial⟩
  obtain ⟨rv2, res2, w2, hh, hr2, hp2, hP2, hD2, hT2⟩ := hj (j_c128_1, k_rv [(a1 : Int), (0 : Int), y2.toInt, (0 : Int), y4.toInt, y5.toInt, (k : Int), (rw : Int), (r 0 : Int), (r 0 : Int), v], j_tg w a1 rw r, j_g0 k 0 0 0 0) j_pm128_1 rfl rfl hpd.1 hpd.2 (j_TW (D := D) I.2.2.1 I.2.1 hS I.2.2.2.2.1 _)
  obtain ⟨x9, rfl, rfl, -, -⟩ := hr2
  have hx9 : x9 = r9 := by injection (Option.some.inj hh)
  subst hx9
  obtain ⟨he2, -, d, hd, rr, p1, p2, p3, p4, -⟩ := hp2
  have e1 : rr 1 = (a1 : Int) := p1 1 (by show 1 < c_entryN j_c128_1; decide)
  have e2 : rr 2 = (0 : Int) := p1 2 (by show 2 < c_entryN j_c128_1; decide)
  have e3 : rr 3 = y2.toInt := p1 3 (by show 3 < c_entryN j_c128_1; decide)
  have e4 : rr 4 = (0 : Int) := p1 4 (by show 4 < c_entryN j_c128_1; decide)
  have e5 : rr 5 = y4.toInt := p1 5 (by show 5 < c_entryN j_c128_1; decide)
  have e6 : rr 6 = y5.toInt := p1 6 (by show 6 < c_entryN j_c128_1; decide)
  have e7 : rr 7 = (k : Int) := p1 7 (by show 7 < c_entryN j_c128_1; decide)
  have e8 : rr 8 = (rw : Int) := p1 8 (by show 8 < c_entryN j_c128_1; decide)
  have e9 : rr 9 = (r 0 : Int) := p1 9 (by show 9 < c_entryN j_c128_1; decide)
  have e10 : rr 10 = (r 0 : Int) := p1 10 (by show 10 < c_entryN j_c128_1; decide)
  have e11 : rr 11 = v := p1 11 (by show 11 < c_entryN j_c128_1; decide)
  have er : rr 12 = x9.toInt := p2 0 _ rfl
  have hin2 := k_inK he2 (by show ((ct_pros j_c128_1).all fun t => Nat.ble 101 t) = true; decide +kernel) (by decide) (j_in_row hS (j_g0 k 0 0 0 0) (t := 0) (by omega))
  have hd : d ∈ ct_post j_c128_1 := hd
  simp only [ct_post, j_c128_1, List.mem_cons, List.not_mem_nil, or_false] at hd
  subst hd
  have hc : k_fn w2 (r 0) 90 k (rr 13) := k_fnD (b := 9) (p3 0 _ rfl) e10 (by show (0 : Int) + (1 * rr 7 + 0) = _; rw [e7]; omega) hin2
  simp only [List.forall_mem_cons, c_ev, c_evs, List.not_mem_nil, false_implies, implies_true, and_true, e11, er] at p4
  exact ⟨rr 13, j_back I1.1 hP2 I1.2.2.1 hT2 (hS1.2.2.1 0 (by omega)).2 rfl rfl hc, by omega⟩
theorem k_pourC7g00 {k : Nat} {v : Int} {y1 y2 y3 y4 y5 r9 : Int32} (I : k_In s D dA a1 a2 w H locs) (hS : k_S7 a1 a2 w rw nm r) (I1 : k_In s D dA a1 a2 w' H' locs') (hS1 : k_S7 a1 a2 w' rw nm r) (hj : j_Ex0 s D dA 128 w [.ref a1, .int y1, .int y2, .int y3, .int y4, .int y5] H' [.int r9]) (hy1 : y1.toInt = 0) (hy3 : y3.toInt = 0) (h4 : y4.toInt + y5.toInt ≤ (k : Int)) (hk : k < 60) (hf : k_fn w (r 0) 17 k v) : ∃ v', k_fn w' (r 0) 17 k v' ∧ v' = v := by
  have hpd := k_preD (ct := j_c128_2) (r := k_rv [(a1 : Int), (0 : Int), y2.toInt, (0 : Int), y4.toInt, y5.toInt, (k : Int), (rw : Int), (r 0 : Int), (r 0 : Int), v]) (vals := [.ref a1, .int y1, .int y2, .int y3, .int y4, .int y5]) (w := j_w w a1 rw r (j_g0 k 0 0 0 0)) (by decide +kernel) ⟨(by show (0 : Int) ≤ (0) + ((-1) * y4.toInt + ((-1) * y5.toInt + ((1) * (k : Int) + (0)))); omega), (by show (0 : Int) ≤ (3) + (0); omega), trivial⟩ ⟨k_aR (j_in_a1 hS _ I.2.2.2.2.1), ⟨_, rfl, hy1, Int.le_refl _, Int.le_refl _⟩, k_aI _, ⟨_, rfl, hy3, Int.le_refl _, Int.le_refl _⟩, k_aI _, k_aI _, trivial⟩ ⟨⟨40, rfl, c_gv_id40 (by show (0 : Int) ≤ (k : Int); omega) (by show (k : Int) ≤ 59; omega)⟩, k_fnC (b := 0) (j_fn hS (j_g0 k 0 0 0 0) hS.1 (j_in_a1 hS _ I.2.2.2.2.1)) rfl rfl, k_fnC (b := 7) (j_fn hS (j_g0 k 0 0 0 0) (hS.2.2.1 0 (by omega)).1 (j_in_rw hS _)) rfl (by show (0 : Int) + (1 * (0 : Int) + 0) = _; rfl), k_fnC (b := 7) (j_fn hS (j_g0 k 0 0 0 0) (hS.2.2.1 0 (by omega)).1 (j_in_rw hS _)) rfl (by show (0 : Int) + (1 * (0 : Int) + 0) = _; rfl), k_fnC (b := 9) (j_fn hS (j_g0 k 0 0 0 0) hf (j_in_row hS _ (t := 0) (by omega))) rfl (by show (0 : Int) + (1 * (k : Int) + 0) = _; omega), trivial⟩
  obtain ⟨rv2, res2, w2, hh, hr2, hp2, hP2, hD2, hT2⟩ := hj (j_c128_2, k_rv [(a1 : Int), (0 : Int), y2.toInt, (0 : Int), y4.toInt, y5.toInt, (k : Int), (rw : Int), (r 0 : Int), (r 0 : Int), v], j_tg w a1 rw r, j_g0 k 0 0 0 0) j_pm128_2 rfl rfl hpd.1 hpd.2 (j_TW (D := D) I.2.2.1 I.2.1 hS I.2.2.2.2.1 _)
  obtain ⟨x9, rfl, rfl, -, -⟩ := hr2
  have hx9 : x9 = r9 := by injection (Option.some.inj hh)
  subst hx9
  obtain ⟨he2, -, d, hd, rr, p1, p2, p3, p4, -⟩ := hp2
  have e1 : rr 1 = (a1 : Int) := p1 1 (by show 1 < c_entryN j_c128_2; decide)
  have e2 : rr 2 = (0 : Int) := p1 2 (by show 2 < c_entryN j_c128_2; decide)
  have e3 : rr 3 = y2.toInt := p1 3 (by show 3 < c_entryN j_c128_2; decide)
  have e4 : rr 4 = (0 : Int) := p1 4 (by show 4 < c_entryN j_c128_2; decide)
  have e5 : rr 5 = y4.toInt := p1 5 (by show 5 < c_entryN j_c128_2; decide)
  have e6 : rr 6 = y5.toInt := p1 6 (by show 6 < c_entryN j_c128_2; decide)
  have e7 : rr 7 = (k : Int) := p1 7 (by show 7 < c_entryN j_c128_2; decide)
  have e8 : rr 8 = (rw : Int) := p1 8 (by show 8 < c_entryN j_c128_2; decide)
  have e9 : rr 9 = (r 0 : Int) := p1 9 (by show 9 < c_entryN j_c128_2; decide)
  have e10 : rr 10 = (r 0 : Int) := p1 10 (by show 10 < c_entryN j_c128_2; decide)
  have e11 : rr 11 = v := p1 11 (by show 11 < c_entryN j_c128_2; decide)
  have er : rr 12 = x9.toInt := p2 0 _ rfl
  have hin2 := k_inK he2 (by show ((ct_pros j_c128_2).all fun t => Nat.ble 101 t) = true; decide +kernel) (by decide) (j_in_row hS (j_g0 k 0 0 0 0) (t := 0) (by omega))
  have hd : d ∈ ct_post j_c128_2 := hd
  simp only [ct_post, j_c128_2, List.mem_cons, List.not_mem_nil, or_false] at hd
  subst hd
  have hc : k_fn w2 (r 0) 90 k (rr 13) := k_fnD (b := 9) (p3 0 _ rfl) e10 (by show (0 : Int) + (1 * rr 7 + 0) = _; rw [e7]; omega) hin2
  simp only [List.forall_mem_cons, c_ev, c_evs, List.not_mem_nil, false_implies, implies_true, and_true, e11, er] at p4
  exact ⟨rr 13, j_back I1.1 hP2 I1.2.2.1 hT2 (hS1.2.2.1 0 (by omega)).2 rfl rfl hc, by omega⟩
theorem k_pourC7r00 {k : Nat} {v : Int} {y1 y2 y3 y4 y5 r9 : Int32} (I : k_In s D dA a1 a2 w H locs) (hS : k_S7 a1 a2 w rw nm r) (I1 : k_In s D dA a1 a2 w' H' locs') (hS1 : k_S7 a1 a2 w' rw nm r) (hj : j_Ex0 s D dA 128 w [.ref a1, .int y1, .int y2, .int y3, .int y4, .int y5] H' [.int r9]) (hy1 : y1.toInt = 0) (hy3 : y3.toInt = 0) (h0 : r9.toInt = 0) (hk : k < 60) (hf : k_fn w (r 0) 17 k v) : k_fn w' (r 0) 17 k v := by
  have hpd := k_preD (ct := j_c128_3) (r := k_rv [(a1 : Int), (0 : Int), y2.toInt, (0 : Int), y4.toInt, y5.toInt, (k : Int), (rw : Int), (r 0 : Int), (r 0 : Int), v]) (vals := [.ref a1, .int y1, .int y2, .int y3, .int y4, .int y5]) (w := j_w w a1 rw r (j_g0 k 0 0 0 0)) (by decide +kernel) ⟨(by show (0 : Int) ≤ (3) + (0); omega), trivial⟩ ⟨k_aR (j_in_a1 hS _ I.2.2.2.2.1), ⟨_, rfl, hy1, Int.le_refl _, Int.le_refl _⟩, k_aI _, ⟨_, rfl, hy3, Int.le_refl _, Int.le_refl _⟩, k_aI _, k_aI _, trivial⟩ ⟨⟨40, rfl, c_gv_id40 (by show (0 : Int) ≤ (k : Int); omega) (by show (k : Int) ≤ 59; omega)⟩, k_fnC (b := 0) (j_fn hS (j_g0 k 0 0 0 0) hS.1 (j_in_a1 hS _ I.2.2.2.2.1)) rfl rfl, k_fnC (b := 7) (j_fn hS (j_g0 k 0 0 0 0) (hS.2.2.1 0 (by omega)).1 (j_in_rw hS _)) rfl (by show (0 : Int) + (1 * (0 : Int) + 0) = _; rfl), k_fnC (b := 7) (j_fn hS (j_g0 k 0 0 0 0) (hS.2.2.1 0 (by omega)).1 (j_in_rw hS _)) rfl (by show (0 : Int) + (1 * (0 : Int) + 0) = _; rfl), k_fnC (b := 9) (j_fn hS (j_g0 k 0 0 0 0) hf (j_in_row hS _ (t := 0) (by omega))) rfl (by show (0 : Int) + (1 * (k : Int) + 0) = _; omega), trivial⟩
  obtain ⟨rv2, res2, w2, hh, hr2, hp2, hP2, hD2, hT2⟩ := hj (j_c128_3, k_rv [(a1 : Int), (0 : Int), y2.toInt, (0 : Int), y4.toInt, y5.toInt, (k : Int), (rw : Int), (r 0 : Int), (r 0 : Int), v], j_tg w a1 rw r, j_g0 k 0 0 0 0) j_pm128_3 rfl rfl hpd.1 hpd.2 (j_TW (D := D) I.2.2.1 I.2.1 hS I.2.2.2.2.1 _)
  obtain ⟨x9, rfl, rfl, -, -⟩ := hr2
  have hx9 : x9 = r9 := by injection (Option.some.inj hh)
  subst hx9
  obtain ⟨he2, -, d, hd, rr, p1, p2, p3, p4, -⟩ := hp2
  have e1 : rr 1 = (a1 : Int) := p1 1 (by show 1 < c_entryN j_c128_3; decide)
  have e2 : rr 2 = (0 : Int) := p1 2 (by show 2 < c_entryN j_c128_3; decide)
  have e3 : rr 3 = y2.toInt := p1 3 (by show 3 < c_entryN j_c128_3; decide)
  have e4 : rr 4 = (0 : Int) := p1 4 (by show 4 < c_entryN j_c128_3; decide)
  have e5 : rr 5 = y4.toInt := p1 5 (by show 5 < c_entryN j_c128_3; decide)
  have e6 : rr 6 = y5.toInt := p1 6 (by show 6 < c_entryN j_c128_3; decide)
  have e7 : rr 7 = (k : Int) := p1 7 (by show 7 < c_entryN j_c128_3; decide)
  have e8 : rr 8 = (rw : Int) := p1 8 (by show 8 < c_entryN j_c128_3; decide)
  have e9 : rr 9 = (r 0 : Int) := p1 9 (by show 9 < c_entryN j_c128_3; decide)
  have e10 : rr 10 = (r 0 : Int) := p1 10 (by show 10 < c_entryN j_c128_3; decide)
  have e11 : rr 11 = v := p1 11 (by show 11 < c_entryN j_c128_3; decide)
  have er : rr 12 = x9.toInt := p2 0 _ rfl
  have hin2 := k_inK he2 (by show ((ct_pros j_c128_3).all fun t => Nat.ble 101 t) = true; decide +kernel) (by decide) (j_in_row hS (j_g0 k 0 0 0 0) (t := 0) (by omega))
  have hd : d ∈ ct_post j_c128_3 := hd
  simp only [ct_post, j_c128_3, List.mem_cons, List.not_mem_nil, or_false] at hd
  rcases hd with rfl | rfl
  · have hc : k_fn w2 (r 0) 90 k (rr 13) := k_fnD (b := 9) (p3 0 _ rfl) e10 (by show (0 : Int) + (1 * rr 7 + 0) = _; rw [e7]; omega) hin2
    simp only [List.forall_mem_cons, c_ev, c_evs, List.not_mem_nil, false_implies, implies_true, and_true, e11, er] at p4
    have hv : rr 13 = v := by omega
    rw [hv] at hc
    exact j_back I1.1 hP2 I1.2.2.1 hT2 (hS1.2.2.1 0 (by omega)).2 rfl rfl hc
  · simp only [List.forall_mem_cons, c_ev, c_evs, List.not_mem_nil, false_implies, implies_true, and_true, er] at p4
    omega
theorem k_pourC7o00 {k t : Nat} {v v0 : Int} {y1 y2 y3 y4 y5 r9 : Int32} (I : k_In s D dA a1 a2 w H locs) (hS : k_S7 a1 a2 w rw nm r) (I1 : k_In s D dA a1 a2 w' H' locs') (hS1 : k_S7 a1 a2 w' rw nm r) (hj : j_Ex0 s D dA 128 w [.ref a1, .int y1, .int y2, .int y3, .int y4, .int y5] H' [.int r9]) (hy1 : y1.toInt = 0) (hy3 : y3.toInt = 0) (ht : t < 4) (hne : t ≠ 0) (hk : k < 60) (hf0 : k_fn w (r 0) 17 k v0) (hf : k_fn w (r t) 17 k v) : k_fn w' (r t) 17 k v := by
  have hpd := k_preD (ct := j_c128_3) (r := k_rv [(a1 : Int), (0 : Int), y2.toInt, (0 : Int), y4.toInt, y5.toInt, (k : Int), (rw : Int), (r 0 : Int), (r 0 : Int), v0]) (vals := [.ref a1, .int y1, .int y2, .int y3, .int y4, .int y5]) (w := j_w w a1 rw r (j_g0 k 0 0 0 0)) (by decide +kernel) ⟨(by show (0 : Int) ≤ (3) + (0); omega), trivial⟩ ⟨k_aR (j_in_a1 hS _ I.2.2.2.2.1), ⟨_, rfl, hy1, Int.le_refl _, Int.le_refl _⟩, k_aI _, ⟨_, rfl, hy3, Int.le_refl _, Int.le_refl _⟩, k_aI _, k_aI _, trivial⟩ ⟨⟨40, rfl, c_gv_id40 (by show (0 : Int) ≤ (k : Int); omega) (by show (k : Int) ≤ 59; omega)⟩, k_fnC (b := 0) (j_fn hS (j_g0 k 0 0 0 0) hS.1 (j_in_a1 hS _ I.2.2.2.2.1)) rfl rfl, k_fnC (b := 7) (j_fn hS (j_g0 k 0 0 0 0) (hS.2.2.1 0 (by omega)).1 (j_in_rw hS _)) rfl (by show (0 : Int) + (1 * (0 : Int) + 0) = _; rfl), k_fnC (b := 7) (j_fn hS (j_g0 k 0 0 0 0) (hS.2.2.1 0 (by omega)).1 (j_in_rw hS _)) rfl (by show (0 : Int) + (1 * (0 : Int) + 0) = _; rfl), k_fnC (b := 9) (j_fn hS (j_g0 k 0 0 0 0) hf0 (j_in_row hS _ (t := 0) (by omega))) rfl (by show (0 : Int) + (1 * (k : Int) + 0) = _; omega), trivial⟩
  obtain ⟨rv2, res2, w2, hh, hr2, hp2, hP2, hD2, hT2⟩ := hj (j_c128_3, k_rv [(a1 : Int), (0 : Int), y2.toInt, (0 : Int), y4.toInt, y5.toInt, (k : Int), (rw : Int), (r 0 : Int), (r 0 : Int), v0], j_tg w a1 rw r, j_g0 k 0 0 0 0) j_pm128_3 rfl rfl hpd.1 hpd.2 (j_TW (D := D) I.2.2.1 I.2.1 hS I.2.2.2.2.1 _)
  obtain ⟨he2, -⟩ := hp2
  exact j_rowK hS I1 hS1 he2 (by show ((ct_pros j_c128_3).all fun t => Nat.ble 101 t) = true; decide +kernel) hP2 hT2 ht (k_none_ok (by show k_none (ct_eff j_c128_3) (90 + t) = true; rcases (show t = 1 ∨ t = 2 ∨ t = 3 by omega) with rfl | rfl | rfl <;> decide +kernel) _ _) hf
theorem k_pourC7i01 {k k9 : Nat} {u v : Int} {y1 y2 y3 y4 y5 r9 : Int32} (I : k_In s D dA a1 a2 w H locs) (hS : k_S7 a1 a2 w rw nm r) (I1 : k_In s D dA a1 a2 w' H' locs') (hS1 : k_S7 a1 a2 w' rw nm r) (hj : j_Ex0 s D dA 128 w [.ref a1, .int y1, .int y2, .int y3, .int y4, .int y5] H' [.int r9]) (hy1 : y1.toInt = 0) (hy3 : y3.toInt = 1) (h4 : y4.toInt ≤ (k : Int)) (h5 : (k : Int) < y4.toInt + y5.toInt) (h9 : (k9 : Int) = y2.toInt - y4.toInt + (k : Int)) (hk9 : k9 < 60) (hk : k < 60) (hs9 : k_fn w (r 0) 17 k9 u) (hf : k_fn w (r 1) 17 k v) : ∃ v', k_fn w' (r 1) 17 k v' ∧ ((r9.toInt = 1 ∧ v' = u) ∨ (r9.toInt = 0 ∧ v' = v)) := by
  have hpd := k_preD (ct := j_c128_4) (r := k_rv [(a1 : Int), (0 : Int), y2.toInt, (1 : Int), y4.toInt, y5.toInt, (k : Int), (rw : Int), (r 0 : Int), (r 1 : Int), u, v]) (vals := [.ref a1, .int y1, .int y2, .int y3, .int y4, .int y5]) (w := j_w w a1 rw r (j_g0 k 0 0 0 0)) (by decide +kernel) ⟨(by show (0 : Int) ≤ (0) + ((-1) * y4.toInt + ((1) * (k : Int) + (0))); omega), (by show (0 : Int) ≤ (-1) + ((1) * y4.toInt + ((1) * y5.toInt + ((-1) * (k : Int) + (0)))); omega), (by show (0 : Int) ≤ (0) + ((1) * y2.toInt + ((-1) * y4.toInt + ((1) * (k : Int) + (0)))); omega), (by show (0 : Int) ≤ (59) + ((-1) * y2.toInt + ((1) * y4.toInt + ((-1) * (k : Int) + (0)))); omega), (by show (0 : Int) ≤ (3) + (0); omega), trivial⟩ ⟨k_aR (j_in_a1 hS _ I.2.2.2.2.1), ⟨_, rfl, hy1, Int.le_refl _, Int.le_refl _⟩, k_aI _, ⟨_, rfl, hy3, Int.le_refl _, Int.le_refl _⟩, k_aI _, k_aI _, trivial⟩ ⟨⟨40, rfl, c_gv_id40 (by show (0 : Int) ≤ (k : Int); omega) (by show (k : Int) ≤ 59; omega)⟩, k_fnC (b := 0) (j_fn hS (j_g0 k 0 0 0 0) hS.1 (j_in_a1 hS _ I.2.2.2.2.1)) rfl rfl, k_fnC (b := 7) (j_fn hS (j_g0 k 0 0 0 0) (hS.2.2.1 0 (by omega)).1 (j_in_rw hS _)) rfl (by show (0 : Int) + (1 * (0 : Int) + 0) = _; rfl), k_fnC (b := 7) (j_fn hS (j_g0 k 0 0 0 0) (hS.2.2.1 1 (by omega)).1 (j_in_rw hS _)) rfl (by show (0 : Int) + (1 * (1 : Int) + 0) = _; rfl), k_fnC (b := 8) (j_fn hS (j_g0 k 0 0 0 0) hs9 (j_in_row hS _ (t := 0) (by omega))) rfl (by show (0 : Int) + (1 * y2.toInt + ((-1) * y4.toInt + (1 * (k : Int) + 0))) = _; omega), k_fnC (b := 9) (j_fn hS (j_g0 k 0 0 0 0) hf (j_in_row hS _ (t := 1) (by omega))) rfl (by show (0 : Int) + (1 * (k : Int) + 0) = _; omega), trivial⟩
  obtain ⟨rv2, res2, w2, hh, hr2, hp2, hP2, hD2, hT2⟩ := hj (j_c128_4, k_rv [(a1 : Int), (0 : Int), y2.toInt, (1 : Int), y4.toInt, y5.toInt, (k : Int), (rw : Int), (r 0 : Int), (r 1 : Int), u, v], j_tg w a1 rw r, j_g0 k 0 0 0 0) j_pm128_4 rfl rfl hpd.1 hpd.2 (j_TW (D := D) I.2.2.1 I.2.1 hS I.2.2.2.2.1 _)
  obtain ⟨x9, rfl, rfl, -, -⟩ := hr2
  have hx9 : x9 = r9 := by injection (Option.some.inj hh)
  subst hx9
  obtain ⟨he2, -, d, hd, rr, p1, p2, p3, p4, -⟩ := hp2
  have e1 : rr 1 = (a1 : Int) := p1 1 (by show 1 < c_entryN j_c128_4; decide)
  have e2 : rr 2 = (0 : Int) := p1 2 (by show 2 < c_entryN j_c128_4; decide)
  have e3 : rr 3 = y2.toInt := p1 3 (by show 3 < c_entryN j_c128_4; decide)
  have e4 : rr 4 = (1 : Int) := p1 4 (by show 4 < c_entryN j_c128_4; decide)
  have e5 : rr 5 = y4.toInt := p1 5 (by show 5 < c_entryN j_c128_4; decide)
  have e6 : rr 6 = y5.toInt := p1 6 (by show 6 < c_entryN j_c128_4; decide)
  have e7 : rr 7 = (k : Int) := p1 7 (by show 7 < c_entryN j_c128_4; decide)
  have e8 : rr 8 = (rw : Int) := p1 8 (by show 8 < c_entryN j_c128_4; decide)
  have e9 : rr 9 = (r 0 : Int) := p1 9 (by show 9 < c_entryN j_c128_4; decide)
  have e10 : rr 10 = (r 1 : Int) := p1 10 (by show 10 < c_entryN j_c128_4; decide)
  have e11 : rr 11 = u := p1 11 (by show 11 < c_entryN j_c128_4; decide)
  have e12 : rr 12 = v := p1 12 (by show 12 < c_entryN j_c128_4; decide)
  have er : rr 13 = x9.toInt := p2 0 _ rfl
  have hin2 := k_inK he2 (by show ((ct_pros j_c128_4).all fun t => Nat.ble 101 t) = true; decide +kernel) (by decide) (j_in_row hS (j_g0 k 0 0 0 0) (t := 1) (by omega))
  have hd : d ∈ ct_post j_c128_4 := hd
  simp only [ct_post, j_c128_4, List.mem_cons, List.not_mem_nil, or_false] at hd
  rcases hd with rfl | rfl
  all_goals
    have hc : k_fn w2 (r 1) 91 k (rr 14) := k_fnD (b := 9) (p3 0 _ rfl) e10 (by show (0 : Int) + (1 * rr 7 + 0) = _; rw [e7]; omega) hin2
    simp only [List.forall_mem_cons, c_ev, c_evs, List.not_mem_nil, false_implies, implies_true, and_true, e11, e12, er] at p4
    exact ⟨rr 14, j_back I1.1 hP2 I1.2.2.1 hT2 (hS1.2.2.1 1 (by omega)).2 rfl rfl hc, by omega⟩
theorem k_pourC7l01 {k : Nat} {v : Int} {y1 y2 y3 y4 y5 r9 : Int32} (I : k_In s D dA a1 a2 w H locs) (hS : k_S7 a1 a2 w rw nm r) (I1 : k_In s D dA a1 a2 w' H' locs') (hS1 : k_S7 a1 a2 w' rw nm r) (hj : j_Ex0 s D dA 128 w [.ref a1, .int y1, .int y2, .int y3, .int y4, .int y5] H' [.int r9]) (hy1 : y1.toInt = 0) (hy3 : y3.toInt = 1) (h4 : (k : Int) < y4.toInt) (hk : k < 60) (hf : k_fn w (r 1) 17 k v) : ∃ v', k_fn w' (r 1) 17 k v' ∧ v' = v := by
  have hpd := k_preD (ct := j_c128_5) (r := k_rv [(a1 : Int), (0 : Int), y2.toInt, (1 : Int), y4.toInt, y5.toInt, (k : Int), (rw : Int), (r 0 : Int), (r 1 : Int), v]) (vals := [.ref a1, .int y1, .int y2, .int y3, .int y4, .int y5]) (w := j_w w a1 rw r (j_g0 k 0 0 0 0)) (by decide +kernel) ⟨(by show (0 : Int) ≤ (-1) + ((1) * y4.toInt + ((-1) * (k : Int) + (0))); omega), (by show (0 : Int) ≤ (3) + (0); omega), trivial⟩ ⟨k_aR (j_in_a1 hS _ I.2.2.2.2.1), ⟨_, rfl, hy1, Int.le_refl _, Int.le_refl _⟩, k_aI _, ⟨_, rfl, hy3, Int.le_refl _, Int.le_refl _⟩, k_aI _, k_aI _, trivial⟩ ⟨⟨40, rfl, c_gv_id40 (by show (0 : Int) ≤ (k : Int); omega) (by show (k : Int) ≤ 59; omega)⟩, k_fnC (b := 0) (j_fn hS (j_g0 k 0 0 0 0) hS.1 (j_in_a1 hS _ I.2.2.2.2.1)) rfl rfl, k_fnC (b := 7) (j_fn hS (j_g0 k 0 0 0 0) (hS.2.2.1 0 (by omega)).1 (j_in_rw hS _)) rfl (by show (0 : Int) + (1 * (0 : Int) + 0) = _; rfl), k_fnC (b := 7) (j_fn hS (j_g0 k 0 0 0 0) (hS.2.2.1 1 (by omega)).1 (j_in_rw hS _)) rfl (by show (0 : Int) + (1 * (1 : Int) + 0) = _; rfl), k_fnC (b := 9) (j_fn hS (j_g0 k 0 0 0 0) hf (j_in_row hS _ (t := 1) (by omega))) rfl (by show (0 : Int) + (1 * (k : Int) + 0) = _; omega), trivial⟩
  obtain ⟨rv2, res2, w2, hh, hr2, hp2, hP2, hD2, hT2⟩ := hj (j_c128_5, k_rv [(a1 : Int), (0 : Int), y2.toInt, (1 : Int), y4.toInt, y5.toInt, (k : Int), (rw : Int), (r 0 : Int), (r 1 : Int), v], j_tg w a1 rw r, j_g0 k 0 0 0 0) j_pm128_5 rfl rfl hpd.1 hpd.2 (j_TW (D := D) I.2.2.1 I.2.1 hS I.2.2.2.2.1 _)
  obtain ⟨x9, rfl, rfl, -, -⟩ := hr2
  have hx9 : x9 = r9 := by injection (Option.some.inj hh)
  subst hx9
  obtain ⟨he2, -, d, hd, rr, p1, p2, p3, p4, -⟩ := hp2
  have e1 : rr 1 = (a1 : Int) := p1 1 (by show 1 < c_entryN j_c128_5; decide)
  have e2 : rr 2 = (0 : Int) := p1 2 (by show 2 < c_entryN j_c128_5; decide)
  have e3 : rr 3 = y2.toInt := p1 3 (by show 3 < c_entryN j_c128_5; decide)
  have e4 : rr 4 = (1 : Int) := p1 4 (by show 4 < c_entryN j_c128_5; decide)
  have e5 : rr 5 = y4.toInt := p1 5 (by show 5 < c_entryN j_c128_5; decide)
  have e6 : rr 6 = y5.toInt := p1 6 (by show 6 < c_entryN j_c128_5; decide)
  have e7 : rr 7 = (k : Int) := p1 7 (by show 7 < c_entryN j_c128_5; decide)
  have e8 : rr 8 = (rw : Int) := p1 8 (by show 8 < c_entryN j_c128_5; decide)
  have e9 : rr 9 = (r 0 : Int) := p1 9 (by show 9 < c_entryN j_c128_5; decide)
  have e10 : rr 10 = (r 1 : Int) := p1 10 (by show 10 < c_entryN j_c128_5; decide)
  have e11 : rr 11 = v := p1 11 (by show 11 < c_entryN j_c128_5; decide)
  have er : rr 12 = x9.toInt := p2 0 _ rfl
  have hin2 := k_inK he2 (by show ((ct_pros j_c128_5).all fun t => Nat.ble 101 t) = true; decide +kernel) (by decide) (j_in_row hS (j_g0 k 0 0 0 0) (t := 1) (by omega))
  have hd : d ∈ ct_post j_c128_5 := hd
  simp only [ct_post, j_c128_5, List.mem_cons, List.not_mem_nil, or_false] at hd
  subst hd
  have hc : k_fn w2 (r 1) 91 k (rr 13) := k_fnD (b := 9) (p3 0 _ rfl) e10 (by show (0 : Int) + (1 * rr 7 + 0) = _; rw [e7]; omega) hin2
  simp only [List.forall_mem_cons, c_ev, c_evs, List.not_mem_nil, false_implies, implies_true, and_true, e11, er] at p4
  exact ⟨rr 13, j_back I1.1 hP2 I1.2.2.1 hT2 (hS1.2.2.1 1 (by omega)).2 rfl rfl hc, by omega⟩
theorem k_pourC7g01 {k : Nat} {v : Int} {y1 y2 y3 y4 y5 r9 : Int32} (I : k_In s D dA a1 a2 w H locs) (hS : k_S7 a1 a2 w rw nm r) (I1 : k_In s D dA a1 a2 w' H' locs') (hS1 : k_S7 a1 a2 w' rw nm r) (hj : j_Ex0 s D dA 128 w [.ref a1, .int y1, .int y2, .int y3, .int y4, .int y5] H' [.int r9]) (hy1 : y1.toInt = 0) (hy3 : y3.toInt = 1) (h4 : y4.toInt + y5.toInt ≤ (k : Int)) (hk : k < 60) (hf : k_fn w (r 1) 17 k v) : ∃ v', k_fn w' (r 1) 17 k v' ∧ v' = v := by
  have hpd := k_preD (ct := j_c128_6) (r := k_rv [(a1 : Int), (0 : Int), y2.toInt, (1 : Int), y4.toInt, y5.toInt, (k : Int), (rw : Int), (r 0 : Int), (r 1 : Int), v]) (vals := [.ref a1, .int y1, .int y2, .int y3, .int y4, .int y5]) (w := j_w w a1 rw r (j_g0 k 0 0 0 0)) (by decide +kernel) ⟨(by show (0 : Int) ≤ (0) + ((-1) * y4.toInt + ((-1) * y5.toInt + ((1) * (k : Int) + (0)))); omega), (by show (0 : Int) ≤ (3) + (0); omega), trivial⟩ ⟨k_aR (j_in_a1 hS _ I.2.2.2.2.1), ⟨_, rfl, hy1, Int.le_refl _, Int.le_refl _⟩, k_aI _, ⟨_, rfl, hy3, Int.le_refl _, Int.le_refl _⟩, k_aI _, k_aI _, trivial⟩ ⟨⟨40, rfl, c_gv_id40 (by show (0 : Int) ≤ (k : Int); omega) (by show (k : Int) ≤ 59; omega)⟩, k_fnC (b := 0) (j_fn hS (j_g0 k 0 0 0 0) hS.1 (j_in_a1 hS _ I.2.2.2.2.1)) rfl rfl, k_fnC (b := 7) (j_fn hS (j_g0 k 0 0 0 0) (hS.2.2.1 0 (by omega)).1 (j_in_rw hS _)) rfl (by show (0 : Int) + (1 * (0 : Int) + 0) = _; rfl), k_fnC (b := 7) (j_fn hS (j_g0 k 0 0 0 0) (hS.2.2.1 1 (by omega)).1 (j_in_rw hS _)) rfl (by show (0 : Int) + (1 * (1 : Int) + 0) = _; rfl), k_fnC (b := 9) (j_fn hS (j_g0 k 0 0 0 0) hf (j_in_row hS _ (t := 1) (by omega))) rfl (by show (0 : Int) + (1 * (k : Int) + 0) = _; omega), trivial⟩
  obtain ⟨rv2, res2, w2, hh, hr2, hp2, hP2, hD2, hT2⟩ := hj (j_c128_6, k_rv [(a1 : Int), (0 : Int), y2.toInt, (1 : Int), y4.toInt, y5.toInt, (k : Int), (rw : Int), (r 0 : Int), (r 1 : Int), v], j_tg w a1 rw r, j_g0 k 0 0 0 0) j_pm128_6 rfl rfl hpd.1 hpd.2 (j_TW (D := D) I.2.2.1 I.2.1 hS I.2.2.2.2.1 _)
  obtain ⟨x9, rfl, rfl, -, -⟩ := hr2
  have hx9 : x9 = r9 := by injection (Option.some.inj hh)
  subst hx9
  obtain ⟨he2, -, d, hd, rr, p1, p2, p3, p4, -⟩ := hp2
  have e1 : rr 1 = (a1 : Int) := p1 1 (by show 1 < c_entryN j_c128_6; decide)
  have e2 : rr 2 = (0 : Int) := p1 2 (by show 2 < c_entryN j_c128_6; decide)
  have e3 : rr 3 = y2.toInt := p1 3 (by show 3 < c_entryN j_c128_6; decide)
  have e4 : rr 4 = (1 : Int) := p1 4 (by show 4 < c_entryN j_c128_6; decide)
  have e5 : rr 5 = y4.toInt := p1 5 (by show 5 < c_entryN j_c128_6; decide)
  have e6 : rr 6 = y5.toInt := p1 6 (by show 6 < c_entryN j_c128_6; decide)
  have e7 : rr 7 = (k : Int) := p1 7 (by show 7 < c_entryN j_c128_6; decide)
  have e8 : rr 8 = (rw : Int) := p1 8 (by show 8 < c_entryN j_c128_6; decide)
  have e9 : rr 9 = (r 0 : Int) := p1 9 (by show 9 < c_entryN j_c128_6; decide)
  have e10 : rr 10 = (r 1 : Int) := p1 10 (by show 10 < c_entryN j_c128_6; decide)
  have e11 : rr 11 = v := p1 11 (by show 11 < c_entryN j_c128_6; decide)
  have er : rr 12 = x9.toInt := p2 0 _ rfl
  have hin2 := k_inK he2 (by show ((ct_pros j_c128_6).all fun t => Nat.ble 101 t) = true; decide +kernel) (by decide) (j_in_row hS (j_g0 k 0 0 0 0) (t := 1) (by omega))
  have hd : d ∈ ct_post j_c128_6 := hd
  simp only [ct_post, j_c128_6, List.mem_cons, List.not_mem_nil, or_false] at hd
  subst hd
  have hc : k_fn w2 (r 1) 91 k (rr 13) := k_fnD (b := 9) (p3 0 _ rfl) e10 (by show (0 : Int) + (1 * rr 7 + 0) = _; rw [e7]; omega) hin2
  simp only [List.forall_mem_cons, c_ev, c_evs, List.not_mem_nil, false_implies, implies_true, and_true, e11, er] at p4
  exact ⟨rr 13, j_back I1.1 hP2 I1.2.2.1 hT2 (hS1.2.2.1 1 (by omega)).2 rfl rfl hc, by omega⟩
theorem k_pourC7r01 {k : Nat} {v : Int} {y1 y2 y3 y4 y5 r9 : Int32} (I : k_In s D dA a1 a2 w H locs) (hS : k_S7 a1 a2 w rw nm r) (I1 : k_In s D dA a1 a2 w' H' locs') (hS1 : k_S7 a1 a2 w' rw nm r) (hj : j_Ex0 s D dA 128 w [.ref a1, .int y1, .int y2, .int y3, .int y4, .int y5] H' [.int r9]) (hy1 : y1.toInt = 0) (hy3 : y3.toInt = 1) (h0 : r9.toInt = 0) (hk : k < 60) (hf : k_fn w (r 1) 17 k v) : k_fn w' (r 1) 17 k v := by
  have hpd := k_preD (ct := j_c128_7) (r := k_rv [(a1 : Int), (0 : Int), y2.toInt, (1 : Int), y4.toInt, y5.toInt, (k : Int), (rw : Int), (r 0 : Int), (r 1 : Int), v]) (vals := [.ref a1, .int y1, .int y2, .int y3, .int y4, .int y5]) (w := j_w w a1 rw r (j_g0 k 0 0 0 0)) (by decide +kernel) ⟨(by show (0 : Int) ≤ (3) + (0); omega), trivial⟩ ⟨k_aR (j_in_a1 hS _ I.2.2.2.2.1), ⟨_, rfl, hy1, Int.le_refl _, Int.le_refl _⟩, k_aI _, ⟨_, rfl, hy3, Int.le_refl _, Int.le_refl _⟩, k_aI _, k_aI _, trivial⟩ ⟨⟨40, rfl, c_gv_id40 (by show (0 : Int) ≤ (k : Int); omega) (by show (k : Int) ≤ 59; omega)⟩, k_fnC (b := 0) (j_fn hS (j_g0 k 0 0 0 0) hS.1 (j_in_a1 hS _ I.2.2.2.2.1)) rfl rfl, k_fnC (b := 7) (j_fn hS (j_g0 k 0 0 0 0) (hS.2.2.1 0 (by omega)).1 (j_in_rw hS _)) rfl (by show (0 : Int) + (1 * (0 : Int) + 0) = _; rfl), k_fnC (b := 7) (j_fn hS (j_g0 k 0 0 0 0) (hS.2.2.1 1 (by omega)).1 (j_in_rw hS _)) rfl (by show (0 : Int) + (1 * (1 : Int) + 0) = _; rfl), k_fnC (b := 9) (j_fn hS (j_g0 k 0 0 0 0) hf (j_in_row hS _ (t := 1) (by omega))) rfl (by show (0 : Int) + (1 * (k : Int) + 0) = _; omega), trivial⟩
  obtain ⟨rv2, res2, w2, hh, hr2, hp2, hP2, hD2, hT2⟩ := hj (j_c128_7, k_rv [(a1 : Int), (0 : Int), y2.toInt, (1 : Int), y4.toInt, y5.toInt, (k : Int), (rw : Int), (r 0 : Int), (r 1 : Int), v], j_tg w a1 rw r, j_g0 k 0 0 0 0) j_pm128_7 rfl rfl hpd.1 hpd.2 (j_TW (D := D) I.2.2.1 I.2.1 hS I.2.2.2.2.1 _)
  obtain ⟨x9, rfl, rfl, -, -⟩ := hr2
  have hx9 : x9 = r9 := by injection (Option.some.inj hh)
  subst hx9
  obtain ⟨he2, -, d, hd, rr, p1, p2, p3, p4, -⟩ := hp2
  have e1 : rr 1 = (a1 : Int) := p1 1 (by show 1 < c_entryN j_c128_7; decide)
  have e2 : rr 2 = (0 : Int) := p1 2 (by show 2 < c_entryN j_c128_7; decide)
  have e3 : rr 3 = y2.toInt := p1 3 (by show 3 < c_entryN j_c128_7; decide)
  have e4 : rr 4 = (1 : Int) := p1 4 (by show 4 < c_entryN j_c128_7; decide)
  have e5 : rr 5 = y4.toInt := p1 5 (by show 5 < c_entryN j_c128_7; decide)
  have e6 : rr 6 = y5.toInt := p1 6 (by show 6 < c_entryN j_c128_7; decide)
  have e7 : rr 7 = (k : Int) := p1 7 (by show 7 < c_entryN j_c128_7; decide)
  have e8 : rr 8 = (rw : Int) := p1 8 (by show 8 < c_entryN j_c128_7; decide)
  have e9 : rr 9 = (r 0 : Int) := p1 9 (by show 9 < c_entryN j_c128_7; decide)
  have e10 : rr 10 = (r 1 : Int) := p1 10 (by show 10 < c_entryN j_c128_7; decide)
  have e11 : rr 11 = v := p1 11 (by show 11 < c_entryN j_c128_7; decide)
  have er : rr 12 = x9.toInt := p2 0 _ rfl
  have hin2 := k_inK he2 (by show ((ct_pros j_c128_7).all fun t => Nat.ble 101 t) = true; decide +kernel) (by decide) (j_in_row hS (j_g0 k 0 0 0 0) (t := 1) (by omega))
  have hd : d ∈ ct_post j_c128_7 := hd
  simp only [ct_post, j_c128_7, List.mem_cons, List.not_mem_nil, or_false] at hd
  rcases hd with rfl | rfl
  · have hc : k_fn w2 (r 1) 91 k (rr 13) := k_fnD (b := 9) (p3 0 _ rfl) e10 (by show (0 : Int) + (1 * rr 7 + 0) = _; rw [e7]; omega) hin2
    simp only [List.forall_mem_cons, c_ev, c_evs, List.not_mem_nil, false_implies, implies_true, and_true, e11, er] at p4
    have hv : rr 13 = v := by omega
    rw [hv] at hc
    exact j_back I1.1 hP2 I1.2.2.1 hT2 (hS1.2.2.1 1 (by omega)).2 rfl rfl hc
  · simp only [List.forall_mem_cons, c_ev, c_evs, List.not_mem_nil, false_implies, implies_true, and_true, er] at p4
    omega
theorem k_pourC7o01 {k t : Nat} {v v0 : Int} {y1 y2 y3 y4 y5 r9 : Int32} (I : k_In s D dA a1 a2 w H locs) (hS : k_S7 a1 a2 w rw nm r) (I1 : k_In s D dA a1 a2 w' H' locs') (hS1 : k_S7 a1 a2 w' rw nm r) (hj : j_Ex0 s D dA 128 w [.ref a1, .int y1, .int y2, .int y3, .int y4, .int y5] H' [.int r9]) (hy1 : y1.toInt = 0) (hy3 : y3.toInt = 1) (ht : t < 4) (hne : t ≠ 1) (hk : k < 60) (hf0 : k_fn w (r 1) 17 k v0) (hf : k_fn w (r t) 17 k v) : k_fn w' (r t) 17 k v := by
  have hpd := k_preD (ct := j_c128_7) (r := k_rv [(a1 : Int), (0 : Int), y2.toInt, (1 : Int), y4.toInt, y5.toInt, (k : Int), (rw : Int), (r 0 : Int), (r 1 : Int), v0]) (vals := [.ref a1, .int y1, .int y2, .int y3, .int y4, .int y5]) (w := j_w w a1 rw r (j_g0 k 0 0 0 0)) (by decide +kernel) ⟨(by show (0 : Int) ≤ (3) + (0); omega), trivial⟩ ⟨k_aR (j_in_a1 hS _ I.2.2.2.2.1), ⟨_, rfl, hy1, Int.le_refl _, Int.le_refl _⟩, k_aI _, ⟨_, rfl, hy3, Int.le_refl _, Int.le_refl _⟩, k_aI _, k_aI _, trivial⟩ ⟨⟨40, rfl, c_gv_id40 (by show (0 : Int) ≤ (k : Int); omega) (by show (k : Int) ≤ 59; omega)⟩, k_fnC (b := 0) (j_fn hS (j_g0 k 0 0 0 0) hS.1 (j_in_a1 hS _ I.2.2.2.2.1)) rfl rfl, k_fnC (b := 7) (j_fn hS (j_g0 k 0 0 0 0) (hS.2.2.1 0 (by omega)).1 (j_in_rw hS _)) rfl (by show (0 : Int) + (1 * (0 : Int) + 0) = _; rfl), k_fnC (b := 7) (j_fn hS (j_g0 k 0 0 0 0) (hS.2.2.1 1 (by omega)).1 (j_in_rw hS _)) rfl (by show (0 : Int) + (1 * (1 : Int) + 0) = _; rfl), k_fnC (b := 9) (j_fn hS (j_g0 k 0 0 0 0) hf0 (j_in_row hS _ (t := 1) (by omega))) rfl (by show (0 : Int) + (1 * (k : Int) + 0) = _; omega), trivial⟩
  obtain ⟨rv2, res2, w2, hh, hr2, hp2, hP2, hD2, hT2⟩ := hj (j_c128_7, k_rv [(a1 : Int), (0 : Int), y2.toInt, (1 : Int), y4.toInt, y5.toInt, (k : Int), (rw : Int), (r 0 : Int), (r 1 : Int), v0], j_tg w a1 rw r, j_g0 k 0 0 0 0) j_pm128_7 rfl rfl hpd.1 hpd.2 (j_TW (D := D) I.2.2.1 I.2.1 hS I.2.2.2.2.1 _)
  obtain ⟨he2, -⟩ := hp2
  exact j_rowK hS I1 hS1 he2 (by show ((ct_pros j_c128_7).all fun t => Nat.ble 101 t) = true; decide +kernel) hP2 hT2 ht (k_none_ok (by show k_none (ct_eff j_c128_7) (90 + t) = true; rcases (show t = 0 ∨ t = 2 ∨ t = 3 by omega) with rfl | rfl | rfl <;> decide +kernel) _ _) hf
theorem k_pourC7i02 {k k9 : Nat} {u v : Int} {y1 y2 y3 y4 y5 r9 : Int32} (I : k_In s D dA a1 a2 w H locs) (hS : k_S7 a1 a2 w rw nm r) (I1 : k_In s D dA a1 a2 w' H' locs') (hS1 : k_S7 a1 a2 w' rw nm r) (hj : j_Ex0 s D dA 128 w [.ref a1, .int y1, .int y2, .int y3, .int y4, .int y5] H' [.int r9]) (hy1 : y1.toInt = 0) (hy3 : y3.toInt = 2) (h4 : y4.toInt ≤ (k : Int)) (h5 : (k : Int) < y4.toInt + y5.toInt) (h9 : (k9 : Int) = y2.toInt - y4.toInt + (k : Int)) (hk9 : k9 < 60) (hk : k < 60) (hs9 : k_fn w (r 0) 17 k9 u) (hf : k_fn w (r 2) 17 k v) : ∃ v', k_fn w' (r 2) 17 k v' ∧ ((r9.toInt = 1 ∧ v' = u) ∨ (r9.toInt = 0 ∧ v' = v)) := by
  have hpd := k_preD (ct := j_c128_8) (r := k_rv [(a1 : Int), (0 : Int), y2.toInt, (2 : Int), y4.toInt, y5.toInt, (k : Int), (rw : Int), (r 0 : Int), (r 2 : Int), u, v]) (vals := [.ref a1, .int y1, .int y2, .int y3, .int y4, .int y5]) (w := j_w w a1 rw r (j_g0 k 0 0 0 0)) (by decide +kernel) ⟨(by show (0 : Int) ≤ (0) + ((-1) * y4.toInt + ((1) * (k : Int) + (0))); omega), (by show (0 : Int) ≤ (-1) + ((1) * y4.toInt + ((1) * y5.toInt + ((-1) * (k : Int) + (0)))); omega), (by show (0 : Int) ≤ (0) + ((1) * y2.toInt + ((-1) * y4.toInt + ((1) * (k : Int) + (0)))); omega), (by show (0 : Int) ≤ (59) + ((-1) * y2.toInt + ((1) * y4.toInt + ((-1) * (k : Int) + (0)))); omega), (by show (0 : Int) ≤ (3) + (0); omega), trivial⟩ ⟨k_aR (j_in_a1 hS _ I.2.2.2.2.1), ⟨_, rfl, hy1, Int.le_refl _, Int.le_refl _⟩, k_aI _, ⟨_, rfl, hy3, Int.le_refl _, Int.le_refl _⟩, k_aI _, k_aI _, trivial⟩ ⟨⟨40, rfl, c_gv_id40 (by show (0 : Int) ≤ (k : Int); omega) (by show (k : Int) ≤ 59; omega)⟩, k_fnC (b := 0) (j_fn hS (j_g0 k 0 0 0 0) hS.1 (j_in_a1 hS _ I.2.2.2.2.1)) rfl rfl, k_fnC (b := 7) (j_fn hS (j_g0 k 0 0 0 0) (hS.2.2.1 0 (by omega)).1 (j_in_rw hS _)) rfl (by show (0 : Int) + (1 * (0 : Int) + 0) = _; rfl), k_fnC (b := 7) (j_fn hS (j_g0 k 0 0 0 0) (hS.2.2.1 2 (by omega)).1 (j_in_rw hS _)) rfl (by show (0 : Int) + (1 * (2 : Int) + 0) = _; rfl), k_fnC (b := 8) (j_fn hS (j_g0 k 0 0 0 0) hs9 (j_in_row hS _ (t := 0) (by omega))) rfl (by show (0 : Int) + (1 * y2.toInt + ((-1) * y4.toInt + (1 * (k : Int) + 0))) = _; omega), k_fnC (b := 9) (j_fn hS (j_g0 k 0 0 0 0) hf (j_in_row hS _ (t := 2) (by omega))) rfl (by show (0 : Int) + (1 * (k : Int) + 0) = _; omega), trivial⟩
  obtain ⟨rv2, res2, w2, hh, hr2, hp2, hP2, hD2, hT2⟩ := hj (j_c128_8, k_rv [(a1 : Int), (0 : Int), y2.toInt, (2 : Int), y4.toInt, y5.toInt, (k : Int), (rw : Int), (r 0 : Int), (r 2 : Int), u, v], j_tg w a1 rw r, j_g0 k 0 0 0 0) j_pm128_8 rfl rfl hpd.1 hpd.2 (j_TW (D := D) I.2.2.1 I.2.1 hS I.2.2.2.2.1 _)
  obtain ⟨x9, rfl, rfl, -, -⟩ := hr2
  have hx9 : x9 = r9 := by injection (Option.some.inj hh)
  subst hx9
  obtain ⟨he2, -, d, hd, rr, p1, p2, p3, p4, -⟩ := hp2
  have e1 : rr 1 = (a1 : Int) := p1 1 (by show 1 < c_entryN j_c128_8; decide)
  have e2 : rr 2 = (0 : Int) := p1 2 (by show 2 < c_entryN j_c128_8; decide)
  have e3 : rr 3 = y2.toInt := p1 3 (by show 3 < c_entryN j_c128_8; decide)
  have e4 : rr 4 = (2 : Int) := p1 4 (by show 4 < c_entryN j_c128_8; decide)
  have e5 : rr 5 = y4.toInt := p1 5 (by show 5 < c_entryN j_c128_8; decide)
  have e6 : rr 6 = y5.toInt := p1 6 (by show 6 < c_entryN j_c128_8; decide)
  have e7 : rr 7 = (k : Int) := p1 7 (by show 7 < c_entryN j_c128_8; decide)
  have e8 : rr 8 = (rw : Int) := p1 8 (by show 8 < c_entryN j_c128_8; decide)
  have e9 : rr 9 = (r 0 : Int) := p1 9 (by show 9 < c_entryN j_c128_8; decide)
  have e10 : rr 10 = (r 2 : Int) := p1 10 (by show 10 < c_entryN j_c128_8; decide)
  have e11 : rr 11 = u := p1 11 (by show 11 < c_entryN j_c128_8; decide)
  have e12 : rr 12 = v := p1 12 (by show 12 < c_entryN j_c128_8; decide)
  have er : rr 13 = x9.toInt := p2 0 _ rfl
  have hin2 := k_inK he2 (by show ((ct_pros j_c128_8).all fun t => Nat.ble 101 t) = true; decide +kernel) (by decide) (j_in_row hS (j_g0 k 0 0 0 0) (t := 2) (by omega))
  have hd : d ∈ ct_post j_c128_8 := hd
  simp only [ct_post, j_c128_8, List.mem_cons, List.not_mem_nil, or_false] at hd
  rcases hd with rfl | rfl
  all_goals
    have hc : k_fn w2 (r 2) 92 k (rr 14) := k_fnD (b := 9) (p3 0 _ rfl) e10 (by show (0 : Int) + (1 * rr 7 + 0) = _; rw [e7]; omega) hin2
    simp only [List.forall_mem_cons, c_ev, c_evs, List.not_mem_nil, false_implies, implies_true, and_true, e11, e12, er] at p4
    exact ⟨rr 14, j_back I1.1 hP2 I1.2.2.1 hT2 (hS1.2.2.1 2 (by omega)).2 rfl rfl hc, by omega⟩
theorem k_pourC7l02 {k : Nat} {v : Int} {y1 y2 y3 y4 y5 r9 : Int32} (I : k_In s D dA a1 a2 w H locs) (hS : k_S7 a1 a2 w rw nm r) (I1 : k_In s D dA a1 a2 w' H' locs') (hS1 : k_S7 a1 a2 w' rw nm r) (hj : j_Ex0 s D dA 128 w [.ref a1, .int y1, .int y2, .int y3, .int y4, .int y5] H' [.int r9]) (hy1 : y1.toInt = 0) (hy3 : y3.toInt = 2) (h4 : (k : Int) < y4.toInt) (hk : k < 60) (hf : k_fn w (r 2) 17 k v) : ∃ v', k_fn w' (r 2) 17 k v' ∧ v' = v := by
  have hpd := k_preD (ct := j_c128_9) (r := k_rv [(a1 : Int), (0 : Int), y2.toInt, (2 : Int), y4.toInt, y5.toInt, (k : Int), (rw : Int), (r 0 : Int), (r 2 : Int), v]) (vals := [.ref a1, .int y1, .int y2, .int y3, .int y4, .int y5]) (w := j_w w a1 rw r (j_g0 k 0 0 0 0)) (by decide +kernel) ⟨(by show (0 : Int) ≤ (-1) + ((1) * y4.toInt + ((-1) * (k : Int) + (0))); omega), (by show (0 : Int) ≤ (3) + (0); omega), trivial⟩ ⟨k_aR (j_in_a1 hS _ I.2.2.2.2.1), ⟨_, rfl, hy1, Int.le_refl _, Int.le_refl _⟩, k_aI _, ⟨_, rfl, hy3, Int.le_refl _, Int.le_refl _⟩, k_aI _, k_aI _, trivial⟩ ⟨⟨40, rfl, c_gv_id40 (by show (0 : Int) ≤ (k : Int); omega) (by show (k : Int) ≤ 59; omega)⟩, k_fnC (b := 0) (j_fn hS (j_g0 k 0 0 0 0) hS.1 (j_in_a1 hS _ I.2.2.2.2.1)) rfl rfl, k_fnC (b := 7) (j_fn hS (j_g0 k 0 0 0 0) (hS.2.2.1 0 (by omega)).1 (j_in_rw hS _)) rfl (by show (0 : Int) + (1 * (0 : Int) + 0) = _; rfl), k_fnC (b := 7) (j_fn hS (j_g0 k 0 0 0 0) (hS.2.2.1 2 (by omega)).1 (j_in_rw hS _)) rfl (by show (0 : Int) + (1 * (2 : Int) + 0) = _; rfl), k_fnC (b := 9) (j_fn hS (j_g0 k 0 0 0 0) hf (j_in_row hS _ (t := 2) (by omega))) rfl (by show (0 : Int) + (1 * (k : Int) + 0) = _; omega), trivial⟩
  obtain ⟨rv2, res2, w2, hh, hr2, hp2, hP2, hD2, hT2⟩ := hj (j_c128_9, k_rv [(a1 : Int), (0 : Int), y2.toInt, (2 : Int), y4.toInt, y5.toInt, (k : Int), (rw : Int), (r 0 : Int), (r 2 : Int), v], j_tg w a1 rw r, j_g0 k 0 0 0 0) j_pm128_9 rfl rfl hpd.1 hpd.2 (j_TW (D := D) I.2.2.1 I.2.1 hS I.2.2.2.2.1 _)
  obtain ⟨x9, rfl, rfl, -, -⟩ := hr2
  have hx9 : x9 = r9 := by injection (Option.some.inj hh)
  subst hx9
  obtain ⟨he2, -, d, hd, rr, p1, p2, p3, p4, -⟩ := hp2
  have e1 : rr 1 = (a1 : Int) := p1 1 (by show 1 < c_entryN j_c128_9; decide)
  have e2 : rr 2 = (0 : Int) := p1 2 (by show 2 < c_entryN j_c128_9; decide)
  have e3 : rr 3 = y2.toInt := p1 3 (by show 3 < c_entryN j_c128_9; decide)
  have e4 : rr 4 = (2 : Int) := p1 4 (by show 4 < c_entryN j_c128_9; decide)
  have e5 : rr 5 = y4.toInt := p1 5 (by show 5 < c_entryN j_c128_9; decide)
  have e6 : rr 6 = y5.toInt := p1 6 (by show 6 < c_entryN j_c128_9; decide)
  have e7 : rr 7 = (k : Int) := p1 7 (by show 7 < c_entryN j_c128_9; decide)
  have e8 : rr 8 = (rw : Int) := p1 8 (by show 8 < c_entryN j_c128_9; decide)
  have e9 : rr 9 = (r 0 : Int) := p1 9 (by show 9 < c_entryN j_c128_9; decide)
  have e10 : rr 10 = (r 2 : Int) := p1 10 (by show 10 < c_entryN j_c128_9; decide)
  have e11 : rr 11 = v := p1 11 (by show 11 < c_entryN j_c128_9; decide)
  have er : rr 12 = x9.toInt := p2 0 _ rfl
  have hin2 := k_inK he2 (by show ((ct_pros j_c128_9).all fun t => Nat.ble 101 t) = true; decide +kernel) (by decide) (j_in_row hS (j_g0 k 0 0 0 0) (t := 2) (by omega))
  have hd : d ∈ ct_post j_c128_9 := hd
  simp only [ct_post, j_c128_9, List.mem_cons, List.not_mem_nil, or_false] at hd
  subst hd
  have hc : k_fn w2 (r 2) 92 k (rr 13) := k_fnD (b := 9) (p3 0 _ rfl) e10 (by show (0 : Int) + (1 * rr 7 + 0) = _; rw [e7]; omega) hin2
  simp only [List.forall_mem_cons, c_ev, c_evs, List.not_mem_nil, false_implies, implies_true, and_true, e11, er] at p4
  exact ⟨rr 13, j_back I1.1 hP2 I1.2.2.1 hT2 (hS1.2.2.1 2 (by omega)).2 rfl rfl hc, by omega⟩
theorem k_pourC7g02 {k : Nat} {v : Int} {y1 y2 y3 y4 y5 r9 : Int32} (I : k_In s D dA a1 a2 w H locs) (hS : k_S7 a1 a2 w rw nm r) (I1 : k_In s D dA a1 a2 w' H' locs') (hS1 : k_S7 a1 a2 w' rw nm r) (hj : j_Ex0 s D dA 128 w [.ref a1, .int y1, .int y2, .int y3, .int y4, .int y5] H' [.int r9]) (hy1 : y1.toInt = 0) (hy3 : y3.toInt = 2) (h4 : y4.toInt + y5.toInt ≤ (k : Int)) (hk : k < 60) (hf : k_fn w (r 2) 17 k v) : ∃ v', k_fn w' (r 2) 17 k v' ∧ v' = v := by
  have hpd := k_preD (ct := j_c128_10) (r := k_rv [(a1 : Int), (0 : Int), y2.toInt, (2 : Int), y4.toInt, y5.toInt, (k : Int), (rw : Int), (r 0 : Int), (r 2 : Int), v]) (vals := [.ref a1, .int y1, .int y2, .int y3, .int y4, .int y5]) (w := j_w w a1 rw r (j_g0 k 0 0 0 0)) (by decide +kernel) ⟨(by show (0 : Int) ≤ (0) + ((-1) * y4.toInt + ((-1) * y5.toInt + ((1) * (k : Int) + (0)))); omega), (by show (0 : Int) ≤ (3) + (0); omega), trivial⟩ ⟨k_aR (j_in_a1 hS _ I.2.2.2.2.1), ⟨_, rfl, hy1, Int.le_refl _, Int.le_refl _⟩, k_aI _, ⟨_, rfl, hy3, Int.le_refl _, Int.le_refl _⟩, k_aI _, k_aI _, trivial⟩ ⟨⟨40, rfl, c_gv_id40 (by show (0 : Int) ≤ (k : Int); omega) (by show (k : Int) ≤ 59; omega)⟩, k_fnC (b := 0) (j_fn hS (j_g0 k 0 0 0 0) hS.1 (j_in_a1 hS _ I.2.2.2.2.1)) rfl rfl, k_fnC (b := 7) (j_fn hS (j_g0 k 0 0 0 0) (hS.2.2.1 0 (by omega)).1 (j_in_rw hS _)) rfl (by show (0 : Int) + (1 * (0 : Int) + 0) = _; rfl), k_fnC (b := 7) (j_fn hS (j_g0 k 0 0 0 0) (hS.2.2.1 2 (by omega)).1 (j_in_rw hS _)) rfl (by show (0 : Int) + (1 * (2 : Int) + 0) = _; rfl), k_fnC (b := 9) (j_fn hS (j_g0 k 0 0 0 0) hf (j_in_row hS _ (t := 2) (by omega))) rfl (by show (0 : Int) + (1 * (k : Int) + 0) = _; omega), trivial⟩
  obtain ⟨rv2, res2, w2, hh, hr2, hp2, hP2, hD2, hT2⟩ := hj (j_c128_10, k_rv [(a1 : Int), (0 : Int), y2.toInt, (2 : Int), y4.toInt, y5.toInt, (k : Int), (rw : Int), (r 0 : Int), (r 2 : Int), v], j_tg w a1 rw r, j_g0 k 0 0 0 0) j_pm128_10 rfl rfl hpd.1 hpd.2 (j_TW (D := D) I.2.2.1 I.2.1 hS I.2.2.2.2.1 _)
  obtain ⟨x9, rfl, rfl, -, -⟩ := hr2
  have hx9 : x9 = r9 := by injection (Option.some.inj hh)
  subst hx9
  obtain ⟨he2, -, d, hd, rr, p1, p2, p3, p4, -⟩ := hp2
  have e1 : rr 1 = (a1 : Int) := p1 1 (by show 1 < c_entryN j_c128_10; decide)
  have e2 : rr 2 = (0 : Int) := p1 2 (by show 2 < c_entryN j_c128_10; decide)
  have e3 : rr 3 = y2.toInt := p1 3 (by show 3 < c_entryN j_c128_10; decide)
  have e4 : rr 4 = (2 : Int) := p1 4 (by show 4 < c_entryN j_c128_10; decide)
  have e5 : rr 5 = y4.toInt := p1 5 (by show 5 < c_entryN j_c128_10; decide)
  have e6 : rr 6 = y5.toInt := p1 6 (by show 6 < c_entryN j_c128_10; decide)
  have e7 : rr 7 = (k : Int) := p1 7 (by show 7 < c_entryN j_c128_10; decide)
  have e8 : rr 8 = (rw : Int) := p1 8 (by show 8 < c_entryN j_c128_10; decide)
  have e9 : rr 9 = (r 0 : Int) := p1 9 (by show 9 < c_entryN j_c128_10; decide)
  have e10 : rr 10 = (r 2 : Int) := p1 10 (by show 10 < c_entryN j_c128_10; decide)
  have e11 : rr 11 = v := p1 11 (by show 11 < c_entryN j_c128_10; decide)
  have er : rr 12 = x9.toInt := p2 0 _ rfl
  have hin2 := k_inK he2 (by show ((ct_pros j_c128_10).all fun t => Nat.ble 101 t) = true; decide +kernel) (by decide) (j_in_row hS (j_g0 k 0 0 0 0) (t := 2) (by omega))
  have hd : d ∈ ct_post j_c128_10 := hd
  simp only [ct_post, j_c128_10, List.mem_cons, List.not_mem_nil, or_false] at hd
  subst hd
  have hc : k_fn w2 (r 2) 92 k (rr 13) := k_fnD (b := 9) (p3 0 _ rfl) e10 (by show (0 : Int) + (1 * rr 7 + 0) = _; rw [e7]; omega) hin2
  simp only [List.forall_mem_cons, c_ev, c_evs, List.not_mem_nil, false_implies, implies_true, and_true, e11, er] at p4
  exact ⟨rr 13, j_back I1.1 hP2 I1.2.2.1 hT2 (hS1.2.2.1 2 (by omega)).2 rfl rfl hc, by omega⟩
theorem k_pourC7r02 {k : Nat} {v : Int} {y1 y2 y3 y4 y5 r9 : Int32} (I : k_In s D dA a1 a2 w H locs) (hS : k_S7 a1 a2 w rw nm r) (I1 : k_In s D dA a1 a2 w' H' locs') (hS1 : k_S7 a1 a2 w' rw nm r) (hj : j_Ex0 s D dA 128 w [.ref a1, .int y1, .int y2, .int y3, .int y4, .int y5] H' [.int r9]) (hy1 : y1.toInt = 0) (hy3 : y3.toInt = 2) (h0 : r9.toInt = 0) (hk : k < 60) (hf : k_fn w (r 2) 17 k v) : k_fn w' (r 2) 17 k v := by
  have hpd := k_preD (ct := j_c128_11) (r := k_rv [(a1 : Int), (0 : Int), y2.toInt, (2 : Int), y4.toInt, y5.toInt, (k : Int), (rw : Int), (r 0 : Int), (r 2 : Int), v]) (vals := [.ref a1, .int y1, .int y2, .int y3, .int y4, .int y5]) (w := j_w w a1 rw r (j_g0 k 0 0 0 0)) (by decide +kernel) ⟨(by show (0 : Int) ≤ (3) + (0); omega), trivial⟩ ⟨k_aR (j_in_a1 hS _ I.2.2.2.2.1), ⟨_, rfl, hy1, Int.le_refl _, Int.le_refl _⟩, k_aI _, ⟨_, rfl, hy3, Int.le_refl _, Int.le_refl _⟩, k_aI _, k_aI _, trivial⟩ ⟨⟨40, rfl, c_gv_id40 (by show (0 : Int) ≤ (k : Int); omega) (by show (k : Int) ≤ 59; omega)⟩, k_fnC (b := 0) (j_fn hS (j_g0 k 0 0 0 0) hS.1 (j_in_a1 hS _ I.2.2.2.2.1)) rfl rfl, k_fnC (b := 7) (j_fn hS (j_g0 k 0 0 0 0) (hS.2.2.1 0 (by omega)).1 (j_in_rw hS _)) rfl (by show (0 : Int) + (1 * (0 : Int) + 0) = _; rfl), k_fnC (b := 7) (j_fn hS (j_g0 k 0 0 0 0) (hS.2.2.1 2 (by omega)).1 (j_in_rw hS _)) rfl (by show (0 : Int) + (1 * (2 : Int) + 0) = _; rfl), k_fnC (b := 9) (j_fn hS (j_g0 k 0 0 0 0) hf (j_in_row hS _ (t := 2) (by omega))) rfl (by show (0 : Int) + (1 * (k : Int) + 0) = _; omega), trivial⟩
  obtain ⟨rv2, res2, w2, hh, hr2, hp2, hP2, hD2, hT2⟩ := hj (j_c128_11, k_rv [(a1 : Int), (0 : Int), y2.toInt, (2 : Int), y4.toInt, y5.toInt, (k : Int), (rw : Int), (r 0 : Int), (r 2 : Int), v], j_tg w a1 rw r, j_g0 k 0 0 0 0) j_pm128_11 rfl rfl hpd.1 hpd.2 (j_TW (D := D) I.2.2.1 I.2.1 hS I.2.2.2.2.1 _)
  obtain ⟨x9, rfl, rfl, -, -⟩ := hr2
  have hx9 : x9 = r9 := by injection (Option.some.inj hh)
  subst hx9
  obtain ⟨he2, -, d, hd, rr, p1, p2, p3, p4, -⟩ := hp2
  have e1 : rr 1 = (a1 : Int) := p1 1 (by show 1 < c_entryN j_c128_11; decide)
  have e2 : rr 2 = (0 : Int) := p1 2 (by show 2 < c_entryN j_c128_11; decide)
  have e3 : rr 3 = y2.toInt := p1 3 (by show 3 < c_entryN j_c128_11; decide)
  have e4 : rr 4 = (2 : Int) := p1 4 (by show 4 < c_entryN j_c128_11; decide)
  have e5 : rr 5 = y4.toInt := p1 5 (by show 5 < c_entryN j_c128_11; decide)
  have e6 : rr 6 = y5.toInt := p1 6 (by show 6 < c_entryN j_c128_11; decide)
  have e7 : rr 7 = (k : Int) := p1 7 (by show 7 < c_entryN j_c128_11; decide)
  have e8 : rr 8 = (rw : Int) := p1 8 (by show 8 < c_entryN j_c128_11; decide)
  have e9 : rr 9 = (r 0 : Int) := p1 9 (by show 9 < c_entryN j_c128_11; decide)
  have e10 : rr 10 = (r 2 : Int) := p1 10 (by show 10 < c_entryN j_c128_11; decide)
  have e11 : rr 11 = v := p1 11 (by show 11 < c_entryN j_c128_11; decide)
  have er : rr 12 = x9.toInt := p2 0 _ rfl
  have hin2 := k_inK he2 (by show ((ct_pros j_c128_11).all fun t => Nat.ble 101 t) = true; decide +kernel) (by decide) (j_in_row hS (j_g0 k 0 0 0 0) (t := 2) (by omega))
  have hd : d ∈ ct_post j_c128_11 := hd
  simp only [ct_post, j_c128_11, List.mem_cons, List.not_mem_nil, or_false] at hd
  rcases hd with rfl | rfl
  · have hc : k_fn w2 (r 2) 92 k (rr 13) := k_fnD (b := 9) (p3 0 _ rfl) e10 (by show (0 : Int) + (1 * rr 7 + 0) = _; rw [e7]; omega) hin2
    simp only [List.forall_mem_cons, c_ev, c_evs, List.not_mem_nil, false_implies, implies_true, and_true, e11, er] at p4
    have hv : rr 13 = v := by omega
    rw [hv] at hc
    exact j_back I1.1 hP2 I1.2.2.1 hT2 (hS1.2.2.1 2 (by omega)).2 rfl rfl hc
  · simp only [List.forall_mem_cons, c_ev, c_evs, List.not_mem_nil, false_implies, implies_true, and_true, er] at p4
    omega
theorem k_pourC7o02 {k t : Nat} {v v0 : Int} {y1 y2 y3 y4 y5 r9 : Int32} (I : k_In s D dA a1 a2 w H locs) (hS : k_S7 a1 a2 w rw nm r) (I1 : k_In s D dA a1 a2 w' H' locs') (hS1 : k_S7 a1 a2 w' rw nm r) (hj : j_Ex0 s D dA 128 w [.ref a1, .int y1, .int y2, .int y3, .int y4, .int y5] H' [.int r9]) (hy1 : y1.toInt = 0) (hy3 : y3.toInt = 2) (ht : t < 4) (hne : t ≠ 2) (hk : k < 60) (hf0 : k_fn w (r 2) 17 k v0) (hf : k_fn w (r t) 17 k v) : k_fn w' (r t) 17 k v := by
  have hpd := k_preD (ct := j_c128_11) (r := k_rv [(a1 : Int), (0 : Int), y2.toInt, (2 : Int), y4.toInt, y5.toInt, (k : Int), (rw : Int), (r 0 : Int), (r 2 : Int), v0]) (vals := [.ref a1, .int y1, .int y2, .int y3, .int y4, .int y5]) (w := j_w w a1 rw r (j_g0 k 0 0 0 0)) (by decide +kernel) ⟨(by show (0 : Int) ≤ (3) + (0); omega), trivial⟩ ⟨k_aR (j_in_a1 hS _ I.2.2.2.2.1), ⟨_, rfl, hy1, Int.le_refl _, Int.le_refl _⟩, k_aI _, ⟨_, rfl, hy3, Int.le_refl _, Int.le_refl _⟩, k_aI _, k_aI _, trivial⟩ ⟨⟨40, rfl, c_gv_id40 (by show (0 : Int) ≤ (k : Int); omega) (by show (k : Int) ≤ 59; omega)⟩, k_fnC (b := 0) (j_fn hS (j_g0 k 0 0 0 0) hS.1 (j_in_a1 hS _ I.2.2.2.2.1)) rfl rfl, k_fnC (b := 7) (j_fn hS (j_g0 k 0 0 0 0) (hS.2.2.1 0 (by omega)).1 (j_in_rw hS _)) rfl (by show (0 : Int) + (1 * (0 : Int) + 0) = _; rfl), k_fnC (b := 7) (j_fn hS (j_g0 k 0 0 0 0) (hS.2.2.1 2 (by omega)).1 (j_in_rw hS _)) rfl (by show (0 : Int) + (1 * (2 : Int) + 0) = _; rfl), k_fnC (b := 9) (j_fn hS (j_g0 k 0 0 0 0) hf0 (j_in_row hS _ (t := 2) (by omega))) rfl (by show (0 : Int) + (1 * (k : Int) + 0) = _; omega), trivial⟩
  obtain ⟨rv2, res2, w2, hh, hr2, hp2, hP2, hD2, hT2⟩ := hj (j_c128_11, k_rv [(a1 : Int), (0 : Int), y2.toInt, (2 : Int), y4.toInt, y5.toInt, (k : Int), (rw : Int), (r 0 : Int), (r 2 : Int), v0], j_tg w a1 rw r, j_g0 k 0 0 0 0) j_pm128_11 rfl rfl hpd.1 hpd.2 (j_TW (D := D) I.2.2.1 I.2.1 hS I.2.2.2.2.1 _)
  obtain ⟨he2, -⟩ := hp2
  exact j_rowK hS I1 hS1 he2 (by show ((ct_pros j_c128_11).all fun t => Nat.ble 101 t) = true; decide +kernel) hP2 hT2 ht (k_none_ok (by show k_none (ct_eff j_c128_11) (90 + t) = true; rcases (show t = 0 ∨ t = 1 ∨ t = 3 by omega) with rfl | rfl | rfl <;> decide +kernel) _ _) hf
theorem k_pourC7i03 {k k9 : Nat} {u v : Int} {y1 y2 y3 y4 y5 r9 : Int32} (I : k_In s D dA a1 a2 w H locs) (hS : k_S7 a1 a2 w rw nm r) (I1 : k_In s D dA a1 a2 w' H' locs') (hS1 : k_S7 a1 a2 w' rw nm r) (hj : j_Ex0 s D dA 128 w [.ref a1, .int y1, .int y2, .int y3, .int y4, .int y5] H' [.int r9]) (hy1 : y1.toInt = 0) (hy3 : y3.toInt = 3) (h4 : y4.toInt ≤ (k : Int)) (h5 : (k : Int) < y4.toInt + y5.toInt) (h9 : (k9 : Int) = y2.toInt - y4.toInt + (k : Int)) (hk9 : k9 < 60) (hk : k < 60) (hs9 : k_fn w (r 0) 17 k9 u) (hf : k_fn w (r 3) 17 k v) : ∃ v', k_fn w' (r 3) 17 k v' ∧ ((r9.toInt = 1 ∧ v' = u) ∨ (r9.toInt = 0 ∧ v' = v)) := by
  have hpd := k_preD (ct := j_c128_12) (r := k_rv [(a1 : Int), (0 : Int), y2.toInt, (3 : Int), y4.toInt, y5.toInt, (k : Int), (rw : Int), (r 0 : Int), (r 3 : Int), u, v]) (vals := [.ref a1, .int y1, .int y2, .int y3, .int y4, .int y5]) (w := j_w w a1 rw r (j_g0 k 0 0 0 0)) (by decide +kernel) ⟨(by show (0 : Int) ≤ (0) + ((-1) * y4.toInt + ((1) * (k : Int) + (0))); omega), (by show (0 : Int) ≤ (-1) + ((1) * y4.toInt + ((1) * y5.toInt + ((-1) * (k : Int) + (0)))); omega), (by show (0 : Int) ≤ (0) + ((1) * y2.toInt + ((-1) * y4.toInt + ((1) * (k : Int) + (0)))); omega), (by show (0 : Int) ≤ (59) + ((-1) * y2.toInt + ((1) * y4.toInt + ((-1) * (k : Int) + (0)))); omega), (by show (0 : Int) ≤ (3) + (0); omega), trivial⟩ ⟨k_aR (j_in_a1 hS _ I.2.2.2.2.1), ⟨_, rfl, hy1, Int.le_refl _, Int.le_refl _⟩, k_aI _, ⟨_, rfl, hy3, Int.le_refl _, Int.le_refl _⟩, k_aI _, k_aI _, trivial⟩ ⟨⟨40, rfl, c_gv_id40 (by show (0 : Int) ≤ (k : Int); omega) (by show (k : Int) ≤ 59; omega)⟩, k_fnC (b := 0) (j_fn hS (j_g0 k 0 0 0 0) hS.1 (j_in_a1 hS _ I.2.2.2.2.1)) rfl rfl, k_fnC (b := 7) (j_fn hS (j_g0 k 0 0 0 0) (hS.2.2.1 0 (by omega)).1 (j_in_rw hS _)) rfl (by show (0 : Int) + (1 * (0 : Int) + 0) = _; rfl), k_fnC (b := 7) (j_fn hS (j_g0 k 0 0 0 0) (hS.2.2.1 3 (by omega)).1 (j_in_rw hS _)) rfl (by show (0 : Int) + (1 * (3 : Int) + 0) = _; rfl), k_fnC (b := 8) (j_fn hS (j_g0 k 0 0 0 0) hs9 (j_in_row hS _ (t := 0) (by omega))) rfl (by show (0 : Int) + (1 * y2.toInt + ((-1) * y4.toInt + (1 * (k : Int) + 0))) = _; omega), k_fnC (b := 9) (j_fn hS (j_g0 k 0 0 0 0) hf (j_in_row hS _ (t := 3) (by omega))) rfl (by show (0 : Int) + (1 * (k : Int) + 0) = _; omega), trivial⟩
  obtain ⟨rv2, res2, w2, hh, hr2, hp2, hP2, hD2, hT2⟩ := hj (j_c128_12, k_rv [(a1 : Int), (0 : Int), y2.toInt, (3 : Int), y4.toInt, y5.toInt, (k : Int), (rw : Int), (r 0 : Int), (r 3 : Int), u, v], j_tg w a1 rw r, j_g0 k 0 0 0 0) j_pm128_12 rfl rfl hpd.1 hpd.2 (j_TW (D := D) I.2.2.1 I.2.1 hS I.2.2.2.2.1 _)
  obtain ⟨x9, rfl, rfl, -, -⟩ := hr2
  have hx9 : x9 = r9 := by injection (Option.some.inj hh)
  subst hx9
  obtain ⟨he2, -, d, hd, rr, p1, p2, p3, p4, -⟩ := hp2
  have e1 : rr 1 = (a1 : Int) := p1 1 (by show 1 < c_entryN j_c128_12; decide)
  have e2 : rr 2 = (0 : Int) := p1 2 (by show 2 < c_entryN j_c128_12; decide)
  have e3 : rr 3 = y2.toInt := p1 3 (by show 3 < c_entryN j_c128_12; decide)
  have e4 : rr 4 = (3 : Int) := p1 4 (by show 4 < c_entryN j_c128_12; decide)
  have e5 : rr 5 = y4.toInt := p1 5 (by show 5 < c_entryN j_c128_12; decide)
  have e6 : rr 6 = y5.toInt := p1 6 (by show 6 < c_entryN j_c128_12; decide)
  have e7 : rr 7 = (k : Int) := p1 7 (by show 7 < c_entryN j_c128_12; decide)
  have e8 : rr 8 = (rw : Int) := p1 8 (by show 8 < c_entryN j_c128_12; decide)
  have e9 : rr 9 = (r 0 : Int) := p1 9 (by show 9 < c_entryN j_c128_12; decide)
  have e10 : rr 10 = (r 3 : Int) := p1 10 (by show 10 < c_entryN j_c128_12; decide)
  have e11 : rr 11 = u := p1 11 (by show 11 < c_entryN j_c128_12; decide)
  have e12 : rr 12 = v := p1 12 (by show 12 < c_entryN j_c128_12; decide)
  have er : rr 13 = x9.toInt := p2 0 _ rfl
  have hin2 := k_inK he2 (by show ((ct_pros j_c128_12).all fun t => Nat.ble 101 t) = true; decide +kernel) (by decide) (j_in_row hS (j_g0 k 0 0 0 0) (t := 3) (by omega))
  have hd : d ∈ ct_post j_c128_12 := hd
  simp only [ct_post, j_c128_12, List.mem_cons, List.not_mem_nil, or_false] at hd
  rcases hd with rfl | rfl
  all_goals
    have hc : k_fn w2 (r 3) 93 k (rr 14) := k_fnD (b := 9) (p3 0 _ rfl) e10 (by show (0 : Int) + (1 * rr 7 + 0) = _; rw [e7]; omega) hin2
    simp only [List.forall_mem_cons, c_ev, c_evs, List.not_mem_nil, false_implies, implies_true, and_true, e11, e12, er] at p4
    exact ⟨rr 14, j_back I1.1 hP2 I1.2.2.1 hT2 (hS1.2.2.1 3 (by omega)).2 rfl rfl hc, by omega⟩
theorem k_pourC7l03 {k : Nat} {v : Int} {y1 y2 y3 y4 y5 r9 : Int32} (I : k_In s D dA a1 a2 w H locs) (hS : k_S7 a1 a2 w rw nm r) (I1 : k_In s D dA a1 a2 w' H' locs') (hS1 : k_S7 a1 a2 w' rw nm r) (hj : j_Ex0 s D dA 128 w [.ref a1, .int y1, .int y2, .int y3, .int y4, .int y5] H' [.int r9]) (hy1 : y1.toInt = 0) (hy3 : y3.toInt = 3) (h4 : (k : Int) < y4.toInt) (hk : k < 60) (hf : k_fn w (r 3) 17 k v) : ∃ v', k_fn w' (r 3) 17 k v' ∧ v' = v := by
  have hpd := k_preD (ct := j_c128_13) (r := k_rv [(a1 : Int), (0 : Int), y2.toInt, (3 : Int), y4.toInt, y5.toInt, (k : Int), (rw : Int), (r 0 : Int), (r 3 : Int), v]) (vals := [.ref a1, .int y1, .int y2, .int y3, .int y4, .int y5]) (w := j_w w a1 rw r (j_g0 k 0 0 0 0)) (by decide +kernel) ⟨(by show (0 : Int) ≤ (-1) + ((1) * y4.toInt + ((-1) * (k : Int) + (0))); omega), (by show (0 : Int) ≤ (3) + (0); omega), trivial⟩ ⟨k_aR (j_in_a1 hS _ I.2.2.2.2.1), ⟨_, rfl, hy1, Int.le_refl _, Int.le_refl _⟩, k_aI _, ⟨_, rfl, hy3, Int.le_refl _, Int.le_refl _⟩, k_aI _, k_aI _, trivial⟩ ⟨⟨40, rfl, c_gv_id40 (by show (0 : Int) ≤ (k : Int); omega) (by show (k : Int) ≤ 59; omega)⟩, k_fnC (b := 0) (j_fn hS (j_g0 k 0 0 0 0) hS.1 (j_in_a1 hS _ I.2.2.2.2.1)) rfl rfl, k_fnC (b := 7) (j_fn hS (j_g0 k 0 0 0 0) (hS.2.2.1 0 (by omega)).1 (j_in_rw hS _)) rfl (by show (0 : Int) + (1 * (0 : Int) + 0) = _; rfl), k_fnC (b := 7) (j_fn hS (j_g0 k 0 0 0 0) (hS.2.2.1 3 (by omega)).1 (j_in_rw hS _)) rfl (by show (0 : Int) + (1 * (3 : Int) + 0) = _; rfl), k_fnC (b := 9) (j_fn hS (j_g0 k 0 0 0 0) hf (j_in_row hS _ (t := 3) (by omega))) rfl (by show (0 : Int) + (1 * (k : Int) + 0) = _; omega), trivial⟩
  obtain ⟨rv2, res2, w2, hh, hr2, hp2, hP2, hD2, hT2⟩ := hj (j_c128_13, k_rv [(a1 : Int), (0 : Int), y2.toInt, (3 : Int), y4.toInt, y5.toInt, (k : Int), (rw : Int), (r 0 : Int), (r 3 : Int), v], j_tg w a1 rw r, j_g0 k 0 0 0 0) j_pm128_13 rfl rfl hpd.1 hpd.2 (j_TW (D := D) I.2.2.1 I.2.1 hS I.2.2.2.2.1 _)
  obtain ⟨x9, rfl, rfl, -, -⟩ := hr2
  have hx9 : x9 = r9 := by injection (Option.some.inj hh)
  subst hx9
  obtain ⟨he2, -, d, hd, rr, p1, p2, p3, p4, -⟩ := hp2
  have e1 : rr 1 = (a1 : Int) := p1 1 (by show 1 < c_entryN j_c128_13; decide)
  have e2 : rr 2 = (0 : Int) := p1 2 (by show 2 < c_entryN j_c128_13; decide)
  have e3 : rr 3 = y2.toInt := p1 3 (by show 3 < c_entryN j_c128_13; decide)
  have e4 : rr 4 = (3 : Int) := p1 4 (by show 4 < c_entryN j_c128_13; decide)
  have e5 : rr 5 = y4.toInt := p1 5 (by show 5 < c_entryN j_c128_13; decide)
  have e6 : rr 6 = y5.toInt := p1 6 (by show 6 < c_entryN j_c128_13; decide)
  have e7 : rr 7 = (k : Int) := p1 7 (by show 7 < c_entryN j_c128_13; decide)
  have e8 : rr 8 = (rw : Int) := p1 8 (by show 8 < c_entryN j_c128_13; decide)
  have e9 : rr 9 = (r 0 : Int) := p1 9 (by show 9 < c_entryN j_c128_13; decide)
  have e10 : rr 10 = (r 3 : Int) := p1 10 (by show 10 < c_entryN j_c128_13; decide)
  have e11 : rr 11 = v := p1 11 (by show 11 < c_entryN j_c128_13; decide)
  have er : rr 12 = x9.toInt := p2 0 _ rfl
  have hin2 := k_inK he2 (by show ((ct_pros j_c128_13).all fun t => Nat.ble 101 t) = true; decide +kernel) (by decide) (j_in_row hS (j_g0 k 0 0 0 0) (t := 3) (by omega))
  have hd : d ∈ ct_post j_c128_13 := hd
  simp only [ct_post, j_c128_13, List.mem_cons, List.not_mem_nil, or_false] at hd
  subst hd
  have hc : k_fn w2 (r 3) 93 k (rr 13) := k_fnD (b := 9) (p3 0 _ rfl) e10 (by show (0 : Int) + (1 * rr 7 + 0) = _; rw [e7]; omega) hin2
  simp only [List.forall_mem_cons, c_ev, c_evs, List.not_mem_nil, false_implies, implies_true, and_true, e11, er] at p4
  exact ⟨rr 13, j_back I1.1 hP2 I1.2.2.1 hT2 (hS1.2.2.1 3 (by omega)).2 rfl rfl hc, by omega⟩
theorem k_pourC7g03 {k : Nat} {v : Int} {y1 y2 y3 y4 y5 r9 : Int32} (I : k_In s D dA a1 a2 w H locs) (hS : k_S7 a1 a2 w rw nm r) (I1 : k_In s D dA a1 a2 w' H' locs') (hS1 : k_S7 a1 a2 w' rw nm r) (hj : j_Ex0 s D dA 128 w [.ref a1, .int y1, .int y2, .int y3, .int y4, .int y5] H' [.int r9]) (hy1 : y1.toInt = 0) (hy3 : y3.toInt = 3) (h4 : y4.toInt + y5.toInt ≤ (k : Int)) (hk : k < 60) (hf : k_fn w (r 3) 17 k v) : ∃ v', k_fn w' (r 3) 17 k v' ∧ v' = v := by
  have hpd := k_preD (ct := j_c128_14) (r := k_rv [(a1 : Int), (0 : Int), y2.toInt, (3 : Int), y4.toInt, y5.toInt, (k : Int), (rw : Int), (r 0 : Int), (r 3 : Int), v]) (vals := [.ref a1, .int y1, .int y2, .int y3, .int y4, .int y5]) (w := j_w w a1 rw r (j_g0 k 0 0 0 0)) (by decide +kernel) ⟨(by show (0 : Int) ≤ (0) + ((-1) * y4.toInt + ((-1) * y5.toInt + ((1) * (k : Int) + (0)))); omega), (by show (0 : Int) ≤ (3) + (0); omega), trivial⟩ ⟨k_aR (j_in_a1 hS _ I.2.2.2.2.1), ⟨_, rfl, hy1, Int.le_refl _, Int.le_refl _⟩, k_aI _, ⟨_, rfl, hy3, Int.le_refl _, Int.le_refl _⟩, k_aI _, k_aI _, trivial⟩ ⟨⟨40, rfl, c_gv_id40 (by show (0 : Int) ≤ (k : Int); omega) (by show (k : Int) ≤ 59; omega)⟩, k_fnC (b := 0) (j_fn hS (j_g0 k 0 0 0 0) hS.1 (j_in_a1 hS _ I.2.2.2.2.1)) rfl rfl, k_fnC (b := 7) (j_fn hS (j_g0 k 0 0 0 0) (hS.2.2.1 0 (by omega)).1 (j_in_rw hS _)) rfl (by show (0 : Int) + (1 * (0 : Int) + 0) = _; rfl), k_fnC (b := 7) (j_fn hS (j_g0 k 0 0 0 0) (hS.2.2.1 3 (by omega)).1 (j_in_rw hS _)) rfl (by show (0 : Int) + (1 * (3 : Int) + 0) = _; rfl), k_fnC (b := 9) (j_fn hS (j_g0 k 0 0 0 0) hf (j_in_row hS _ (t := 3) (by omega))) rfl (by show (0 : Int) + (1 * (k : Int) + 0) = _; omega), trivial⟩
  obtain ⟨rv2, res2, w2, hh, hr2, hp2, hP2, hD2, hT2⟩ := hj (j_c128_14, k_rv [(a1 : Int), (0 : Int), y2.toInt, (3 : Int), y4.toInt, y5.toInt, (k : Int), (rw : Int), (r 0 : Int), (r 3 : Int), v], j_tg w a1 rw r, j_g0 k 0 0 0 0) j_pm128_14 rfl rfl hpd.1 hpd.2 (j_TW (D := D) I.2.2.1 I.2.1 hS I.2.2.2.2.1 _)
  obtain ⟨x9, rfl, rfl, -, -⟩ := hr2
  have hx9 : x9 = r9 := by injection (Option.some.inj hh)
  subst hx9
  obtain ⟨he2, -, d, hd, rr, p1, p2, p3, p4, -⟩ := hp2
  have e1 : rr 1 = (a1 : Int) := p1 1 (by show 1 < c_entryN j_c128_14; decide)
  have e2 : rr 2 = (0 : Int) := p1 2 (by show 2 < c_entryN j_c128_14; decide)
  have e3 : rr 3 = y2.toInt := p1 3 (by show 3 < c_entryN j_c128_14; decide)
  have e4 : rr 4 = (3 : Int) := p1 4 (by show 4 < c_entryN j_c128_14; decide)
  have e5 : rr 5 = y4.toInt := p1 5 (by show 5 < c_entryN j_c128_14; decide)
  have e6 : rr 6 = y5.toInt := p1 6 (by show 6 < c_entryN j_c128_14; decide)
  have e7 : rr 7 = (k : Int) := p1 7 (by show 7 < c_entryN j_c128_14; decide)
  have e8 : rr 8 = (rw : Int) := p1 8 (by show 8 < c_entryN j_c128_14; decide)
  have e9 : rr 9 = (r 0 : Int) := p1 9 (by show 9 < c_entryN j_c128_14; decide)
  have e10 : rr 10 = (r 3 : Int) := p1 10 (by show 10 < c_entryN j_c128_14; decide)
  have e11 : rr 11 = v := p1 11 (by show 11 < c_entryN j_c128_14; decide)
  have er : rr 12 = x9.toInt := p2 0 _ rfl
  have hin2 := k_inK he2 (by show ((ct_pros j_c128_14).all fun t => Nat.ble 101 t) = true; decide +kernel) (by decide) (j_in_row hS (j_g0 k 0 0 0 0) (t := 3) (by omega))
  have hd : d ∈ ct_post j_c128_14 := hd
  simp only [ct_post, j_c128_14, List.mem_cons, List.not_mem_nil, or_false] at hd
  subst hd
  have hc : k_fn w2 (r 3) 93 k (rr 13) := k_fnD (b := 9) (p3 0 _ rfl) e10 (by show (0 : Int) + (1 * rr 7 + 0) = _; rw [e7]; omega) hin2
  simp only [List.forall_mem_cons, c_ev, c_evs, List.not_mem_nil, false_implies, implies_true, and_true, e11, er] at p4
  exact ⟨rr 13, j_back I1.1 hP2 I1.2.2.1 hT2 (hS1.2.2.1 3 (by omega)).2 rfl rfl hc, by omega⟩
theorem k_pourC7r03 {k : Nat} {v : Int} {y1 y2 y3 y4 y5 r9 : Int32} (I : k_In s D dA a1 a2 w H locs) (hS : k_S7 a1 a2 w rw nm r) (I1 : k_In s D dA a1 a2 w' H' locs') (hS1 : k_S7 a1 a2 w' rw nm r) (hj : j_Ex0 s D dA 128 w [.ref a1, .int y1, .int y2, .int y3, .int y4, .int y5] H' [.int r9]) (hy1 : y1.toInt = 0) (hy3 : y3.toInt = 3) (h0 : r9.toInt = 0) (hk : k < 60) (hf : k_fn w (r 3) 17 k v) : k_fn w' (r 3) 17 k v := by
  have hpd := k_preD (ct := j_c128_15) (r := k_rv [(a1 : Int), (0 : Int), y2.toInt, (3 : Int), y4.toInt, y5.toInt, (k : Int), (rw : Int), (r 0 : Int), (r 3 : Int), v]) (vals := [.ref a1, .int y1, .int y2, .int y3, .int y4, .int y5]) (w := j_w w a1 rw r (j_g0 k 0 0 0 0)) (by decide +kernel) ⟨(by show (0 : Int) ≤ (3) + (0); omega), trivial⟩ ⟨k_aR (j_in_a1 hS _ I.2.2.2.2.1), ⟨_, rfl, hy1, Int.le_refl _, Int.le_refl _⟩, k_aI _, ⟨_, rfl, hy3, Int.le_refl _, Int.le_refl _⟩, k_aI _, k_aI _, trivial⟩ ⟨⟨40, rfl, c_gv_id40 (by show (0 : Int) ≤ (k : Int); omega) (by show (k : Int) ≤ 59; omega)⟩, k_fnC (b := 0) (j_fn hS (j_g0 k 0 0 0 0) hS.1 (j_in_a1 hS _ I.2.2.2.2.1)) rfl rfl, k_fnC (b := 7) (j_fn hS (j_g0 k 0 0 0 0) (hS.2.2.1 0 (by omega)).1 (j_in_rw hS _)) rfl (by show (0 : Int) + (1 * (0 : Int) + 0) = _; rfl), k_fnC (b := 7) (j_fn hS (j_g0 k 0 0 0 0) (hS.2.2.1 3 (by omega)).1 (j_in_rw hS _)) rfl (by show (0 : Int) + (1 * (3 : Int) + 0) = _; rfl), k_fnC (b := 9) (j_fn hS (j_g0 k 0 0 0 0) hf (j_in_row hS _ (t := 3) (by omega))) rfl (by show (0 : Int) + (1 * (k : Int) + 0) = _; omega), trivial⟩
  obtain ⟨rv2, res2, w2, hh, hr2, hp2, hP2, hD2, hT2⟩ := hj (j_c128_15, k_rv [(a1 : Int), (0 : Int), y2.toInt, (3 : Int), y4.toInt, y5.toInt, (k : Int), (rw : Int), (r 0 : Int), (r 3 : Int), v], j_tg w a1 rw r, j_g0 k 0 0 0 0) j_pm128_15 rfl rfl hpd.1 hpd.2 (j_TW (D := D) I.2.2.1 I.2.1 hS I.2.2.2.2.1 _)
  obtain ⟨x9, rfl, rfl, -, -⟩ := hr2
  have hx9 : x9 = r9 := by injection (Option.some.inj hh)
  subst hx9
  obtain ⟨he2, -, d, hd, rr, p1, p2, p3, p4, -⟩ := hp2
  have e1 : rr 1 = (a1 : Int) := p1 1 (by show 1 < c_entryN j_c128_15; decide)
  have e2 : rr 2 = (0 : Int) := p1 2 (by show 2 < c_entryN j_c128_15; decide)
  have e3 : rr 3 = y2.toInt := p1 3 (by show 3 < c_entryN j_c128_15; decide)
  have e4 : rr 4 = (3 : Int) := p1 4 (by show 4 < c_entryN j_c128_15; decide)
  have e5 : rr 5 = y4.toInt := p1 5 (by show 5 < c_entryN j_c128_15; decide)
  have e6 : rr 6 = y5.toInt := p1 6 (by show 6 < c_entryN j_c128_15; decide)
  have e7 : rr 7 = (k : Int) := p1 7 (by show 7 < c_entryN j_c128_15; decide)
  have e8 : rr 8 = (rw : Int) := p1 8 (by show 8 < c_entryN j_c128_15; decide)
  have e9 : rr 9 = (r 0 : Int) := p1 9 (by show 9 < c_entryN j_c128_15; decide)
  have e10 : rr 10 = (r 3 : Int) := p1 10 (by show 10 < c_entryN j_c128_15; decide)
  have e11 : rr 11 = v := p1 11 (by show 11 < c_entryN j_c128_15; decide)
  have er : rr 12 = x9.toInt := p2 0 _ rfl
  have hin2 := k_inK he2 (by show ((ct_pros j_c128_15).all fun t => Nat.ble 101 t) = true; decide +kernel) (by decide) (j_in_row hS (j_g0 k 0 0 0 0) (t := 3) (by omega))
  have hd : d ∈ ct_post j_c128_15 := hd
  simp only [ct_post, j_c128_15, List.mem_cons, List.not_mem_nil, or_false] at hd
  rcases hd with rfl | rfl
  · have hc : k_fn w2 (r 3) 93 k (rr 13) := k_fnD (b := 9) (p3 0 _ rfl) e10 (by show (0 : Int) + (1 * rr 7 + 0) = _; rw [e7]; omega) hin2
    simp only [List.forall_mem_cons, c_ev, c_evs, List.not_mem_nil, false_implies, implies_true, and_true, e11, er] at p4
    have hv : rr 13 = v := by omega
    rw [hv] at hc
    exact j_back I1.1 hP2 I1.2.2.1 hT2 (hS1.2.2.1 3 (by omega)).2 rfl rfl hc
  · simp only [List.forall_mem_cons, c_ev, c_evs, List.not_mem_nil, false_implies, implies_true, and_true, er] at p4
    omega
theorem k_pourC7o03 {k t : Nat} {v v0 : Int} {y1 y2 y3 y4 y5 r9 : Int32} (I : k_In s D dA a1 a2 w H locs) (hS : k_S7 a1 a2 w rw nm r) (I1 : k_In s D dA a1 a2 w' H' locs') (hS1 : k_S7 a1 a2 w' rw nm r) (hj : j_Ex0 s D dA 128 w [.ref a1, .int y1, .int y2, .int y3, .int y4, .int y5] H' [.int r9]) (hy1 : y1.toInt = 0) (hy3 : y3.toInt = 3) (ht : t < 4) (hne : t ≠ 3) (hk : k < 60) (hf0 : k_fn w (r 3) 17 k v0) (hf : k_fn w (r t) 17 k v) : k_fn w' (r t) 17 k v := by
  have hpd := k_preD (ct := j_c128_15) (r := k_rv [(a1 : Int), (0 : Int), y2.toInt, (3 : Int), y4.toInt, y5.toInt, (k : Int), (rw : Int), (r 0 : Int), (r 3 : Int), v0]) (vals := [.ref a1, .int y1, .int y2, .int y3, .int y4, .int y5]) (w := j_w w a1 rw r (j_g0 k 0 0 0 0)) (by decide +kernel) ⟨(by show (0 : Int) ≤ (3) + (0); omega), trivial⟩ ⟨k_aR (j_in_a1 hS _ I.2.2.2.2.1), ⟨_, rfl, hy1, Int.le_refl _, Int.le_refl _⟩, k_aI _, ⟨_, rfl, hy3, Int.le_refl _, Int.le_refl _⟩, k_aI _, k_aI _, trivial⟩ ⟨⟨40, rfl, c_gv_id40 (by show (0 : Int) ≤ (k : Int); omega) (by show (k : Int) ≤ 59; omega)⟩, k_fnC (b := 0) (j_fn hS (j_g0 k 0 0 0 0) hS.1 (j_in_a1 hS _ I.2.2.2.2.1)) rfl rfl, k_fnC (b := 7) (j_fn hS (j_g0 k 0 0 0 0) (hS.2.2.1 0 (by omega)).1 (j_in_rw hS _)) rfl (by show (0 : Int) + (1 * (0 : Int) + 0) = _; rfl), k_fnC (b := 7) (j_fn hS (j_g0 k 0 0 0 0) (hS.2.2.1 3 (by omega)).1 (j_in_rw hS _)) rfl (by show (0 : Int) + (1 * (3 : Int) + 0) = _; rfl), k_fnC (b := 9) (j_fn hS (j_g0 k 0 0 0 0) hf0 (j_in_row hS _ (t := 3) (by omega))) rfl (by show (0 : Int) + (1 * (k : Int) + 0) = _; omega), trivial⟩
  obtain ⟨rv2, res2, w2, hh, hr2, hp2, hP2, hD2, hT2⟩ := hj (j_c128_15, k_rv [(a1 : Int), (0 : Int), y2.toInt, (3 : Int), y4.toInt, y5.toInt, (k : Int), (rw : Int), (r 0 : Int), (r 3 : Int), v0], j_tg w a1 rw r, j_g0 k 0 0 0 0) j_pm128_15 rfl rfl hpd.1 hpd.2 (j_TW (D := D) I.2.2.1 I.2.1 hS I.2.2.2.2.1 _)
  obtain ⟨he2, -⟩ := hp2
  exact j_rowK hS I1 hS1 he2 (by show ((ct_pros j_c128_15).all fun t => Nat.ble 101 t) = true; decide +kernel) hP2 hT2 ht (k_none_ok (by show k_none (ct_eff j_c128_15) (90 + t) = true; rcases (show t = 0 ∨ t = 1 ∨ t = 2 by omega) with rfl | rfl | rfl <;> decide +kernel) _ _) hf
theorem k_pourC7i10 {k k9 : Nat} {u v : Int} {y1 y2 y3 y4 y5 r9 : Int32} (I : k_In s D dA a1 a2 w H locs) (hS : k_S7 a1 a2 w rw nm r) (I1 : k_In s D dA a1 a2 w' H' locs') (hS1 : k_S7 a1 a2 w' rw nm r) (hj : j_Ex0 s D dA 128 w [.ref a1, .int y1, .int y2, .int y3, .int y4, .int y5] H' [.int r9]) (hy1 : y1.toInt = 1) (hy3 : y3.toInt = 0) (h4 : y4.toInt ≤ (k : Int)) (h5 : (k : Int) < y4.toInt + y5.toInt) (h9 : (k9 : Int) = y2.toInt - y4.toInt + (k : Int)) (hk9 : k9 < 60) (hk : k < 60) (hs9 : k_fn w (r 1) 17 k9 u) (hf : k_fn w (r 0) 17 k v) : ∃ v', k_fn w' (r 0) 17 k v' ∧ ((r9.toInt = 1 ∧ v' = u) ∨ (r9.toInt = 0 ∧ v' = v)) := by
  have hpd := k_preD (ct := j_c128_16) (r := k_rv [(a1 : Int), (1 : Int), y2.toInt, (0 : Int), y4.toInt, y5.toInt, (k : Int), (rw : Int), (r 1 : Int), (r 0 : Int), u, v]) (vals := [.ref a1, .int y1, .int y2, .int y3, .int y4, .int y5]) (w := j_w w a1 rw r (j_g0 k 0 0 0 0)) (by decide +kernel) ⟨(by show (0 : Int) ≤ (0) + ((-1) * y4.toInt + ((1) * (k : Int) + (0))); omega), (by show (0 : Int) ≤ (-1) + ((1) * y4.toInt + ((1) * y5.toInt + ((-1) * (k : Int) + (0)))); omega), (by show (0 : Int) ≤ (0) + ((1) * y2.toInt + ((-1) * y4.toInt + ((1) * (k : Int) + (0)))); omega), (by show (0 : Int) ≤ (59) + ((-1) * y2.toInt + ((1) * y4.toInt + ((-1) * (k : Int) + (0)))); omega), (by show (0 : Int) ≤ (3) + (0); omega), trivial⟩ ⟨k_aR (j_in_a1 hS _ I.2.2.2.2.1), ⟨_, rfl, hy1, Int.le_refl _, Int.le_refl _⟩, k_aI _, ⟨_, rfl, hy3, Int.le_refl _, Int.le_refl _⟩, k_aI _, k_aI _, trivial⟩ ⟨⟨40, rfl, c_gv_id40 (by show (0 : Int) ≤ (k : Int); omega) (by show (k : Int) ≤ 59; omega)⟩, k_fnC (b := 0) (j_fn hS (j_g0 k 0 0 0 0) hS.1 (j_in_a1 hS _ I.2.2.2.2.1)) rfl rfl, k_fnC (b := 7) (j_fn hS (j_g0 k 0 0 0 0) (hS.2.2.1 1 (by omega)).1 (j_in_rw hS _)) rfl (by show (0 : Int) + (1 * (1 : Int) + 0) = _; rfl), k_fnC (b := 7) (j_fn hS (j_g0 k 0 0 0 0) (hS.2.2.1 0 (by omega)).1 (j_in_rw hS _)) rfl (by show (0 : Int) + (1 * (0 : Int) + 0) = _; rfl), k_fnC (b := 8) (j_fn hS (j_g0 k 0 0 0 0) hs9 (j_in_row hS _ (t := 1) (by omega))) rfl (by show (0 : Int) + (1 * y2.toInt + ((-1) * y4.toInt + (1 * (k : Int) + 0))) = _; omega), k_fnC (b := 9) (j_fn hS (j_g0 k 0 0 0 0) hf (j_in_row hS _ (t := 0) (by omega))) rfl (by show (0 : Int) + (1 * (k : Int) + 0) = _; omega), trivial⟩
  obtain ⟨rv2, res2, w2, hh, hr2, hp2, hP2, hD2, hT2⟩ := hj (j_c128_16, k_rv [(a1 : Int), (1 : Int), y2.toInt, (0 : Int), y4.toInt, y5.toInt, (k : Int), (rw : Int), (r 1 : Int), (r 0 : Int), u, v], j_tg w a1 rw r, j_g0 k 0 0 0 0) j_pm128_16 rfl rfl hpd.1 hpd.2 (j_TW (D := D) I.2.2.1 I.2.1 hS I.2.2.2.2.1 _)
  obtain ⟨x9, rfl, rfl, -, -⟩ := hr2
  have hx9 : x9 = r9 := by injection (Option.some.inj hh)
  subst hx9
  obtain ⟨he2, -, d, hd, rr, p1, p2, p3, p4, -⟩ := hp2
  have e1 : rr 1 = (a1 : Int) := p1 1 (by show 1 < c_entryN j_c128_16; decide)
  have e2 : rr 2 = (1 : Int) := p1 2 (by show 2 < c_entryN j_c128_16; decide)
  have e3 : rr 3 = y2.toInt := p1 3 (by show 3 < c_entryN j_c128_16; decide)
  have e4 : rr 4 = (0 : Int) := p1 4 (by show 4 < c_entryN j_c128_16; decide)
  have e5 : rr 5 = y4.toInt := p1 5 (by show 5 < c_entryN j_c128_16; decide)
  have e6 : rr 6 = y5.toInt := p1 6 (by show 6 < c_entryN j_c128_16; decide)
  have e7 : rr 7 = (k : Int) := p1 7 (by show 7 < c_entryN j_c128_16; decide)
  have e8 : rr 8 = (rw : Int) := p1 8 (by show 8 < c_entryN j_c128_16; decide)
  have e9 : rr 9 = (r 1 : Int) := p1 9 (by show 9 < c_entryN j_c128_16; decide)
  have e10 : rr 10 = (r 0 : Int) := p1 10 (by show 10 < c_entryN j_c128_16; decide)
  have e11 : rr 11 = u := p1 11 (by show 11 < c_entryN j_c128_16; decide)
  have e12 : rr 12 = v := p1 12 (by show 12 < c_entryN j_c128_16; decide)
  have er : rr 13 = x9.toInt := p2 0 _ rfl
  have hin2 := k_inK he2 (by show ((ct_pros j_c128_16).all fun t => Nat.ble 101 t) = true; decide +kernel) (by decide) (j_in_row hS (j_g0 k 0 0 0 0) (t := 0) (by omega))
  have hd : d ∈ ct_post j_c128_16 := hd
  simp only [ct_post, j_c128_16, List.mem_cons, List.not_mem_nil, or_false] at hd
  rcases hd with rfl | rfl
  all_goals
    have hc : k_fn w2 (r 0) 90 k (rr 14) := k_fnD (b := 9) (p3 0 _ rfl) e10 (by show (0 : Int) + (1 * rr 7 + 0) = _; rw [e7]; omega) hin2
    simp only [List.forall_mem_cons, c_ev, c_evs, List.not_mem_nil, false_implies, implies_true, and_true, e11, e12, er] at p4
    exact ⟨rr 14, j_back I1.1 hP2 I1.2.2.1 hT2 (hS1.2.2.1 0 (by omega)).2 rfl rfl hc, by omega⟩
theorem k_pourC7l10 {k : Nat} {v : Int} {y1 y2 y3 y4 y5 r9 : Int32} (I : k_In s D dA a1 a2 w H locs) (hS : k_S7 a1 a2 w rw nm r) (I1 : k_In s D dA a1 a2 w' H' locs') (hS1 : k_S7 a1 a2 w' rw nm r) (hj : j_Ex0 s D dA 128 w [.ref a1, .int y1, .int y2, .int y3, .int y4, .int y5] H' [.int r9]) (hy1 : y1.toInt = 1) (hy3 : y3.toInt = 0) (h4 : (k : Int) < y4.toInt) (hk : k < 60) (hf : k_fn w (r 0) 17 k v) : ∃ v', k_fn w' (r 0) 17 k v' ∧ v' = v := by
  have hpd := k_preD (ct := j_c128_17) (r := k_rv [(a1 : Int), (1 : Int), y2.toInt, (0 : Int), y4.toInt, y5.toInt, (k : Int), (rw : Int), (r 1 : Int), (r 0 : Int), v]) (vals := [.ref a1, .int y1, .int y2, .int y3, .int y4, .int y5]) (w := j_w w a1 rw r (j_g0 k 0 0 0 0)) (by decide +kernel) ⟨(by show (0 : Int) ≤ (-1) + ((1) * y4.toInt + ((-1) * (k : Int) + (0))); omega), (by show (0 : Int) ≤ (3) + (0); omega), trivial⟩ ⟨k_aR (j_in_a1 hS _ I.2.2.2.2.1), ⟨_, rfl, hy1, Int.le_refl _, Int.le_refl _⟩, k_aI _, ⟨_, rfl, hy3, Int.le_refl _, Int.le_refl _⟩, k_aI _, k_aI _, trivial⟩ ⟨⟨40, rfl, c_gv_id40 (by show (0 : Int) ≤ (k : Int); omega) (by show (k : Int) ≤ 59; omega)⟩, k_fnC (b := 0) (j_fn hS (j_g0 k 0 0 0 0) hS.1 (j_in_a1 hS _ I.2.2.2.2.1)) rfl rfl, k_fnC (b := 7) (j_fn hS (j_g0 k 0 0 0 0) (hS.2.2.1 1 (by omega)).1 (j_in_rw hS _)) rfl (by show (0 : Int) + (1 * (1 : Int) + 0) = _; rfl), k_fnC (b := 7) (j_fn hS (j_g0 k 0 0 0 0) (hS.2.2.1 0 (by omega)).1 (j_in_rw hS _)) rfl (by show (0 : Int) + (1 * (0 : Int) + 0) = _; rfl), k_fnC (b := 9) (j_fn hS (j_g0 k 0 0 0 0) hf (j_in_row hS _ (t := 0) (by omega))) rfl (by show (0 : Int) + (1 * (k : Int) + 0) = _; omega), trivial⟩
  obtain ⟨rv2, res2, w2, hh, hr2, hp2, hP2, hD2, hT2⟩ := hj (j_c128_17, k_rv [(a1 : Int), (1 : Int), y2.toInt, (0 : Int), y4.toInt, y5.toInt, (k : Int), (rw : Int), (r 1 : Int), (r 0 : Int), v], j_tg w a1 rw r, j_g0 k 0 0 0 0) j_pm128_17 rfl rfl hpd.1 hpd.2 (j_TW (D := D) I.2.2.1 I.2.1 hS I.2.2.2.2.1 _)
  obtain ⟨x9, rfl, rfl, -, -⟩ := hr2
  have hx9 : x9 = r9 := by injection (Option.some.inj hh)
  subst hx9
  obtain ⟨he2, -, d, hd, rr, p1, p2, p3, p4, -⟩ := hp2
  have e1 : rr 1 = (a1 : Int) := p1 1 (by show 1 < c_entryN j_c128_17; decide)
  have e2 : rr 2 = (1 : Int) := p1 2 (by show 2 < c_entryN j_c128_17; decide)
  have e3 : rr 3 = y2.toInt := p1 3 (by show 3 < c_entryN j_c128_17; decide)
  have e4 : rr 4 = (0 : Int) := p1 4 (by show 4 < c_entryN j_c128_17; decide)
  have e5 : rr 5 = y4.toInt := p1 5 (by show 5 < c_entryN j_c128_17; decide)
  have e6 : rr 6 = y5.toInt := p1 6 (by show 6 < c_entryN j_c128_17; decide)
  have e7 : rr 7 = (k : Int) := p1 7 (by show 7 < c_entryN j_c128_17; decide)
  have e8 : rr 8 = (rw : Int) := p1 8 (by show 8 < c_entryN j_c128_17; decide)
  have e9 : rr 9 = (r 1 : Int) := p1 9 (by show 9 < c_entryN j_c128_17; decide)
  have e10 : rr 10 = (r 0 : Int) := p1 10 (by show 10 < c_entryN j_c128_17; decide)
  have e11 : rr 11 = v := p1 11 (by show 11 < c_entryN j_c128_17; decide)
  have er : rr 12 = x9.toInt := p2 0 _ rfl
  have hin2 := k_inK he2 (by show ((ct_pros j_c128_17).all fun t => Nat.ble 101 t) = true; decide +kernel) (by decide) (j_in_row hS (j_g0 k 0 0 0 0) (t := 0) (by omega))
  have hd : d ∈ ct_post j_c128_17 := hd
  simp only [ct_post, j_c128_17, List.mem_cons, List.not_mem_nil, or_false] at hd
  subst hd
  have hc : k_fn w2 (r 0) 90 k (rr 13) := k_fnD (b := 9) (p3 0 _ rfl) e10 (by show (0 : Int) + (1 * rr 7 + 0) = _; rw [e7]; omega) hin2
  simp only [List.forall_mem_cons, c_ev, c_evs, List.not_mem_nil, false_implies, implies_true, and_true, e11, er] at p4
  exact ⟨rr 13, j_back I1.1 hP2 I1.2.2.1 hT2 (hS1.2.2.1 0 (by omega)).2 rfl rfl hc, by omega⟩
theorem k_pourC7g10 {k : Nat} {v : Int} {y1 y2 y3 y4 y5 r9 : Int32} (I : k_In s D dA a1 a2 w H locs) (hS : k_S7 a1 a2 w rw nm r) (I1 : k_In s D dA a1 a2 w' H' locs') (hS1 : k_S7 a1 a2 w' rw nm r) (hj : j_Ex0 s D dA 128 w [.ref a1, .int y1, .int y2, .int y3, .int y4, .int y5] H' [.int r9]) (hy1 : y1.toInt = 1) (hy3 : y3.toInt = 0) (h4 : y4.toInt + y5.toInt ≤ (k : Int)) (hk : k < 60) (hf : k_fn w (r 0) 17 k v) : ∃ v', k_fn w' (r 0) 17 k v' ∧ v' = v := by
  have hpd := k_preD (ct := j_c128_18) (r := k_rv [(a1 : Int), (1 : Int), y2.toInt, (0 : Int), y4.toInt, y5.toInt, (k : Int), (rw : Int), (r 1 : Int), (r 0 : Int), v]) (vals := [.ref a1, .int y1, .int y2, .int y3, .int y4, .int y5]) (w := j_w w a1 rw r (j_g0 k 0 0 0 0)) (by decide +kernel) ⟨(by show (0 : Int) ≤ (0) + ((-1) * y4.toInt + ((-1) * y5.toInt + ((1) * (k : Int) + (0)))); omega), (by show (0 : Int) ≤ (3) + (0); omega), trivial⟩ ⟨k_aR (j_in_a1 hS _ I.2.2.2.2.1), ⟨_, rfl, hy1, Int.le_refl _, Int.le_refl _⟩, k_aI _, ⟨_, rfl, hy3, Int.le_refl _, Int.le_refl _⟩, k_aI _, k_aI _, trivial⟩ ⟨⟨40, rfl, c_gv_id40 (by show (0 : Int) ≤ (k : Int); omega) (by show (k : Int) ≤ 59; omega)⟩, k_fnC (b := 0) (j_fn hS (j_g0 k 0 0 0 0) hS.1 (j_in_a1 hS _ I.2.2.2.2.1)) rfl rfl, k_fnC (b := 7) (j_fn hS (j_g0 k 0 0 0 0) (hS.2.2.1 1 (by omega)).1 (j_in_rw hS _)) rfl (by show (0 : Int) + (1 * (1 : Int) + 0) = _; rfl), k_fnC (b := 7) (j_fn hS (j_g0 k 0 0 0 0) (hS.2.2.1 0 (by omega)).1 (j_in_rw hS _)) rfl (by show (0 : Int) + (1 * (0 : Int) + 0) = _; rfl), k_fnC (b := 9) (j_fn hS (j_g0 k 0 0 0 0) hf (j_in_row hS _ (t := 0) (by omega))) rfl (by show (0 : Int) + (1 * (k : Int) + 0) = _; omega), trivial⟩
  obtain ⟨rv2, res2, w2, hh, hr2, hp2, hP2, hD2, hT2⟩ := hj (j_c128_18, k_rv [(a1 : Int), (1 : Int), y2.toInt, (0 : Int), y4.toInt, y5.toInt, (k : Int), (rw : Int), (r 1 : Int), (r 0 : Int), v], j_tg w a1 rw r, j_g0 k 0 0 0 0) j_pm128_18 rfl rfl hpd.1 hpd.2 (j_TW (D := D) I.2.2.1 I.2.1 hS I.2.2.2.2.1 _)
  obtain ⟨x9, rfl, rfl, -, -⟩ := hr2
  have hx9 : x9 = r9 := by injection (Option.some.inj hh)
  subst hx9
  obtain ⟨he2, -, d, hd, rr, p1, p2, p3, p4, -⟩ := hp2
  have e1 : rr 1 = (a1 : Int) := p1 1 (by show 1 < c_entryN j_c128_18; decide)
  have e2 : rr 2 = (1 : Int) := p1 2 (by show 2 < c_entryN j_c128_18; decide)
  have e3 : rr 3 = y2.toInt := p1 3 (by show 3 < c_entryN j_c128_18; decide)
  have e4 : rr 4 = (0 : Int) := p1 4 (by show 4 < c_entryN j_c128_18; decide)
  have e5 : rr 5 = y4.toInt := p1 5 (by show 5 < c_entryN j_c128_18; decide)
  have e6 : rr 6 = y5.toInt := p1 6 (by show 6 < c_entryN j_c128_18; decide)
  have e7 : rr 7 = (k : Int) := p1 7 (by show 7 < c_entryN j_c128_18; decide)
  have e8 : rr 8 = (rw : Int) := p1 8 (by show 8 < c_entryN j_c128_18; decide)
  have e9 : rr 9 = (r 1 : Int) := p1 9 (by show 9 < c_entryN j_c128_18; decide)
  have e10 : rr 10 = (r 0 : Int) := p1 10 (by show 10 < c_entryN j_c128_18; decide)
  have e11 : rr 11 = v := p1 11 (by show 11 < c_entryN j_c128_18; decide)
  have er : rr 12 = x9.toInt := p2 0 _ rfl
  have hin2 := k_inK he2 (by show ((ct_pros j_c128_18).all fun t => Nat.ble 101 t) = true; decide +kernel) (by decide) (j_in_row hS (j_g0 k 0 0 0 0) (t := 0) (by omega))
  have hd : d ∈ ct_post j_c128_18 := hd
  simp only [ct_post, j_c128_18, List.mem_cons, List.not_mem_nil, or_false] at hd
  subst hd
  have hc : k_fn w2 (r 0) 90 k (rr 13) := k_fnD (b := 9) (p3 0 _ rfl) e10 (by show (0 : Int) + (1 * rr 7 + 0) = _; rw [e7]; omega) hin2
  simp only [List.forall_mem_cons, c_ev, c_evs, List.not_mem_nil, false_implies, implies_true, and_true, e11, er] at p4
  exact ⟨rr 13, j_back I1.1 hP2 I1.2.2.1 hT2 (hS1.2.2.1 0 (by omega)).2 rfl rfl hc, by omega⟩
theorem k_pourC7r10 {k : Nat} {v : Int} {y1 y2 y3 y4 y5 r9 : Int32} (I : k_In s D dA a1 a2 w H locs) (hS : k_S7 a1 a2 w rw nm r) (I1 : k_In s D dA a1 a2 w' H' locs') (hS1 : k_S7 a1 a2 w' rw nm r) (hj : j_Ex0 s D dA 128 w [.ref a1, .int y1, .int y2, .int y3, .int y4, .int y5] H' [.int r9]) (hy1 : y1.toInt = 1) (hy3 : y3.toInt = 0) (h0 : r9.toInt = 0) (hk : k < 60) (hf : k_fn w (r 0) 17 k v) : k_fn w' (r 0) 17 k v := by
  have hpd := k_preD (ct := j_c128_19) (r := k_rv [(a1 : Int), (1 : Int), y2.toInt, (0 : Int), y4.toInt, y5.toInt, (k : Int), (rw : Int), (r 1 : Int), (r 0 : Int), v]) (vals := [.ref a1, .int y1, .int y2, .int y3, .int y4, .int y5]) (w := j_w w a1 rw r (j_g0 k 0 0 0 0)) (by decide +kernel) ⟨(by show (0 : Int) ≤ (3) + (0); omega), trivial⟩ ⟨k_aR (j_in_a1 hS _ I.2.2.2.2.1), ⟨_, rfl, hy1, Int.le_refl _, Int.le_refl _⟩, k_aI _, ⟨_, rfl, hy3, Int.le_refl _, Int.le_refl _⟩, k_aI _, k_aI _, trivial⟩ ⟨⟨40, rfl, c_gv_id40 (by show (0 : Int) ≤ (k : Int); omega) (by show (k : Int) ≤ 59; omega)⟩, k_fnC (b := 0) (j_fn hS (j_g0 k 0 0 0 0) hS.1 (j_in_a1 hS _ I.2.2.2.2.1)) rfl rfl, k_fnC (b := 7) (j_fn hS (j_g0 k 0 0 0 0) (hS.2.2.1 1 (by omega)).1 (j_in_rw hS _)) rfl (by show (0 : Int) + (1 * (1 : Int) + 0) = _; rfl), k_fnC (b := 7) (j_fn hS (j_g0 k 0 0 0 0) (hS.2.2.1 0 (by omega)).1 (j_in_rw hS _)) rfl (by show (0 : Int) + (1 * (0 : Int) + 0) = _; rfl), k_fnC (b := 9) (j_fn hS (j_g0 k 0 0 0 0) hf (j_in_row hS _ (t := 0) (by omega))) rfl (by show (0 : Int) + (1 * (k : Int) + 0) = _; omega), trivial⟩
  obtain ⟨rv2, res2, w2, hh, hr2, hp2, hP2, hD2, hT2⟩ := hj (j_c128_19, k_rv [(a1 : Int), (1 : Int), y2.toInt, (0 : Int), y4.toInt, y5.toInt, (k : Int), (rw : Int), (r 1 : Int), (r 0 : Int), v], j_tg w a1 rw r, j_g0 k 0 0 0 0) j_pm128_19 rfl rfl hpd.1 hpd.2 (j_TW (D := D) I.2.2.1 I.2.1 hS I.2.2.2.2.1 _)
  obtain ⟨x9, rfl, rfl, -, -⟩ := hr2
  have hx9 : x9 = r9 := by injection (Option.some.inj hh)
  subst hx9
  obtain ⟨he2, -, d, hd, rr, p1, p2, p3, p4, -⟩ := hp2
  have e1 : rr 1 = (a1 : Int) := p1 1 (by show 1 < c_entryN j_c128_19; decide)
  have e2 : rr 2 = (1 : Int) := p1 2 (by show 2 < c_entryN j_c128_19; decide)
  have e3 : rr 3 = y2.toInt := p1 3 (by show 3 < c_entryN j_c128_19; decide)
  have e4 : rr 4 = (0 : Int) := p1 4 (by show 4 < c_entryN j_c128_19; decide)
  have e5 : rr 5 = y4.toInt := p1 5 (by show 5 < c_entryN j_c128_19; decide)
  have e6 : rr 6 = y5.toInt := p1 6 (by show 6 < c_entryN j_c128_19; decide)
  have e7 : rr 7 = (k : Int) := p1 7 (by show 7 < c_entryN j_c128_19; decide)
  have e8 : rr 8 = (rw : Int) := p1 8 (by show 8 < c_entryN j_c128_19; decide)
  have e9 : rr 9 = (r 1 : Int) := p1 9 (by show 9 < c_entryN j_c128_19; decide)
  have e10 : rr 10 = (r 0 : Int) := p1 10 (by show 10 < c_entryN j_c128_19; decide)
  have e11 : rr 11 = v := p1 11 (by show 11 < c_entryN j_c128_19; decide)
  have er : rr 12 = x9.toInt := p2 0 _ rfl
  have hin2 := k_inK he2 (by show ((ct_pros j_c128_19).all fun t => Nat.ble 101 t) = true; decide +kernel) (by decide) (j_in_row hS (j_g0 k 0 0 0 0) (t := 0) (by omega))
  have hd : d ∈ ct_post j_c128_19 := hd
  simp only [ct_post, j_c128_19, List.mem_cons, List.not_mem_nil, or_false] at hd
  rcases hd with rfl | rfl
  · have hc : k_fn w2 (r 0) 90 k (rr 13) := k_fnD (b := 9) (p3 0 _ rfl) e10 (by show (0 : Int) + (1 * rr 7 + 0) = _; rw [e7]; omega) hin2
    simp only [List.forall_mem_cons, c_ev, c_evs, List.not_mem_nil, false_implies, implies_true, and_true, e11, er] at p4
    have hv : rr 13 = v := by omega
    rw [hv] at hc
    exact j_back I1.1 hP2 I1.2.2.1 hT2 (hS1.2.2.1 0 (by omega)).2 rfl rfl hc
  · simp only [List.forall_mem_cons, c_ev, c_evs, List.not_mem_nil, false_implies, implies_true, and_true, er] at p4
    omega
theorem k_pourC7o10 {k t : Nat} {v v0 : Int} {y1 y2 y3 y4 y5 r9 : Int32} (I : k_In s D dA a1 a2 w H locs) (hS : k_S7 a1 a2 w rw nm r) (I1 : k_In s D dA a1 a2 w' H' locs') (hS1 : k_S7 a1 a2 w' rw nm r) (hj : j_Ex0 s D dA 128 w [.ref a1, .int y1, .int y2, .int y3, .int y4, .int y5] H' [.int r9]) (hy1 : y1.toInt = 1) (hy3 : y3.toInt = 0) (ht : t < 4) (hne : t ≠ 0) (hk : k < 60) (hf0 : k_fn w (r 0) 17 k v0) (hf : k_fn w (r t) 17 k v) : k_fn w' (r t) 17 k v := by
  have hpd := k_preD (ct := j_c128_19) (r := k_rv [(a1 : Int), (1 : Int), y2.toInt, (0 : Int), y4.toInt, y5.toInt, (k : Int), (rw : Int), (r 1 : Int), (r 0 : Int), v0]) (vals := [.ref a1, .int y1, .int y2, .int y3, .int y4, .int y5]) (w := j_w w a1 rw r (j_g0 k 0 0 0 0)) (by decide +kernel) ⟨(by show (0 : Int) ≤ (3) + (0); omega), trivial⟩ ⟨k_aR (j_in_a1 hS _ I.2.2.2.2.1), ⟨_, rfl, hy1, Int.le_refl _, Int.le_refl _⟩, k_aI _, ⟨_, rfl, hy3, Int.le_refl _, Int.le_refl _⟩, k_aI _, k_aI _, trivial⟩ ⟨⟨40, rfl, c_gv_id40 (by show (0 : Int) ≤ (k : Int); omega) (by show (k : Int) ≤ 59; omega)⟩, k_fnC (b := 0) (j_fn hS (j_g0 k 0 0 0 0) hS.1 (j_in_a1 hS _ I.2.2.2.2.1)) rfl rfl, k_fnC (b := 7) (j_fn hS (j_g0 k 0 0 0 0) (hS.2.2.1 1 (by omega)).1 (j_in_rw hS _)) rfl (by show (0 : Int) + (1 * (1 : Int) + 0) = _; rfl), k_fnC (b := 7) (j_fn hS (j_g0 k 0 0 0 0) (hS.2.2.1 0 (by omega)).1 (j_in_rw hS _)) rfl (by show (0 : Int) + (1 * (0 : Int) + 0) = _; rfl), k_fnC (b := 9) (j_fn hS (j_g0 k 0 0 0 0) hf0 (j_in_row hS _ (t := 0) (by omega))) rfl (by show (0 : Int) + (1 * (k : Int) + 0) = _; omega), trivial⟩
  obtain ⟨rv2, res2, w2, hh, hr2, hp2, hP2, hD2, hT2⟩ := hj (j_c128_19, k_rv [(a1 : Int), (1 : Int), y2.toInt, (0 : Int), y4.toInt, y5.toInt, (k : Int), (rw : Int), (r 1 : Int), (r 0 : Int), v0], j_tg w a1 rw r, j_g0 k 0 0 0 0) j_pm128_19 rfl rfl hpd.1 hpd.2 (j_TW (D := D) I.2.2.1 I.2.1 hS I.2.2.2.2.1 _)
  obtain ⟨he2, -⟩ := hp2
  exact j_rowK hS I1 hS1 he2 (by show ((ct_pros j_c128_19).all fun t => Nat.ble 101 t) = true; decide +kernel) hP2 hT2 ht (k_none_ok (by show k_none (ct_eff j_c128_19) (90 + t) = true; rcases (show t = 1 ∨ t = 2 ∨ t = 3 by omega) with rfl | rfl | rfl <;> decide +kernel) _ _) hf
theorem k_pourC7i11 {k k9 : Nat} {u v : Int} {y1 y2 y3 y4 y5 r9 : Int32} (I : k_In s D dA a1 a2 w H locs) (hS : k_S7 a1 a2 w rw nm r) (I1 : k_In s D dA a1 a2 w' H' locs') (hS1 : k_S7 a1 a2 w' rw nm r) (hj : j_Ex0 s D dA 128 w [.ref a1, .int y1, .int y2, .int y3, .int y4, .int y5] H' [.int r9]) (hy1 : y1.toInt = 1) (hy3 : y3.toInt = 1) (h4 : y4.toInt ≤ (k : Int)) (h5 : (k : Int) < y4.toInt + y5.toInt) (h9 : (k9 : Int) = y2.toInt - y4.toInt + (k : Int)) (hk9 : k9 < 60) (hk : k < 60) (hs9 : k_fn w (r 1) 17 k9 u) (hf : k_fn w (r 1) 17 k v) : ∃ v', k_fn w' (r 1) 17 k v' ∧ ((r9.toInt = 1 ∧ v' = u) ∨ (r9.toInt = 0 ∧ v' = v)) := by
  have hpd := k_preD (ct := j_c128_20) (r := k_rv [(a1 : Int), (1 : Int), y2.toInt, (1 : Int), y4.toInt, y5.toInt, (k : Int), (rw : Int), (r 1 : Int), (r 1 : Int), u, v]) (vals := [.ref a1, .int y1, .int y2, .int y3, .int y4, .int y5]) (w := j_w w a1 rw r (j_g0 k 0 0 0 0)) (by decide +kernel) ⟨(by show (0 : Int) ≤ (0) + ((-1) * y4.toInt + ((1) * (k : Int) + (0))); omega), (by show (0 : Int) ≤ (-1) + ((1) * y4.toInt + ((1) * y5.toInt + ((-1) * (k : Int) + (0)))); omega), (by show (0 : Int) ≤ (0) + ((1) * y2.toInt + ((-1) * y4.toInt + ((1) * (k : Int) + (0)))); omega), (by show (0 : Int) ≤ (59) + ((-1) * y2.toInt + ((1) * y4.toInt + ((-1) * (k : Int) + (0)))); omega), (by show (0 : Int) ≤ (3) + (0); omega), trivial⟩ ⟨k_aR (j_in_a1 hS _ I.2.2.2.2.1), ⟨_, rfl, hy1, Int.le_refl _, Int.le_refl _⟩, k_aI _, ⟨_, rfl, hy3, Int.le_refl _, Int.le_refl _⟩, k_aI _, k_aI _, trivial⟩ ⟨⟨40, rfl, c_gv_id40 (by show (0 : Int) ≤ (k : Int); omega) (by show (k : Int) ≤ 59; omega)⟩, k_fnC (b := 0) (j_fn hS (j_g0 k 0 0 0 0) hS.1 (j_in_a1 hS _ I.2.2.2.2.1)) rfl rfl, k_fnC (b := 7) (j_fn hS (j_g0 k 0 0 0 0) (hS.2.2.1 1 (by omega)).1 (j_in_rw hS _)) rfl (by show (0 : Int) + (1 * (1 : Int) + 0) = _; rfl), k_fnC (b := 7) (j_fn hS (j_g0 k 0 0 0 0) (hS.2.2.1 1 (by omega)).1 (j_in_rw hS _)) rfl (by show (0 : Int) + (1 * (1 : Int) + 0) = _; rfl), k_fnC (b := 8) (j_fn hS (j_g0 k 0 0 0 0) hs9 (j_in_row hS _ (t := 1) (by omega))) rfl (by show (0 : Int) + (1 * y2.toInt + ((-1) * y4.toInt + (1 * (k : Int) + 0))) = _; omega), k_fnC (b := 9) (j_fn hS (j_g0 k 0 0 0 0) hf (j_in_row hS _ (t := 1) (by omega))) rfl (by show (0 : Int) + (1 * (k : Int) + 0) = _; omega), trivial⟩
  obtain ⟨rv2, res2, w2, hh, hr2, hp2, hP2, hD2, hT2⟩ := hj (j_c128_20, k_rv [(a1 : Int), (1 : Int), y2.toInt, (1 : Int), y4.toInt, y5.toInt, (k : Int), (rw : Int), (r 1 : Int), (r 1 : Int), u, v], j_tg w a1 rw r, j_g0 k 0 0 0 0) j_pm128_20 rfl rfl hpd.1 hpd.2 (j_TW (D := D) I.2.2.1 I.2.1 hS I.2.2.2.2.1 _)
  obtain ⟨x9, rfl, rfl, -, -⟩ := hr2
  have hx9 : x9 = r9 := by injection (Option.some.inj hh)
  subst hx9
  obtain ⟨he2, -, d, hd, rr, p1, p2, p3, p4, -⟩ := hp2
  have e1 : rr 1 = (a1 : Int) := p1 1 (by show 1 < c_entryN j_c128_20; decide)
  have e2 : rr 2 = (1 : Int) := p1 2 (by show 2 < c_entryN j_c128_20; decide)
  have e3 : rr 3 = y2.toInt := p1 3 (by show 3 < c_entryN j_c128_20; decide)
  have e4 : rr 4 = (1 : Int) := p1 4 (by show 4 < c_entryN j_c128_20; decide)
  have e5 : rr 5 = y4.toInt := p1 5 (by show 5 < c_entryN j_c128_20; decide)
  have e6 : rr 6 = y5.toInt := p1 6 (by show 6 < c_entryN j_c128_20; decide)
  have e7 : rr 7 = (k : Int) := p1 7 (by show 7 < c_entryN j_c128_20; decide)
  have e8 : rr 8 = (rw : Int) := p1 8 (by show 8 < c_entryN j_c128_20; decide)
  have e9 : rr 9 = (r 1 : Int) := p1 9 (by show 9 < c_entryN j_c128_20; decide)
  have e10 : rr 10 = (r 1 : Int) := p1 10 (by show 10 < c_entryN j_c128_20; decide)
  have e11 : rr 11 = u := p1 11 (by show 11 < c_entryN j_c128_20; decide)
  have e12 : rr 12 = v := p1 12 (by show 12 < c_entryN j_c128_20; decide)
  have er : rr 13 = x9.toInt := p2 0 _ rfl
  have hin2 := k_inK he2 (by show ((ct_pros j_c128_20).all fun t => Nat.ble 101 t) = true; decide +kernel) (by decide) (j_in_row hS (j_g0 k 0 0 0 0) (t := 1) (by omega))
  have hd : d ∈ ct_post j_c128_20 := hd
  simp only [ct_post, j_c128_20, List.mem_cons, List.not_mem_nil, or_false] at hd
  rcases hd with rfl | rfl
  all_goals
    have hc : k_fn w2 (r 1) 91 k (rr 14) := k_fnD (b := 9) (p3 0 _ rfl) e10 (by show (0 : Int) + (1 * rr 7 + 0) = _; rw [e7]; omega) hin2
    simp only [List.forall_mem_cons, c_ev, c_evs, List.not_mem_nil, false_implies, implies_true, and_true, e11, e12, er] at p4
    exact ⟨rr 14, j_back I1.1 hP2 I1.2.2.1 hT2 (hS1.2.2.1 1 (by omega)).2 rfl rfl hc, by omega⟩
theorem k_pourC7l11 {k : Nat} {v : Int} {y1 y2 y3 y4 y5 r9 : Int32} (I : k_In s D dA a1 a2 w H locs) (hS : k_S7 a1 a2 w rw nm r) (I1 : k_In s D dA a1 a2 w' H' locs') (hS1 : k_S7 a1 a2 w' rw nm r) (hj : j_Ex0 s D dA 128 w [.ref a1, .int y1, .int y2, .int y3, .int y4, .int y5] H' [.int r9]) (hy1 : y1.toInt = 1) (hy3 : y3.toInt = 1) (h4 : (k : Int) < y4.toInt) (hk : k < 60) (hf : k_fn w (r 1) 17 k v) : ∃ v', k_fn w' (r 1) 17 k v' ∧ v' = v := by
  have hpd := k_preD (ct := j_c128_21) (r := k_rv [(a1 : Int), (1 : Int), y2.toInt, (1 : Int), y4.toInt, y5.toInt, (k : Int), (rw : Int), (r 1 : Int), (r 1 : Int), v]) (vals := [.ref a1, .int y1, .int y2, .int y3, .int y4, .int y5]) (w := j_w w a1 rw r (j_g0 k 0 0 0 0)) (by decide +kernel) ⟨(by show (0 : Int) ≤ (-1) + ((1) * y4.toInt + ((-1) * (k : Int) + (0))); omega), (by show (0 : Int) ≤ (3) + (0); omega), trivial⟩ ⟨k_aR (j_in_a1 hS _ I.2.2.2.2.1), ⟨_, rfl, hy1, Int.le_refl _, Int.le_refl _⟩, k_aI _, ⟨_, rfl, hy3, Int.le_refl _, Int.le_refl _⟩, k_aI _, k_aI _, trivial⟩ ⟨⟨40, rfl, c_gv_id40 (by show (0 : Int) ≤ (k : Int); omega) (by show (k : Int) ≤ 59; omega)⟩, k_fnC (b := 0) (j_fn hS (j_g0 k 0 0 0 0) hS.1 (j_in_a1 hS _ I.2.2.2.2.1)) rfl rfl, k_fnC (b := 7) (j_fn hS (j_g0 k 0 0 0 0) (hS.2.2.1 1 (by omega)).1 (j_in_rw hS _)) rfl (by show (0 : Int) + (1 * (1 : Int) + 0) = _; rfl), k_fnC (b := 7) (j_fn hS (j_g0 k 0 0 0 0) (hS.2.2.1 1 (by omega)).1 (j_in_rw hS _)) rfl (by show (0 : Int) + (1 * (1 : Int) + 0) = _; rfl), k_fnC (b := 9) (j_fn hS (j_g0 k 0 0 0 0) hf (j_in_row hS _ (t := 1) (by omega))) rfl (by show (0 : Int) + (1 * (k : Int) + 0) = _; omega), trivial⟩
  obtain ⟨rv2, res2, w2, hh, hr2, hp2, hP2, hD2, hT2⟩ := hj (j_c128_21, k_rv [(a1 : Int), (1 : Int), y2.toInt, (1 : Int), y4.toInt, y5.toInt, (k : Int), (rw : Int), (r 1 : Int), (r 1 : Int), v], j_tg w a1 rw r, j_g0 k 0 0 0 0) j_pm128_21 rfl rfl hpd.1 hpd.2 (j_TW (D := D) I.2.2.1 I.2.1 hS I.2.2.2.2.1 _)
  obtain ⟨x9, rfl, rfl, -, -⟩ := hr2
  have hx9 : x9 = r9 := by injection (Option.some.inj hh)
  subst hx9
  obtain ⟨he2, -, d, hd, rr, p1, p2, p3, p4, -⟩ := hp2
  have e1 : rr 1 = (a1 : Int) := p1 1 (by show 1 < c_entryN j_c128_21; decide)
  have e2 : rr 2 = (1 : Int) := p1 2 (by show 2 < c_entryN j_c128_21; decide)
  have e3 : rr 3 = y2.toInt := p1 3 (by show 3 < c_entryN j_c128_21; decide)
  have e4 : rr 4 = (1 : Int) := p1 4 (by show 4 < c_entryN j_c128_21; decide)
  have e5 : rr 5 = y4.toInt := p1 5 (by show 5 < c_entryN j_c128_21; decide)
  have e6 : rr 6 = y5.toInt := p1 6 (by show 6 < c_entryN j_c128_21; decide)
  have e7 : rr 7 = (k : Int) := p1 7 (by show 7 < c_entryN j_c128_21; decide)
  have e8 : rr 8 = (rw : Int) := p1 8 (by show 8 < c_entryN j_c128_21; decide)
  have e9 : rr 9 = (r 1 : Int) := p1 9 (by show 9 < c_entryN j_c128_21; decide)
  have e10 : rr 10 = (r 1 : Int) := p1 10 (by show 10 < c_entryN j_c128_21; decide)
  have e11 : rr 11 = v := p1 11 (by show 11 < c_entryN j_c128_21; decide)
  have er : rr 12 = x9.toInt := p2 0 _ rfl
  have hin2 := k_inK he2 (by show ((ct_pros j_c128_21).all fun t => Nat.ble 101 t) = true; decide +kernel) (by decide) (j_in_row hS (j_g0 k 0 0 0 0) (t := 1) (by omega))
  have hd : d ∈ ct_post j_c128_21 := hd
  simp only [ct_post, j_c128_21, List.mem_cons, List.not_mem_nil, or_false] at hd
  subst hd
  have hc : k_fn w2 (r 1) 91 k (rr 13) := k_fnD (b := 9) (p3 0 _ rfl) e10 (by show (0 : Int) + (1 * rr 7 + 0) = _; rw [e7]; omega) hin2
  simp only [List.forall_mem_cons, c_ev, c_evs, List.not_mem_nil, false_implies, implies_true, and_true, e11, er] at p4
  exact ⟨rr 13, j_back I1.1 hP2 I1.2.2.1 hT2 (hS1.2.2.1 1 (by omega)).2 rfl rfl hc, by omega⟩
theorem k_pourC7g11 {k : Nat} {v : Int} {y1 y2 y3 y4 y5 r9 : Int32} (I : k_In s D dA a1 a2 w H locs) (hS : k_S7 a1 a2 w rw nm r) (I1 : k_In s D dA a1 a2 w' H' locs') (hS1 : k_S7 a1 a2 w' rw nm r) (hj : j_Ex0 s D dA 128 w [.ref a1, .int y1, .int y2, .int y3, .int y4, .int y5] H' [.int r9]) (hy1 : y1.toInt = 1) (hy3 : y3.toInt = 1) (h4 : y4.toInt + y5.toInt ≤ (k : Int)) (hk : k < 60) (hf : k_fn w (r 1) 17 k v) : ∃ v', k_fn w' (r 1) 17 k v' ∧ v' = v := by
  have hpd := k_preD (ct := j_c128_22) (r := k_rv [(a1 : Int), (1 : Int), y2.toInt, (1 : Int), y4.toInt, y5.toInt, (k : Int), (rw : Int), (r 1 : Int), (r 1 : Int), v]) (vals := [.ref a1, .int y1, .int y2, .int y3, .int y4, .int y5]) (w := j_w w a1 rw r (j_g0 k 0 0 0 0)) (by decide +kernel) ⟨(by show (0 : Int) ≤ (0) + ((-1) * y4.toInt + ((-1) * y5.toInt + ((1) * (k : Int) + (0)))); omega), (by show (0 : Int) ≤ (3) + (0); omega), trivial⟩ ⟨k_aR (j_in_a1 hS _ I.2.2.2.2.1), ⟨_, rfl, hy1, Int.le_refl _, Int.le_refl _⟩, k_aI _, ⟨_, rfl, hy3, Int.le_refl _, Int.le_refl _⟩, k_aI _, k_aI _, trivial⟩ ⟨⟨40, rfl, c_gv_id40 (by show (0 : Int) ≤ (k : Int); omega) (by show (k : Int) ≤ 59; omega)⟩, k_fnC (b := 0) (j_fn hS (j_g0 k 0 0 0 0) hS.1 (j_in_a1 hS _ I.2.2.2.2.1)) rfl rfl, k_fnC (b := 7) (j_fn hS (j_g0 k 0 0 0 0) (hS.2.2.1 1 (by omega)).1 (j_in_rw hS _)) rfl (by show (0 : Int) + (1 * (1 : Int) + 0) = _; rfl), k_fnC (b := 7) (j_fn hS (j_g0 k 0 0 0 0) (hS.2.2.1 1 (by omega)).1 (j_in_rw hS _)) rfl (by show (0 : Int) + (1 * (1 : Int) + 0) = _; rfl), k_fnC (b := 9) (j_fn hS (j_g0 k 0 0 0 0) hf (j_in_row hS _ (t := 1) (by omega))) rfl (by show (0 : Int) + (1 * (k : Int) + 0) = _; omega), trivial⟩
  obtain ⟨rv2, res2, w2, hh, hr2, hp2, hP2, hD2, hT2⟩ := hj (j_c128_22, k_rv [(a1 : Int), (1 : Int), y2.toInt, (1 : Int), y4.toInt, y5.toInt, (k : Int), (rw : Int), (r 1 : Int), (r 1 : Int), v], j_tg w a1 rw r, j_g0 k 0 0 0 0) j_pm128_22 rfl rfl hpd.1 hpd.2 (j_TW (D := D) I.2.2.1 I.2.1 hS I.2.2.2.2.1 _)
  obtain ⟨x9, rfl, rfl, -, -⟩ := hr2
  have hx9 : x9 = r9 := by injection (Option.some.inj hh)
  subst hx9
  obtain ⟨he2, -, d, hd, rr, p1, p2, p3, p4, -⟩ := hp2
  have e1 : rr 1 = (a1 : Int) := p1 1 (by show 1 < c_entryN j_c128_22; decide)
  have e2 : rr 2 = (1 : Int) := p1 2 (by show 2 < c_entryN j_c128_22; decide)
  have e3 : rr 3 = y2.toInt := p1 3 (by show 3 < c_entryN j_c128_22; decide)
  have e4 : rr 4 = (1 : Int) := p1 4 (by show 4 < c_entryN j_c128_22; decide)
  have e5 : rr 5 = y4.toInt := p1 5 (by show 5 < c_entryN j_c128_22; decide)
  have e6 : rr 6 = y5.toInt := p1 6 (by show 6 < c_entryN j_c128_22; decide)
  have e7 : rr 7 = (k : Int) := p1 7 (by show 7 < c_entryN j_c128_22; decide)
  have e8 : rr 8 = (rw : Int) := p1 8 (by show 8 < c_entryN j_c128_22; decide)
  have e9 : rr 9 = (r 1 : Int) := p1 9 (by show 9 < c_entryN j_c128_22; decide)
  have e10 : rr 10 = (r 1 : Int) := p1 10 (by show 10 < c_entryN j_c128_22; decide)
  have e11 : rr 11 = v := p1 11 (by show 11 < c_entryN j_c128_22; decide)
  have er : rr 12 = x9.toInt := p2 0 _ rfl
  have hin2 := k_inK he2 (by show ((ct_pros j_c128_22).all fun t => Nat.ble 101 t) = true; decide +kernel) (by decide) (j_in_row hS (j_g0 k 0 0 0 0) (t := 1) (by omega))
  have hd : d ∈ ct_post j_c128_22 := hd
  simp only [ct_post, j_c128_22, List.mem_cons, List.not_mem_nil, or_false] at hd
  subst hd
  have hc : k_fn w2 (r 1) 91 k (rr 13) := k_fnD (b := 9) (p3 0 _ rfl) e10 (by show (0 : Int) + (1 * rr 7 + 0) = _; rw [e7]; omega) hin2
  simp only [List.forall_mem_cons, c_ev, c_evs, List.not_mem_nil, false_implies, implies_true, and_true, e11, er] at p4
  exact ⟨rr 13, j_back I1.1 hP2 I1.2.2.1 hT2 (hS1.2.2.1 1 (by omega)).2 rfl rfl hc, by omega⟩
theorem k_pourC7r11 {k : Nat} {v : Int} {y1 y2 y3 y4 y5 r9 : Int32} (I : k_In s D dA a1 a2 w H locs) (hS : k_S7 a1 a2 w rw nm r) (I1 : k_In s D dA a1 a2 w' H' locs') (hS1 : k_S7 a1 a2 w' rw nm r) (hj : j_Ex0 s D dA 128 w [.ref a1, .int y1, .int y2, .int y3, .int y4, .int y5] H' [.int r9]) (hy1 : y1.toInt = 1) (hy3 : y3.toInt = 1) (h0 : r9.toInt = 0) (hk : k < 60) (hf : k_fn w (r 1) 17 k v) : k_fn w' (r 1) 17 k v := by
  have hpd := k_preD (ct := j_c128_23) (r := k_rv [(a1 : Int), (1 : Int), y2.toInt, (1 : Int), y4.toInt, y5.toInt, (k : Int), (rw : Int), (r 1 : Int), (r 1 : Int), v]) (vals := [.ref a1, .int y1, .int y2, .int y3, .int y4, .int y5]) (w := j_w w a1 rw r (j_g0 k 0 0 0 0)) (by decide +kernel) ⟨(by show (0 : Int) ≤ (3) + (0); omega), trivial⟩ ⟨k_aR (j_in_a1 hS _ I.2.2.2.2.1), ⟨_, rfl, hy1, Int.le_refl _, Int.le_refl _⟩, k_aI _, ⟨_, rfl, hy3, Int.le_refl _, Int.le_refl _⟩, k_aI _, k_aI _, trivial⟩ ⟨⟨40, rfl, c_gv_id40 (by show (0 : Int) ≤ (k : Int); omega) (by show (k : Int) ≤ 59; omega)⟩, k_fnC (b := 0) (j_fn hS (j_g0 k 0 0 0 0) hS.1 (j_in_a1 hS _ I.2.2.2.2.1)) rfl rfl, k_fnC (b := 7) (j_fn hS (j_g0 k 0 0 0 0) (hS.2.2.1 1 (by omega)).1 (j_in_rw hS _)) rfl (by show (0 : Int) + (1 * (1 : Int) + 0) = _; rfl), k_fnC (b := 7) (j_fn hS (j_g0 k 0 0 0 0) (hS.2.2.1 1 (by omega)).1 (j_in_rw hS _)) rfl (by show (0 : Int) + (1 * (1 : Int) + 0) = _; rfl), k_fnC (b := 9) (j_fn hS (j_g0 k 0 0 0 0) hf (j_in_row hS _ (t := 1) (by omega))) rfl (by show (0 : Int) + (1 * (k : Int) + 0) = _; omega), trivial⟩
  obtain ⟨rv2, res2, w2, hh, hr2, hp2, hP2, hD2, hT2⟩ := hj (j_c128_23, k_rv [(a1 : Int), (1 : Int), y2.toInt, (1 : Int), y4.toInt, y5.toInt, (k : Int), (rw : Int), (r 1 : Int), (r 1 : Int), v], j_tg w a1 rw r, j_g0 k 0 0 0 0) j_pm128_23 rfl rfl hpd.1 hpd.2 (j_TW (D := D) I.2.2.1 I.2.1 hS I.2.2.2.2.1 _)
  obtain ⟨x9, rfl, rfl, -, -⟩ := hr2
  have hx9 : x9 = r9 := by injection (Option.some.inj hh)
  subst hx9
  obtain ⟨he2, -, d, hd, rr, p1, p2, p3, p4, -⟩ := hp2
  have e1 : rr 1 = (a1 : Int) := p1 1 (by show 1 < c_entryN j_c128_23; decide)
  have e2 : rr 2 = (1 : Int) := p1 2 (by show 2 < c_entryN j_c128_23; decide)
  have e3 : rr 3 = y2.toInt := p1 3 (by show 3 < c_entryN j_c128_23; decide)
  have e4 : rr 4 = (1 : Int) := p1 4 (by show 4 < c_entryN j_c128_23; decide)
  have e5 : rr 5 = y4.toInt := p1 5 (by show 5 < c_entryN j_c128_23; decide)
  have e6 : rr 6 = y5.toInt := p1 6 (by show 6 < c_entryN j_c128_23; decide)
  have e7 : rr 7 = (k : Int) := p1 7 (by show 7 < c_entryN j_c128_23; decide)
  have e8 : rr 8 = (rw : Int) := p1 8 (by show 8 < c_entryN j_c128_23; decide)
  have e9 : rr 9 = (r 1 : Int) := p1 9 (by show 9 < c_entryN j_c128_23; decide)
  have e10 : rr 10 = (r 1 : Int) := p1 10 (by show 10 < c_entryN j_c128_23; decide)
  have e11 : rr 11 = v := p1 11 (by show 11 < c_entryN j_c128_23; decide)
  have er : rr 12 = x9.toInt := p2 0 _ rfl
  have hin2 := k_inK he2 (by show ((ct_pros j_c128_23).all fun t => Nat.ble 101 t) = true; decide +kernel) (by decide) (j_in_row hS (j_g0 k 0 0 0 0) (t := 1) (by omega))
  have hd : d ∈ ct_post j_c128_23 := hd
  simp only [ct_post, j_c128_23, List.mem_cons, List.not_mem_nil, or_false] at hd
  rcases hd with rfl | rfl
  · have hc : k_fn w2 (r 1) 91 k (rr 13) := k_fnD (b := 9) (p3 0 _ rfl) e10 (by show (0 : Int) + (1 * rr 7 + 0) = _; rw [e7]; omega) hin2
    simp only [List.forall_mem_cons, c_ev, c_evs, List.not_mem_nil, false_implies, implies_true, and_true, e11, er] at p4
    have hv : rr 13 = v := by omega
    rw [hv] at hc
    exact j_back I1.1 hP2 I1.2.2.1 hT2 (hS1.2.2.1 1 (by omega)).2 rfl rfl hc
  · simp only [List.forall_mem_cons, c_ev, c_evs, List.not_mem_nil, false_implies, implies_true, and_true, er] at p4
    omega
theorem k_pourC7o11 {k t : Nat} {v v0 : Int} {y1 y2 y3 y4 y5 r9 : Int32} (I : k_In s D dA a1 a2 w H locs) (hS : k_S7 a1 a2 w rw nm r) (I1 : k_In s D dA a1 a2 w' H' locs') (hS1 : k_S7 a1 a2 w' rw nm r) (hj : j_Ex0 s D dA 128 w [.ref a1, .int y1, .int y2, .int y3, .int y4, .int y5] H' [.int r9]) (hy1 : y1.toInt = 1) (hy3 : y3.toInt = 1) (ht : t < 4) (hne : t ≠ 1) (hk : k < 60) (hf0 : k_fn w (r 1) 17 k v0) (hf : k_fn w (r t) 17 k v) : k_fn w' (r t) 17 k v := by
  have hpd := k_preD (ct := j_c128_23) (r := k_rv [(a1 : Int), (1 : Int), y2.toInt, (1 : Int), y4.toInt, y5.toInt, (k : Int), (rw : Int), (r 1 : Int), (r 1 : Int), v0]) (vals := [.ref a1, .int y1, .int y2, .int y3, .int y4, .int y5]) (w := j_w w a1 rw r (j_g0 k 0 0 0 0)) (by decide +kernel) ⟨(by show (0 : Int) ≤ (3) + (0); omega), trivial⟩ ⟨k_aR (j_in_a1 hS _ I.2.2.2.2.1), ⟨_, rfl, hy1, Int.le_refl _, Int.le_refl _⟩, k_aI _, ⟨_, rfl, hy3, Int.le_refl _, Int.le_refl _⟩, k_aI _, k_aI _, trivial⟩ ⟨⟨40, rfl, c_gv_id40 (by show (0 : Int) ≤ (k : Int); omega) (by show (k : Int) ≤ 59; omega)⟩, k_fnC (b := 0) (j_fn hS (j_g0 k 0 0 0 0) hS.1 (j_in_a1 hS _ I.2.2.2.2.1)) rfl rfl, k_fnC (b := 7) (j_fn hS (j_g0 k 0 0 0 0) (hS.2.2.1 1 (by omega)).1 (j_in_rw hS _)) rfl (by show (0 : Int) + (1 * (1 : Int) + 0) = _; rfl), k_fnC (b := 7) (j_fn hS (j_g0 k 0 0 0 0) (hS.2.2.1 1 (by omega)).1 (j_in_rw hS _)) rfl (by show (0 : Int) + (1 * (1 : Int) + 0) = _; rfl), k_fnC (b := 9) (j_fn hS (j_g0 k 0 0 0 0) hf0 (j_in_row hS _ (t := 1) (by omega))) rfl (by show (0 : Int) + (1 * (k : Int) + 0) = _; omega), trivial⟩
  obtain ⟨rv2, res2, w2, hh, hr2, hp2, hP2, hD2, hT2⟩ := hj (j_c128_23, k_rv [(a1 : Int), (1 : Int), y2.toInt, (1 : Int), y4.toInt, y5.toInt, (k : Int), (rw : Int), (r 1 : Int), (r 1 : Int), v0], j_tg w a1 rw r, j_g0 k 0 0 0 0) j_pm128_23 rfl rfl hpd.1 hpd.2 (j_TW (D := D) I.2.2.1 I.2.1 hS I.2.2.2.2.1 _)
  obtain ⟨he2, -⟩ := hp2
  exact j_rowK hS I1 hS1 he2 (by show ((ct_pros j_c128_23).all fun t => Nat.ble 101 t) = true; decide +kernel) hP2 hT2 ht (k_none_ok (by show k_none (ct_eff j_c128_23) (90 + t) = true; rcases (show t = 0 ∨ t = 2 ∨ t = 3 by omega) with rfl | rfl | rfl <;> decide +kernel) _ _) hf
theorem k_pourC7i12 {k k9 : Nat} {u v : Int} {y1 y2 y3 y4 y5 r9 : Int32} (I : k_In s D dA a1 a2 w H locs) (hS : k_S7 a1 a2 w rw nm r) (I1 : k_In s D dA a1 a2 w' H' locs') (hS1 : k_S7 a1 a2 w' rw nm r) (hj : j_Ex0 s D dA 128 w [.ref a1, .int y1, .int y2, .int y3, .int y4, .int y5] H' [.int r9]) (hy1 : y1.toInt = 1) (hy3 : y3.toInt = 2) (h4 : y4.toInt ≤ (k : Int)) (h5 : (k : Int) < y4.toInt + y5.toInt) (h9 : (k9 : Int) = y2.toInt - y4.toInt + (k : Int)) (hk9 : k9 < 60) (hk : k < 60) (hs9 : k_fn w (r 1) 17 k9 u) (hf : k_fn w (r 2) 17 k v) : ∃ v', k_fn w' (r 2) 17 k v' ∧ ((r9.toInt = 1 ∧ v' = u) ∨ (r9.toInt = 0 ∧ v' = v)) := by
  have hpd := k_preD (ct := j_c128_24) (r := k_rv [(a1 : Int), (1 : Int), y2.toInt, (2 : Int), y4.toInt, y5.toInt, (k : Int), (rw : Int), (r 1 : Int), (r 2 : Int), u, v]) (vals := [.ref a1, .int y1, .int y2, .int y3, .int y4, .int y5]) (w := j_w w a1 rw r (j_g0 k 0 0 0 0)) (by decide +kernel) ⟨(by show (0 : Int) ≤ (0) + ((-1) * y4.toInt + ((1) * (k : Int) + (0))); omega), (by show (0 : Int) ≤ (-1) + ((1) * y4.toInt + ((1) * y5.toInt + ((-1) * (k : Int) + (0)))); omega), (by show (0 : Int) ≤ (0) + ((1) * y2.toInt + ((-1) * y4.toInt + ((1) * (k : Int) + (0)))); omega), (by show (0 : Int) ≤ (59) + ((-1) * y2.toInt + ((1) * y4.toInt + ((-1) * (k : Int) + (0)))); omega), (by show (0 : Int) ≤ (3) + (0); omega), trivial⟩ ⟨k_aR (j_in_a1 hS _ I.2.2.2.2.1), ⟨_, rfl, hy1, Int.le_refl _, Int.le_refl _⟩, k_aI _, ⟨_, rfl, hy3, Int.le_refl _, Int.le_refl _⟩, k_aI _, k_aI _, trivial⟩ ⟨⟨40, rfl, c_gv_id40 (by show (0 : Int) ≤ (k : Int); omega) (by show (k : Int) ≤ 59; omega)⟩, k_fnC (b := 0) (j_fn hS (j_g0 k 0 0 0 0) hS.1 (j_in_a1 hS _ I.2.2.2.2.1)) rfl rfl, k_fnC (b := 7) (j_fn hS (j_g0 k 0 0 0 0) (hS.2.2.1 1 (by omega)).1 (j_in_rw hS _)) rfl (by show (0 : Int) + (1 * (1 : Int) + 0) = _; rfl), k_fnC (b := 7) (j_fn hS (j_g0 k 0 0 0 0) (hS.2.2.1 2 (by omega)).1 (j_in_rw hS _)) rfl (by show (0 : Int) + (1 * (2 : Int) + 0) = _; rfl), k_fnC (b := 8) (j_fn hS (j_g0 k 0 0 0 0) hs9 (j_in_row hS _ (t := 1) (by omega))) rfl (by show (0 : Int) + (1 * y2.toInt + ((-1) * y4.toInt + (1 * (k : Int) + 0))) = _; omega), k_fnC (b := 9) (j_fn hS (j_g0 k 0 0 0 0) hf (j_in_row hS _ (t := 2) (by omega))) rfl (by show (0 : Int) + (1 * (k : Int) + 0) = _; omega), trivial⟩
  obtain ⟨rv2, res2, w2, hh, hr2, hp2, hP2, hD2, hT2⟩ := hj (j_c128_24, k_rv [(a1 : Int), (1 : Int), y2.toInt, (2 : Int), y4.toInt, y5.toInt, (k : Int), (rw : Int), (r 1 : Int), (r 2 : Int), u, v], j_tg w a1 rw r, j_g0 k 0 0 0 0) j_pm128_24 rfl rfl hpd.1 hpd.2 (j_TW (D := D) I.2.2.1 I.2.1 hS I.2.2.2.2.1 _)
  obtain ⟨x9, rfl, rfl, -, -⟩ := hr2
  have hx9 : x9 = r9 := by injection (Option.some.inj hh)
  subst hx9
  obtain ⟨he2, -, d, hd, rr, p1, p2, p3, p4, -⟩ := hp2
  have e1 : rr 1 = (a1 : Int) := p1 1 (by show 1 < c_entryN j_c128_24; decide)
  have e2 : rr 2 = (1 : Int) := p1 2 (by show 2 < c_entryN j_c128_24; decide)
  have e3 : rr 3 = y2.toInt := p1 3 (by show 3 < c_entryN j_c128_24; decide)
  have e4 : rr 4 = (2 : Int) := p1 4 (by show 4 < c_entryN j_c128_24; decide)
  have e5 : rr 5 = y4.toInt := p1 5 (by show 5 < c_entryN j_c128_24; decide)
  have e6 : rr 6 = y5.toInt := p1 6 (by show 6 < c_entryN j_c128_24; decide)
  have e7 : rr 7 = (k : Int) := p1 7 (by show 7 < c_entryN j_c128_24; decide)
  have e8 : rr 8 = (rw : Int) := p1 8 (by show 8 < c_entryN j_c128_24; decide)
  have e9 : rr 9 = (r 1 : Int) := p1 9 (by show 9 < c_entryN j_c128_24; decide)
  have e10 : rr 10 = (r 2 : Int) := p1 10 (by show 10 < c_entryN j_c128_24; decide)
  have e11 : rr 11 = u := p1 11 (by show 11 < c_entryN j_c128_24; decide)
  have e12 : rr 12 = v := p1 12 (by show 12 < c_entryN j_c128_24; decide)
  have er : rr 13 = x9.toInt := p2 0 _ rfl
  have hin2 := k_inK he2 (by show ((ct_pros j_c128_24).all fun t => Nat.ble 101 t) = true; decide +kernel) (by decide) (j_in_row hS (j_g0 k 0 0 0 0) (t := 2) (by omega))
  have hd : d ∈ ct_post j_c128_24 := hd
  simp only [ct_post, j_c128_24, List.mem_cons, List.not_mem_nil, or_false] at hd
  rcases hd with rfl | rfl
  all_goals
    have hc : k_fn w2 (r 2) 92 k (rr 14) := k_fnD (b := 9) (p3 0 _ rfl) e10 (by show (0 : Int) + (1 * rr 7 + 0) = _; rw [e7]; omega) hin2
    simp only [List.forall_mem_cons, c_ev, c_evs, List.not_mem_nil, false_implies, implies_true, and_true, e11, e12, er] at p4
    exact ⟨rr 14, j_back I1.1 hP2 I1.2.2.1 hT2 (hS1.2.2.1 2 (by omega)).2 rfl rfl hc, by omega⟩
theorem k_pourC7l12 {k : Nat} {v : Int} {y1 y2 y3 y4 y5 r9 : Int32} (I : k_In s D dA a1 a2 w H locs) (hS : k_S7 a1 a2 w rw nm r) (I1 : k_In s D dA a1 a2 w' H' locs') (hS1 : k_S7 a1 a2 w' rw nm r) (hj : j_Ex0 s D dA 128 w [.ref a1, .int y1, .int y2, .int y3, .int y4, .int y5] H' [.int r9]) (hy1 : y1.toInt = 1) (hy3 : y3.toInt = 2) (h4 : (k : Int) < y4.toInt) (hk : k < 60) (hf : k_fn w (r 2) 17 k v) : ∃ v', k_fn w' (r 2) 17 k v' ∧ v' = v := by
  have hpd := k_preD (ct := j_c128_25) (r := k_rv [(a1 : Int), (1 : Int), y2.toInt, (2 : Int), y4.toInt, y5.toInt, (k : Int), (rw : Int), (r 1 : Int), (r 2 : Int), v]) (vals := [.ref a1, .int y1, .int y2, .int y3, .int y4, .int y5]) (w := j_w w a1 rw r (j_g0 k 0 0 0 0)) (by decide +kernel) ⟨(by show (0 : Int) ≤ (-1) + ((1) * y4.toInt + ((-1) * (k : Int) + (0))); omega), (by show (0 : Int) ≤ (3) + (0); omega), trivial⟩ ⟨k_aR (j_in_a1 hS _ I.2.2.2.2.1), ⟨_, rfl, hy1, Int.le_refl _, Int.le_refl _⟩, k_aI _, ⟨_, rfl, hy3, Int.le_refl _, Int.le_refl _⟩, k_aI _, k_aI _, trivial⟩ ⟨⟨40, rfl, c_gv_id40 (by show (0 : Int) ≤ (k : Int); omega) (by show (k : Int) ≤ 59; omega)⟩, k_fnC (b := 0) (j_fn hS (j_g0 k 0 0 0 0) hS.1 (j_in_a1 hS _ I.2.2.2.2.1)) rfl rfl, k_fnC (b := 7) (j_fn hS (j_g0 k 0 0 0 0) (hS.2.2.1 1 (by omega)).1 (j_in_rw hS _)) rfl (by show (0 : Int) + (1 * (1 : Int) + 0) = _; rfl), k_fnC (b := 7) (j_fn hS (j_g0 k 0 0 0 0) (hS.2.2.1 2 (by omega)).1 (j_in_rw hS _)) rfl (by show (0 : Int) + (1 * (2 : Int) + 0) = _; rfl), k_fnC (b := 9) (j_fn hS (j_g0 k 0 0 0 0) hf (j_in_row hS _ (t := 2) (by omega))) rfl (by show (0 : Int) + (1 * (k : Int) + 0) = _; omega), trivial⟩
  obtain ⟨rv2, res2, w2, hh, hr2, hp2, hP2, hD2, hT2⟩ := hj (j_c128_25, k_rv [(a1 : Int), (1 : Int), y2.toInt, (2 : Int), y4.toInt, y5.toInt, (k : Int), (rw : Int), (r 1 : Int), (r 2 : Int), v], j_tg w a1 rw r, j_g0 k 0 0 0 0) j_pm128_25 rfl rfl hpd.1 hpd.2 (j_TW (D := D) I.2.2.1 I.2.1 hS I.2.2.2.2.1 _)
  obtain ⟨x9, rfl, rfl, -, -⟩ := hr2
  have hx9 : x9 = r9 := by injection (Option.some.inj hh)
  subst hx9
  obtain ⟨he2, -, d, hd, rr, p1, p2, p3, p4, -⟩ := hp2
  have e1 : rr 1 = (a1 : Int) := p1 1 (by show 1 < c_entryN j_c128_25; decide)
  have e2 : rr 2 = (1 : Int) := p1 2 (by show 2 < c_entryN j_c128_25; decide)
  have e3 : rr 3 = y2.toInt := p1 3 (by show 3 < c_entryN j_c128_25; decide)
  have e4 : rr 4 = (2 : Int) := p1 4 (by show 4 < c_entryN j_c128_25; decide)
  have e5 : rr 5 = y4.toInt := p1 5 (by show 5 < c_entryN j_c128_25; decide)
  have e6 : rr 6 = y5.toInt := p1 6 (by show 6 < c_entryN j_c128_25; decide)
  have e7 : rr 7 = (k : Int) := p1 7 (by show 7 < c_entryN j_c128_25; decide)
  have e8 : rr 8 = (rw : Int) := p1 8 (by show 8 < c_entryN j_c128_25; decide)
  have e9 : rr 9 = (r 1 : Int) := p1 9 (by show 9 < c_entryN j_c128_25; decide)
  have e10 : rr 10 = (r 2 : Int) := p1 10 (by show 10 < c_entryN j_c128_25; decide)
  have e11 : rr 11 = v := p1 11 (by show 11 < c_entryN j_c128_25; decide)
  have er : rr 12 = x9.toInt := p2 0 _ rfl
  have hin2 := k_inK he2 (by show ((ct_pros j_c128_25).all fun t => Nat.ble 101 t) = true; decide +kernel) (by decide) (j_in_row hS (j_g0 k 0 0 0 0) (t := 2) (by omega))
  have hd : d ∈ ct_post j_c128_25 := hd
  simp only [ct_post, j_c128_25, List.mem_cons, List.not_mem_nil, or_false] at hd
  subst hd
  have hc : k_fn w2 (r 2) 92 k (rr 13) := k_fnD (b := 9) (p3 0 _ rfl) e10 (by show (0 : Int) + (1 * rr 7 + 0) = _; rw [e7]; omega) hin2
  simp only [List.forall_mem_cons, c_ev, c_evs, List.not_mem_nil, false_implies, implies_true, and_true, e11, er] at p4
  exact ⟨rr 13, j_back I1.1 hP2 I1.2.2.1 hT2 (hS1.2.2.1 2 (by omega)).2 rfl rfl hc, by omega⟩
theorem k_pourC7g12 {k : Nat} {v : Int} {y1 y2 y3 y4 y5 r9 : Int32} (I : k_In s D dA a1 a2 w H locs) (hS : k_S7 a1 a2 w rw nm r) (I1 : k_In s D dA a1 a2 w' H' locs') (hS1 : k_S7 a1 a2 w' rw nm r) (hj : j_Ex0 s D dA 128 w [.ref a1, .int y1, .int y2, .int y3, .int y4, .int y5] H' [.int r9]) (hy1 : y1.toInt = 1) (hy3 : y3.toInt = 2) (h4 : y4.toInt + y5.toInt ≤ (k : Int)) (hk : k < 60) (hf : k_fn w (r 2) 17 k v) : ∃ v', k_fn w' (r 2) 17 k v' ∧ v' = v := by
  have hpd := k_preD (ct := j_c128_26) (r := k_rv [(a1 : Int), (1 : Int), y2.toInt, (2 : Int), y4.toInt, y5.toInt, (k : Int), (rw : Int), (r 1 : Int), (r 2 : Int), v]) (vals := [.ref a1, .int y1, .int y2, .int y3, .int y4, .int y5]) (w := j_w w a1 rw r (j_g0 k 0 0 0 0)) (by decide +kernel) ⟨(by show (0 : Int) ≤ (0) + ((-1) * y4.toInt + ((-1) * y5.toInt + ((1) * (k : Int) + (0)))); omega), (by show (0 : Int) ≤ (3) + (0); omega), trivial⟩ ⟨k_aR (j_in_a1 hS _ I.2.2.2.2.1), ⟨_, rfl, hy1, Int.le_refl _, Int.le_refl _⟩, k_aI _, ⟨_, rfl, hy3, Int.le_refl _, Int.le_refl _⟩, k_aI _, k_aI _, trivial⟩ ⟨⟨40, rfl, c_gv_id40 (by show (0 : Int) ≤ (k : Int); omega) (by show (k : Int) ≤ 59; omega)⟩, k_fnC (b := 0) (j_fn hS (j_g0 k 0 0 0 0) hS.1 (j_in_a1 hS _ I.2.2.2.2.1)) rfl rfl, k_fnC (b := 7) (j_fn hS (j_g0 k 0 0 0 0) (hS.2.2.1 1 (by omega)).1 (j_in_rw hS _)) rfl (by show (0 : Int) + (1 * (1 : Int) + 0) = _; rfl), k_fnC (b := 7) (j_fn hS (j_g0 k 0 0 0 0) (hS.2.2.1 2 (by omega)).1 (j_in_rw hS _)) rfl (by show (0 : Int) + (1 * (2 : Int) + 0) = _; rfl), k_fnC (b := 9) (j_fn hS (j_g0 k 0 0 0 0) hf (j_in_row hS _ (t := 2) (by omega))) rfl (by show (0 : Int) + (1 * (k : Int) + 0) = _; omega), trivial⟩
  obtain ⟨rv2, res2, w2, hh, hr2, hp2, hP2, hD2, hT2⟩ := hj (j_c128_26, k_rv [(a1 : Int), (1 : Int), y2.toInt, (2 : Int), y4.toInt, y5.toInt, (k : Int), (rw : Int), (r 1 : Int), (r 2 : Int), v], j_tg w a1 rw r, j_g0 k 0 0 0 0) j_pm128_26 rfl rfl hpd.1 hpd.2 (j_TW (D := D) I.2.2.1 I.2.1 hS I.2.2.2.2.1 _)
  obtain ⟨x9, rfl, rfl, -, -⟩ := hr2
  have hx9 : x9 = r9 := by injection (Option.some.inj hh)
  subst hx9
  obtain ⟨he2, -, d, hd, rr, p1, p2, p3, p4, -⟩ := hp2
  have e1 : rr 1 = (a1 : Int) := p1 1 (by show 1 < c_entryN j_c128_26; decide)
  have e2 : rr 2 = (1 : Int) := p1 2 (by show 2 < c_entryN j_c128_26; decide)
  have e3 : rr 3 = y2.toInt := p1 3 (by show 3 < c_entryN j_c128_26; decide)
  have e4 : rr 4 = (2 : Int) := p1 4 (by show 4 < c_entryN j_c128_26; decide)
  have e5 : rr 5 = y4.toInt := p1 5 (by show 5 < c_entryN j_c128_26; decide)
  have e6 : rr 6 = y5.toInt := p1 6 (by show 6 < c_entryN j_c128_26; decide)
  have e7 : rr 7 = (k : Int) := p1 7 (by show 7 < c_entryN j_c128_26; decide)
  have e8 : rr 8 = (rw : Int) := p1 8 (by show 8 < c_entryN j_c128_26; decide)
  have e9 : rr 9 = (r 1 : Int) := p1 9 (by show 9 < c_entryN j_c128_26; decide)
  have e10 : rr 10 = (r 2 : Int) := p1 10 (by show 10 < c_entryN j_c128_26; decide)
  have e11 : rr 11 = v := p1 11 (by show 11 < c_entryN j_c128_26; decide)
  have er : rr 12 = x9.toInt := p2 0 _ rfl
  have hin2 := k_inK he2 (by show ((ct_pros j_c128_26).all fun t => Nat.ble 101 t) = true; decide +kernel) (by decide) (j_in_row hS (j_g0 k 0 0 0 0) (t := 2) (by omega))
  have hd : d ∈ ct_post j_c128_26 := hd
  simp only [ct_post, j_c128_26, List.mem_cons, List.not_mem_nil, or_false] at hd
  subst hd
  have hc : k_fn w2 (r 2) 92 k (rr 13) := k_fnD (b := 9) (p3 0 _ rfl) e10 (by show (0 : Int) + (1 * rr 7 + 0) = _; rw [e7]; omega) hin2
  simp only [List.forall_mem_cons, c_ev, c_evs, List.not_mem_nil, false_implies, implies_true, and_true, e11, er] at p4
  exact ⟨rr 13, j_back I1.1 hP2 I1.2.2.1 hT2 (hS1.2.2.1 2 (by omega)).2 rfl rfl hc, by omega⟩
theorem k_pourC7r12 {k : Nat} {v : Int} {y1 y2 y3 y4 y5 r9 : Int32} (I : k_In s D dA a1 a2 w H locs) (hS : k_S7 a1 a2 w rw nm r) (I1 : k_In s D dA a1 a2 w' H' locs') (hS1 : k_S7 a1 a2 w' rw nm r) (hj : j_Ex0 s D dA 128 w [.ref a1, .int y1, .int y2, .int y3, .int y4, .int y5] H' [.int r9]) (hy1 : y1.toInt = 1) (hy3 : y3.toInt = 2) (h0 : r9.toInt = 0) (hk : k < 60) (hf : k_fn w (r 2) 17 k v) : k_fn w' (r 2) 17 k v := by
  have hpd := k_preD (ct := j_c128_27) (r := k_rv [(a1 : Int), (1 : Int), y2.toInt, (2 : Int), y4.toInt, y5.toInt, (k : Int), (rw : Int), (r 1 : Int), (r 2 : Int), v]) (vals := [.ref a1, .int y1, .int y2, .int y3, .int y4, .int y5]) (w := j_w w a1 rw r (j_g0 k 0 0 0 0)) (by decide +kernel) ⟨(by show (0 : Int) ≤ (3) + (0); omega), trivial⟩ ⟨k_aR (j_in_a1 hS _ I.2.2.2.2.1), ⟨_, rfl, hy1, Int.le_refl _, Int.le_refl _⟩, k_aI _, ⟨_, rfl, hy3, Int.le_refl _, Int.le_refl _⟩, k_aI _, k_aI _, trivial⟩ ⟨⟨40, rfl, c_gv_id40 (by show (0 : Int) ≤ (k : Int); omega) (by show (k : Int) ≤ 59; omega)⟩, k_fnC (b := 0) (j_fn hS (j_g0 k 0 0 0 0) hS.1 (j_in_a1 hS _ I.2.2.2.2.1)) rfl rfl, k_fnC (b := 7) (j_fn hS (j_g0 k 0 0 0 0) (hS.2.2.1 1 (by omega)).1 (j_in_rw hS _)) rfl (by show (0 : Int) + (1 * (1 : Int) + 0) = _; rfl), k_fnC (b := 7) (j_fn hS (j_g0 k 0 0 0 0) (hS.2.2.1 2 (by omega)).1 (j_in_rw hS _)) rfl (by show (0 : Int) + (1 * (2 : Int) + 0) = _; rfl), k_fnC (b := 9) (j_fn hS (j_g0 k 0 0 0 0) hf (j_in_row hS _ (t := 2) (by omega))) rfl (by show (0 : Int) + (1 * (k : Int) + 0) = _; omega), trivial⟩
  obtain ⟨rv2, res2, w2, hh, hr2, hp2, hP2, hD2, hT2⟩ := hj (j_c128_27, k_rv [(a1 : Int), (1 : Int), y2.toInt, (2 : Int), y4.toInt, y5.toInt, (k : Int), (rw : Int), (r 1 : Int), (r 2 : Int), v], j_tg w a1 rw r, j_g0 k 0 0 0 0) j_pm128_27 rfl rfl hpd.1 hpd.2 (j_TW (D := D) I.2.2.1 I.2.1 hS I.2.2.2.2.1 _)
  obtain ⟨x9, rfl, rfl, -, -⟩ := hr2
  have hx9 : x9 = r9 := by injection (Option.some.inj hh)
  subst hx9
  obtain ⟨he2, -, d, hd, rr, p1, p2, p3, p4, -⟩ := hp2
  have e1 : rr 1 = (a1 : Int) := p1 1 (by show 1 < c_entryN j_c128_27; decide)
  have e2 : rr 2 = (1 : Int) := p1 2 (by show 2 < c_entryN j_c128_27; decide)
  have e3 : rr 3 = y2.toInt := p1 3 (by show 3 < c_entryN j_c128_27; decide)
  have e4 : rr 4 = (2 : Int) := p1 4 (by show 4 < c_entryN j_c128_27; decide)
  have e5 : rr 5 = y4.toInt := p1 5 (by show 5 < c_entryN j_c128_27; decide)
  have e6 : rr 6 = y5.toInt := p1 6 (by show 6 < c_entryN j_c128_27; decide)
  have e7 : rr 7 = (k : Int) := p1 7 (by show 7 < c_entryN j_c128_27; decide)
  have e8 : rr 8 = (rw : Int) := p1 8 (by show 8 < c_entryN j_c128_27; decide)
  have e9 : rr 9 = (r 1 : Int) := p1 9 (by show 9 < c_entryN j_c128_27; decide)
  have e10 : rr 10 = (r 2 : Int) := p1 10 (by show 10 < c_entryN j_c128_27; decide)
  have e11 : rr 11 = v := p1 11 (by show 11 < c_entryN j_c128_27; decide)
  have er : rr 12 = x9.toInt := p2 0 _ rfl
  have hin2 := k_inK he2 (by show ((ct_pros j_c128_27).all fun t => Nat.ble 101 t) = true; decide +kernel) (by decide) (j_in_row hS (j_g0 k 0 0 0 0) (t := 2) (by omega))
  have hd : d ∈ ct_post j_c128_27 := hd
  simp only [ct_post, j_c128_27, List.mem_cons, List.not_mem_nil, or_false] at hd
  rcases hd with rfl | rfl
  · have hc : k_fn w2 (r 2) 92 k (rr 13) := k_fnD (b := 9) (p3 0 _ rfl) e10 (by show (0 : Int) + (1 * rr 7 + 0) = _; rw [e7]; omega) hin2
    simp only [List.forall_mem_cons, c_ev, c_evs, List.not_mem_nil, false_implies, implies_true, and_true, e11, er] at p4
    have hv : rr 13 = v := by omega
    rw [hv] at hc
    exact j_back I1.1 hP2 I1.2.2.1 hT2 (hS1.2.2.1 2 (by omega)).2 rfl rfl hc
  · simp only [List.forall_mem_cons, c_ev, c_evs, List.not_mem_nil, false_implies, implies_true, and_true, er] at p4
    omega
theorem k_pourC7o12 {k t : Nat} {v v0 : Int} {y1 y2 y3 y4 y5 r9 : Int32} (I : k_In s D dA a1 a2 w H locs) (hS : k_S7 a1 a2 w rw nm r) (I1 : k_In s D dA a1 a2 w' H' locs') (hS1 : k_S7 a1 a2 w' rw nm r) (hj : j_Ex0 s D dA 128 w [.ref a1, .int y1, .int y2, .int y3, .int y4, .int y5] H' [.int r9]) (hy1 : y1.toInt = 1) (hy3 : y3.toInt = 2) (ht : t < 4) (hne : t ≠ 2) (hk : k < 60) (hf0 : k_fn w (r 2) 17 k v0) (hf : k_fn w (r t) 17 k v) : k_fn w' (r t) 17 k v := by
  have hpd := k_preD (ct := j_c128_27) (r := k_rv [(a1 : Int), (1 : Int), y2.toInt, (2 : Int), y4.toInt, y5.toInt, (k : Int), (rw : Int), (r 1 : Int), (r 2 : Int), v0]) (vals := [.ref a1, .int y1, .int y2, .int y3, .int y4, .int y5]) (w := j_w w a1 rw r (j_g0 k 0 0 0 0)) (by decide +kernel) ⟨(by show (0 : Int) ≤ (3) + (0); omega), trivial⟩ ⟨k_aR (j_in_a1 hS _ I.2.2.2.2.1), ⟨_, rfl, hy1, Int.le_refl _, Int.le_refl _⟩, k_aI _, ⟨_, rfl, hy3, Int.le_refl _, Int.le_refl _⟩, k_aI _, k_aI _, trivial⟩ ⟨⟨40, rfl, c_gv_id40 (by show (0 : Int) ≤ (k : Int); omega) (by show (k : Int) ≤ 59; omega)⟩, k_fnC (b := 0) (j_fn hS (j_g0 k 0 0 0 0) hS.1 (j_in_a1 hS _ I.2.2.2.2.1)) rfl rfl, k_fnC (b := 7) (j_fn hS (j_g0 k 0 0 0 0) (hS.2.2.1 1 (by omega)).1 (j_in_rw hS _)) rfl (by show (0 : Int) + (1 * (1 : Int) + 0) = _; rfl), k_fnC (b := 7) (j_fn hS (j_g0 k 0 0 0 0) (hS.2.2.1 2 (by omega)).1 (j_in_rw hS _)) rfl (by show (0 : Int) + (1 * (2 : Int) + 0) = _; rfl), k_fnC (b := 9) (j_fn hS (j_g0 k 0 0 0 0) hf0 (j_in_row hS _ (t := 2) (by omega))) rfl (by show (0 : Int) + (1 * (k : Int) + 0) = _; omega), trivial⟩
  obtain ⟨rv2, res2, w2, hh, hr2, hp2, hP2, hD2, hT2⟩ := hj (j_c128_27, k_rv [(a1 : Int), (1 : Int), y2.toInt, (2 : Int), y4.toInt, y5.toInt, (k : Int), (rw : Int), (r 1 : Int), (r 2 : Int), v0], j_tg w a1 rw r, j_g0 k 0 0 0 0) j_pm128_27 rfl rfl hpd.1 hpd.2 (j_TW (D := D) I.2.2.1 I.2.1 hS I.2.2.2.2.1 _)
  obtain ⟨he2, -⟩ := hp2
  exact j_rowK hS I1 hS1 he2 (by show ((ct_pros j_c128_27).all fun t => Nat.ble 101 t) = true; decide +kernel) hP2 hT2 ht (k_none_ok (by show k_none (ct_eff j_c128_27) (90 + t) = true; rcases (show t = 0 ∨ t = 1 ∨ t = 3 by omega) with rfl | rfl | rfl <;> decide +kernel) _ _) hf
theorem k_pourC7i13 {k k9 : Nat} {u v : Int} {y1 y2 y3 y4 y5 r9 : Int32} (I : k_In s D dA a1 a2 w H locs) (hS : k_S7 a1 a2 w rw nm r) (I1 : k_In s D dA a1 a2 w' H' locs') (hS1 : k_S7 a1 a2 w' rw nm r) (hj : j_Ex0 s D dA 128 w [.ref a1, .int y1, .int y2, .int y3, .int y4, .int y5] H' [.int r9]) (hy1 : y1.toInt = 1) (hy3 : y3.toInt = 3) (h4 : y4.toInt ≤ (k : Int)) (h5 : (k : Int) < y4.toInt + y5.toInt) (h9 : (k9 : Int) = y2.toInt - y4.toInt + (k : Int)) (hk9 : k9 < 60) (hk : k < 60) (hs9 : k_fn w (r 1) 17 k9 u) (hf : k_fn w (r 3) 17 k v) : ∃ v', k_fn w' (r 3) 17 k v' ∧ ((r9.toInt = 1 ∧ v' = u) ∨ (r9.toInt = 0 ∧ v' = v)) := by
  have hpd := k_preD (ct := j_c128_28) (r := k_rv [(a1 : Int), (1 : Int), y2.toInt, (3 : Int), y4.toInt, y5.toInt, (k : Int), (rw : Int), (r 1 : Int), (r 3 : Int), u, v]) (vals := [.ref a1, .int y1, .int y2, .int y3, .int y4, .int y5]) (w := j_w w a1 rw r (j_g0 k 0 0 0 0)) (by decide +kernel) ⟨(by show (0 : Int) ≤ (0) + ((-1) * y4.toInt + ((1) * (k : Int) + (0))); omega), (by show (0 : Int) ≤ (-1) + ((1) * y4.toInt + ((1) * y5.toInt + ((-1) * (k : Int) + (0)))); omega), (by show (0 : Int) ≤ (0) + ((1) * y2.toInt + ((-1) * y4.toInt + ((1) * (k : Int) + (0)))); omega), (by show (0 : Int) ≤ (59) + ((-1) * y2.toInt + ((1) * y4.toInt + ((-1) * (k : Int) + (0)))); omega), (by show (0 : Int) ≤ (3) + (0); omega), trivial⟩ ⟨k_aR (j_in_a1 hS _ I.2.2.2.2.1), ⟨_, rfl, hy1, Int.le_refl _, Int.le_refl _⟩, k_aI _, ⟨_, rfl, hy3, Int.le_refl _, Int.le_refl _⟩, k_aI _, k_aI _, trivial⟩ ⟨⟨40, rfl, c_gv_id40 (by show (0 : Int) ≤ (k : Int); omega) (by show (k : Int) ≤ 59; omega)⟩, k_fnC (b := 0) (j_fn hS (j_g0 k 0 0 0 0) hS.1 (j_in_a1 hS _ I.2.2.2.2.1)) rfl rfl, k_fnC (b := 7) (j_fn hS (j_g0 k 0 0 0 0) (hS.2.2.1 1 (by omega)).1 (j_in_rw hS _)) rfl (by show (0 : Int) + (1 * (1 : Int) + 0) = _; rfl), k_fnC (b := 7) (j_fn hS (j_g0 k 0 0 0 0) (hS.2.2.1 3 (by omega)).1 (j_in_rw hS _)) rfl (by show (0 : Int) + (1 * (3 : Int) + 0) = _; rfl), k_fnC (b := 8) (j_fn hS (j_g0 k 0 0 0 0) hs9 (j_in_row hS _ (t := 1) (by omega))) rfl (by show (0 : Int) + (1 * y2.toInt + ((-1) * y4.toInt + (1 * (k : Int) + 0))) = _; omega), k_fnC (b := 9) (j_fn hS (j_g0 k 0 0 0 0) hf (j_in_row hS _ (t := 3) (by omega))) rfl (by show (0 : Int) + (1 * (k : Int) + 0) = _; omega), trivial⟩
  obtain ⟨rv2, res2, w2, hh, hr2, hp2, hP2, hD2, hT2⟩ := hj (j_c128_28, k_rv [(a1 : Int), (1 : Int), y2.toInt, (3 : Int), y4.toInt, y5.toInt, (k : Int), (rw : Int), (r 1 : Int), (r 3 : Int), u, v], j_tg w a1 rw r, j_g0 k 0 0 0 0) j_pm128_28 rfl rfl hpd.1 hpd.2 (j_TW (D := D) I.2.2.1 I.2.1 hS I.2.2.2.2.1 _)
  obtain ⟨x9, rfl, rfl, -, -⟩ := hr2
  have hx9 : x9 = r9 := by injection (Option.some.inj hh)
  subst hx9
  obtain ⟨he2, -, d, hd, rr, p1, p2, p3, p4, -⟩ := hp2
  have e1 : rr 1 = (a1 : Int) := p1 1 (by show 1 < c_entryN j_c128_28; decide)
  have e2 : rr 2 = (1 : Int) := p1 2 (by show 2 < c_entryN j_c128_28; decide)
  have e3 : rr 3 = y2.toInt := p1 3 (by show 3 < c_entryN j_c128_28; decide)
  have e4 : rr 4 = (3 : Int) := p1 4 (by show 4 < c_entryN j_c128_28; decide)
  have e5 : rr 5 = y4.toInt := p1 5 (by show 5 < c_entryN j_c128_28; decide)
  have e6 : rr 6 = y5.toInt := p1 6 (by show 6 < c_entryN j_c128_28; decide)
  have e7 : rr 7 = (k : Int) := p1 7 (by show 7 < c_entryN j_c128_28; decide)
  have e8 : rr 8 = (rw : Int) := p1 8 (by show 8 < c_entryN j_c128_28; decide)
  have e9 : rr 9 = (r 1 : Int) := p1 9 (by show 9 < c_entryN j_c128_28; decide)
  have e10 : rr 10 = (r 3 : Int) := p1 10 (by show 10 < c_entryN j_c128_28; decide)
  have e11 : rr 11 = u := p1 11 (by show 11 < c_entryN j_c128_28; decide)
  have e12 : rr 12 = v := p1 12 (by show 12 < c_entryN j_c128_28; decide)
  have er : rr 13 = x9.toInt := p2 0 _ rfl
  have hin2 := k_inK he2 (by show ((ct_pros j_c128_28).all fun t => Nat.ble 101 t) = true; decide +kernel) (by decide) (j_in_row hS (j_g0 k 0 0 0 0) (t := 3) (by omega))
  have hd : d ∈ ct_post j_c128_28 := hd
  simp only [ct_post, j_c128_28, List.mem_cons, List.not_mem_nil, or_false] at hd
  rcases hd with rfl | rfl
  all_goals
    have hc : k_fn w2 (r 3) 93 k (rr 14) := k_fnD (b := 9) (p3 0 _ rfl) e10 (by show (0 : Int) + (1 * rr 7 + 0) = _; rw [e7]; omega) hin2
    simp only [List.forall_mem_cons, c_ev, c_evs, List.not_mem_nil, false_implies, implies_true, and_true, e11, e12, er] at p4
    exact ⟨rr 14, j_back I1.1 hP2 I1.2.2.1 hT2 (hS1.2.2.1 3 (by omega)).2 rfl rfl hc, by omega⟩
theorem k_pourC7l13 {k : Nat} {v : Int} {y1 y2 y3 y4 y5 r9 : Int32} (I : k_In s D dA a1 a2 w H locs) (hS : k_S7 a1 a2 w rw nm r) (I1 : k_In s D dA a1 a2 w' H' locs') (hS1 : k_S7 a1 a2 w' rw nm r) (hj : j_Ex0 s D dA 128 w [.ref a1, .int y1, .int y2, .int y3, .int y4, .int y5] H' [.int r9]) (hy1 : y1.toInt = 1) (hy3 : y3.toInt = 3) (h4 : (k : Int) < y4.toInt) (hk : k < 60) (hf : k_fn w (r 3) 17 k v) : ∃ v', k_fn w' (r 3) 17 k v' ∧ v' = v := by
  have hpd := k_preD (ct := j_c128_29) (r := k_rv [(a1 : Int), (1 : Int), y2.toInt, (3 : Int), y4.toInt, y5.toInt, (k : Int), (rw : Int), (r 1 : Int), (r 3 : Int), v]) (vals := [.ref a1, .int y1, .int y2, .int y3, .int y4, .int y5]) (w := j_w w a1 rw r (j_g0 k 0 0 0 0)) (by decide +kernel) ⟨(by show (0 : Int) ≤ (-1) + ((1) * y4.toInt + ((-1) * (k : Int) + (0))); omega), (by show (0 : Int) ≤ (3) + (0); omega), trivial⟩ ⟨k_aR (j_in_a1 hS _ I.2.2.2.2.1), ⟨_, rfl, hy1, Int.le_refl _, Int.le_refl _⟩, k_aI _, ⟨_, rfl, hy3, Int.le_refl _, Int.le_refl _⟩, k_aI _, k_aI _, trivial⟩ ⟨⟨40, rfl, c_gv_id40 (by show (0 : Int) ≤ (k : Int); omega) (by show (k : Int) ≤ 59; omega)⟩, k_fnC (b := 0) (j_fn hS (j_g0 k 0 0 0 0) hS.1 (j_in_a1 hS _ I.2.2.2.2.1)) rfl rfl, k_fnC (b := 7) (j_fn hS (j_g0 k 0 0 0 0) (hS.2.2.1 1 (by omega)).1 (j_in_rw hS _)) rfl (by show (0 : Int) + (1 * (1 : Int) + 0) = _; rfl), k_fnC (b := 7) (j_fn hS (j_g0 k 0 0 0 0) (hS.2.2.1 3 (by omega)).1 (j_in_rw hS _)) rfl (by show (0 : Int) + (1 * (3 : Int) + 0) = _; rfl), k_fnC (b := 9) (j_fn hS (j_g0 k 0 0 0 0) hf (j_in_row hS _ (t := 3) (by omega))) rfl (by show (0 : Int) + (1 * (k : Int) + 0) = _; omega), trivial⟩
  obtain ⟨rv2, res2, w2, hh, hr2, hp2, hP2, hD2, hT2⟩ := hj (j_c128_29, k_rv [(a1 : Int), (1 : Int), y2.toInt, (3 : Int), y4.toInt, y5.toInt, (k : Int), (rw : Int), (r 1 : Int), (r 3 : Int), v], j_tg w a1 rw r, j_g0 k 0 0 0 0) j_pm128_29 rfl rfl hpd.1 hpd.2 (j_TW (D := D) I.2.2.1 I.2.1 hS I.2.2.2.2.1 _)
  obtain ⟨x9, rfl, rfl, -, -⟩ := hr2
  have hx9 : x9 = r9 := by injection (Option.some.inj hh)
  subst hx9
  obtain ⟨he2, -, d, hd, rr, p1, p2, p3, p4, -⟩ := hp2
  have e1 : rr 1 = (a1 : Int) := p1 1 (by show 1 < c_entryN j_c128_29; decide)
  have e2 : rr 2 = (1 : Int) := p1 2 (by show 2 < c_entryN j_c128_29; decide)
  have e3 : rr 3 = y2.toInt := p1 3 (by show 3 < c_entryN j_c128_29; decide)
  have e4 : rr 4 = (3 : Int) := p1 4 (by show 4 < c_entryN j_c128_29; decide)
  have e5 : rr 5 = y4.toInt := p1 5 (by show 5 < c_entryN j_c128_29; decide)
  have e6 : rr 6 = y5.toInt := p1 6 (by show 6 < c_entryN j_c128_29; decide)
  have e7 : rr 7 = (k : Int) := p1 7 (by show 7 < c_entryN j_c128_29; decide)
  have e8 : rr 8 = (rw : Int) := p1 8 (by show 8 < c_entryN j_c128_29; decide)
  have e9 : rr 9 = (r 1 : Int) := p1 9 (by show 9 < c_entryN j_c128_29; decide)
  have e10 : rr 10 = (r 3 : Int) := p1 10 (by show 10 < c_entryN j_c128_29; decide)
  have e11 : rr 11 = v := p1 11 (by show 11 < c_entryN j_c128_29; decide)
  have er : rr 12 = x9.toInt := p2 0 _ rfl
  have hin2 := k_inK he2 (by show ((ct_pros j_c128_29).all fun t => Nat.ble 101 t) = true; decide +kernel) (by decide) (j_in_row hS (j_g0 k 0 0 0 0) (t := 3) (by omega))
  have hd : d ∈ ct_post j_c128_29 := hd
  simp only [ct_post, j_c128_29, List.mem_cons, List.not_mem_nil, or_false] at hd
  subst hd
  have hc : k_fn w2 (r 3) 93 k (rr 13) := k_fnD (b := 9) (p3 0 _ rfl) e10 (by show (0 : Int) + (1 * rr 7 + 0) = _; rw [e7]; omega) hin2
  simp only [List.forall_mem_cons, c_ev, c_evs, List.not_mem_nil, false_implies, implies_true, and_true, e11, er] at p4
  exact ⟨rr 13, j_back I1.1 hP2 I1.2.2.1 hT2 (hS1.2.2.1 3 (by omega)).2 rfl rfl hc, by omega⟩
theorem k_pourC7g13 {k : Nat} {v : Int} {y1 y2 y3 y4 y5 r9 : Int32} (I : k_In s D dA a1 a2 w H locs) (hS : k_S7 a1 a2 w rw nm r) (I1 : k_In s D dA a1 a2 w' H' locs') (hS1 : k_S7 a1 a2 w' rw nm r) (hj : j_Ex0 s D dA 128 w [.ref a1, .int y1, .int y2, .int y3, .int y4, .int y5] H' [.int r9]) (hy1 : y1.toInt = 1) (hy3 : y3.toInt = 3) (h4 : y4.toInt + y5.toInt ≤ (k : Int)) (hk : k < 60) (hf : k_fn w (r 3) 17 k v) : ∃ v', k_fn w' (r 3) 17 k v' ∧ v' = v := by
  have hpd := k_preD (ct := j_c128_30) (r := k_rv [(a1 : Int), (1 : Int), y2.toInt, (3 : Int), y4.toInt, y5.toInt, (k : Int), (rw : Int), (r 1 : Int), (r 3 : Int), v]) (vals := [.ref a1, .int y1, .int y2, .int y3, .int y4, .int y5]) (w := j_w w a1 rw r (j_g0 k 0 0 0 0)) (by decide +kernel) ⟨(by show (0 : Int) ≤ (0) + ((-1) * y4.toInt + ((-1) * y5.toInt + ((1) * (k : Int) + (0)))); omega), (by show (0 : Int) ≤ (3) + (0); omega), trivial⟩ ⟨k_aR (j_in_a1 hS _ I.2.2.2.2.1), ⟨_, rfl, hy1, Int.le_refl _, Int.le_refl _⟩, k_aI _, ⟨_, rfl, hy3, Int.le_refl _, Int.le_refl _⟩, k_aI _, k_aI _, trivial⟩ ⟨⟨40, rfl, c_gv_id40 (by show (0 : Int) ≤ (k : Int); omega) (by show (k : Int) ≤ 59; omega)⟩, k_fnC (b := 0) (j_fn hS (j_g0 k 0 0 0 0) hS.1 (j_in_a1 hS _ I.2.2.2.2.1)) rfl rfl, k_fnC (b := 7) (j_fn hS (j_g0 k 0 0 0 0) (hS.2.2.1 1 (by omega)).1 (j_in_rw hS _)) rfl (by show (0 : Int) + (1 * (1 : Int) + 0) = _; rfl), k_fnC (b := 7) (j_fn hS (j_g0 k 0 0 0 0) (hS.2.2.1 3 (by omega)).1 (j_in_rw hS _)) rfl (by show (0 : Int) + (1 * (3 : Int) + 0) = _; rfl), k_fnC (b := 9) (j_fn hS (j_g0 k 0 0 0 0) hf (j_in_row hS _ (t := 3) (by omega))) rfl (by show (0 : Int) + (1 * (k : Int) + 0) = _; omega), trivial⟩
  obtain ⟨rv2, res2, w2, hh, hr2, hp2, hP2, hD2, hT2⟩ := hj (j_c128_30, k_rv [(a1 : Int), (1 : Int), y2.toInt, (3 : Int), y4.toInt, y5.toInt, (k : Int), (rw : Int), (r 1 : Int), (r 3 : Int), v], j_tg w a1 rw r, j_g0 k 0 0 0 0) j_pm128_30 rfl rfl hpd.1 hpd.2 (j_TW (D := D) I.2.2.1 I.2.1 hS I.2.2.2.2.1 _)
  obtain ⟨x9, rfl, rfl, -, -⟩ := hr2
  have hx9 : x9 = r9 := by injection (Option.some.inj hh)
  subst hx9
  obtain ⟨he2, -, d, hd, rr, p1, p2, p3, p4, -⟩ := hp2
  have e1 : rr 1 = (a1 : Int) := p1 1 (by show 1 < c_entryN j_c128_30; decide)
  have e2 : rr 2 = (1 : Int) := p1 2 (by show 2 < c_entryN j_c128_30; decide)
  have e3 : rr 3 = y2.toInt := p1 3 (by show 3 < c_entryN j_c128_30; decide)
  have e4 : rr 4 = (3 : Int) := p1 4 (by show 4 < c_entryN j_c128_30; decide)
  have e5 : rr 5 = y4.toInt := p1 5 (by show 5 < c_entryN j_c128_30; decide)
  have e6 : rr 6 = y5.toInt := p1 6 (by show 6 < c_entryN j_c128_30; decide)
  have e7 : rr 7 = (k : Int) := p1 7 (by show 7 < c_entryN j_c128_30; decide)
  have e8 : rr 8 = (rw : Int) := p1 8 (by show 8 < c_entryN j_c128_30; decide)
  have e9 : rr 9 = (r 1 : Int) := p1 9 (by show 9 < c_entryN j_c128_30; decide)
  have e10 : rr 10 = (r 3 : Int) := p1 10 (by show 10 < c_entryN j_c128_30; decide)
  have e11 : rr 11 = v := p1 11 (by show 11 < c_entryN j_c128_30; decide)
  have er : rr 12 = x9.toInt := p2 0 _ rfl
  have hin2 := k_inK he2 (by show ((ct_pros j_c128_30).all fun t => Nat.ble 101 t) = true; decide +kernel) (by decide) (j_in_row hS (j_g0 k 0 0 0 0) (t := 3) (by omega))
  have hd : d ∈ ct_post j_c128_30 := hd
  simp only [ct_post, j_c128_30, List.mem_cons, List.not_mem_nil, or_false] at hd
  subst hd
  have hc : k_fn w2 (r 3) 93 k (rr 13) := k_fnD (b := 9) (p3 0 _ rfl) e10 (by show (0 : Int) + (1 * rr 7 + 0) = _; rw [e7]; omega) hin2
  simp only [List.forall_mem_cons, c_ev, c_evs, List.not_mem_nil, false_implies, implies_true, and_true, e11, er] at p4
  exact ⟨rr 13, j_back I1.1 hP2 I1.2.2.1 hT2 (hS1.2.2.1 3 (by omega)).2 rfl rfl hc, by omega⟩
theorem k_pourC7r13 {k : Nat} {v : Int} {y1 y2 y3 y4 y5 r9 : Int32} (I : k_In s D dA a1 a2 w H locs) (hS : k_S7 a1 a2 w rw nm r) (I1 : k_In s D dA a1 a2 w' H' locs') (hS1 : k_S7 a1 a2 w' rw nm r) (hj : j_Ex0 s D dA 128 w [.ref a1, .int y1, .int y2, .int y3, .int y4, .int y5] H' [.int r9]) (hy1 : y1.toInt = 1) (hy3 : y3.toInt = 3) (h0 : r9.toInt = 0) (hk : k < 60) (hf : k_fn w (r 3) 17 k v) : k_fn w' (r 3) 17 k v := by
  have hpd := k_preD (ct := j_c128_31) (r := k_rv [(a1 : Int), (1 : Int), y2.toInt, (3 : Int), y4.toInt, y5.toInt, (k : Int), (rw : Int), (r 1 : Int), (r 3 : Int), v]) (vals := [.ref a1, .int y1, .int y2, .int y3, .int y4, .int y5]) (w := j_w w a1 rw r (j_g0 k 0 0 0 0)) (by decide +kernel) ⟨(by show (0 : Int) ≤ (3) + (0); omega), trivial⟩ ⟨k_aR (j_in_a1 hS _ I.2.2.2.2.1), ⟨_, rfl, hy1, Int.le_refl _, Int.le_refl _⟩, k_aI _, ⟨_, rfl, hy3, Int.le_refl _, Int.le_refl _⟩, k_aI _, k_aI _, trivial⟩ ⟨⟨40, rfl, c_gv_id40 (by show (0 : Int) ≤ (k : Int); omega) (by show (k : Int) ≤ 59; omega)⟩, k_fnC (b := 0) (j_fn hS (j_g0 k 0 0 0 0) hS.1 (j_in_a1 hS _ I.2.2.2.2.1)) rfl rfl, k_fnC (b := 7) (j_fn hS (j_g0 k 0 0 0 0) (hS.2.2.1 1 (by omega)).1 (j_in_rw hS _)) rfl (by show (0 : Int) + (1 * (1 : Int) + 0) = _; rfl), k_fnC (b := 7) (j_fn hS (j_g0 k 0 0 0 0) (hS.2.2.1 3 (by omega)).1 (j_in_rw hS _)) rfl (by show (0 : Int) + (1 * (3 : Int) + 0) = _; rfl), k_fnC (b := 9) (j_fn hS (j_g0 k 0 0 0 0) hf (j_in_row hS _ (t := 3) (by omega))) rfl (by show (0 : Int) + (1 * (k : Int) + 0) = _; omega), trivial⟩
  obtain ⟨rv2, res2, w2, hh, hr2, hp2, hP2, hD2, hT2⟩ := hj (j_c128_31, k_rv [(a1 : Int), (1 : Int), y2.toInt, (3 : Int), y4.toInt, y5.toInt, (k : Int), (rw : Int), (r 1 : Int), (r 3 : Int), v], j_tg w a1 rw r, j_g0 k 0 0 0 0) j_pm128_31 rfl rfl hpd.1 hpd.2 (j_TW (D := D) I.2.2.1 I.2.1 hS I.2.2.2.2.1 _)
  obtain ⟨x9, rfl, rfl, -, -⟩ := hr2
  have hx9 : x9 = r9 := by injection (Option.some.inj hh)
  subst hx9
  obtain ⟨he2, -, d, hd, rr, p1, p2, p3, p4, -⟩ := hp2
  have e1 : rr 1 = (a1 : Int) := p1 1 (by show 1 < c_entryN j_c128_31; decide)
  have e2 : rr 2 = (1 : Int) := p1 2 (by show 2 < c_entryN j_c128_31; decide)
  have e3 : rr 3 = y2.toInt := p1 3 (by show 3 < c_entryN j_c128_31; decide)
  have e4 : rr 4 = (3 : Int) := p1 4 (by show 4 < c_entryN j_c128_31; decide)
  have e5 : rr 5 = y4.toInt := p1 5 (by show 5 < c_entryN j_c128_31; decide)
  have e6 : rr 6 = y5.toInt := p1 6 (by show 6 < c_entryN j_c128_31; decide)
  have e7 : rr 7 = (k : Int) := p1 7 (by show 7 < c_entryN j_c128_31; decide)
  have e8 : rr 8 = (rw : Int) := p1 8 (by show 8 < c_entryN j_c128_31; decide)
  have e9 : rr 9 = (r 1 : Int) := p1 9 (by show 9 < c_entryN j_c128_31; decide)
  have e10 : rr 10 = (r 3 : Int) := p1 10 (by show 10 < c_entryN j_c128_31; decide)
  have e11 : rr 11 = v := p1 11 (by show 11 < c_entryN j_c128_31; decide)
  have er : rr 12 = x9.toInt := p2 0 _ rfl
  have hin2 := k_inK he2 (by show ((ct_pros j_c128_31).all fun t => Nat.ble 101 t) = true; decide +kernel) (by decide) (j_in_row hS (j_g0 k 0 0 0 0) (t := 3) (by omega))
  have hd : d ∈ ct_post j_c128_31 := hd
  simp only [ct_post, j_c128_31, List.mem_cons, List.not_mem_nil, or_false] at hd
  rcases hd with rfl | rfl
  · have hc : k_fn w2 (r 3) 93 k (rr 13) := k_fnD (b := 9) (p3 0 _ rfl) e10 (by show (0 : Int) + (1 * rr 7 + 0) = _; rw [e7]; omega) hin2
    simp only [List.forall_mem_cons, c_ev, c_evs, List.not_mem_nil, false_implies, implies_true, and_true, e11, er] at p4
    have hv : rr 13 = v := by omega
    rw [hv] at hc
    exact j_back I1.1 hP2 I1.2.2.1 hT2 (hS1.2.2.1 3 (by omega)).2 rfl rfl hc
  · simp only [List.forall_mem_cons, c_ev, c_evs, List.not_mem_nil, false_implies, implies_true, and_true, er] at p4
    omega
theorem k_pourC7o13 {k t : Nat} {v v0 : Int} {y1 y2 y3 y4 y5 r9 : Int32} (I : k_In s D dA a1 a2 w H locs) (hS : k_S7 a1 a2 w rw nm r) (I1 : k_In s D dA a1 a2 w' H' locs') (hS1 : k_S7 a1 a2 w' rw nm r) (hj : j_Ex0 s D dA 128 w [.ref a1, .int y1, .int y2, .int y3, .int y4, .int y5] H' [.int r9]) (hy1 : y1.toInt = 1) (hy3 : y3.toInt = 3) (ht : t < 4) (hne : t ≠ 3) (hk : k < 60) (hf0 : k_fn w (r 3) 17 k v0) (hf : k_fn w (r t) 17 k v) : k_fn w' (r t) 17 k v := by
  have hpd := k_preD (ct := j_c128_31) (r := k_rv [(a1 : Int), (1 : Int), y2.toInt, (3 : Int), y4.toInt, y5.toInt, (k : Int), (rw : Int), (r 1 : Int), (r 3 : Int), v0]) (vals := [.ref a1, .int y1, .int y2, .int y3, .int y4, .int y5]) (w := j_w w a1 rw r (j_g0 k 0 0 0 0)) (by decide +kernel) ⟨(by show (0 : Int) ≤ (3) + (0); omega), trivial⟩ ⟨k_aR (j_in_a1 hS _ I.2.2.2.2.1), ⟨_, rfl, hy1, Int.le_refl _, Int.le_refl _⟩, k_aI _, ⟨_, rfl, hy3, Int.le_refl _, Int.le_refl _⟩, k_aI _, k_aI _, trivial⟩ ⟨⟨40, rfl, c_gv_id40 (by show (0 : Int) ≤ (k : Int); omega) (by show (k : Int) ≤ 59; omega)⟩, k_fnC (b := 0) (j_fn hS (j_g0 k 0 0 0 0) hS.1 (j_in_a1 hS _ I.2.2.2.2.1)) rfl rfl, k_fnC (b := 7) (j_fn hS (j_g0 k 0 0 0 0) (hS.2.2.1 1 (by omega)).1 (j_in_rw hS _)) rfl (by show (0 : Int) + (1 * (1 : Int) + 0) = _; rfl), k_fnC (b := 7) (j_fn hS (j_g0 k 0 0 0 0) (hS.2.2.1 3 (by omega)).1 (j_in_rw hS _)) rfl (by show (0 : Int) + (1 * (3 : Int) + 0) = _; rfl), k_fnC (b := 9) (j_fn hS (j_g0 k 0 0 0 0) hf0 (j_in_row hS _ (t := 3) (by omega))) rfl (by show (0 : Int) + (1 * (k : Int) + 0) = _; omega), trivial⟩
  obtain ⟨rv2, res2, w2, hh, hr2, hp2, hP2, hD2, hT2⟩ := hj (j_c128_31, k_rv [(a1 : Int), (1 : Int), y2.toInt, (3 : Int), y4.toInt, y5.toInt, (k : Int), (rw : Int), (r 1 : Int), (r 3 : Int), v0], j_tg w a1 rw r, j_g0 k 0 0 0 0) j_pm128_31 rfl rfl hpd.1 hpd.2 (j_TW (D := D) I.2.2.1 I.2.1 hS I.2.2.2.2.1 _)
  obtain ⟨he2, -⟩ := hp2
  exact j_rowK hS I1 hS1 he2 (by show ((ct_pros j_c128_31).all fun t => Nat.ble 101 t) = true; decide +kernel) hP2 hT2 ht (k_none_ok (by show k_none (ct_eff j_c128_31) (90 + t) = true; rcases (show t = 0 ∨ t = 1 ∨ t = 2 by omega) with rfl | rfl | rfl <;> decide +kernel) _ _) hf
theorem k_pourC7i20 {k k9 : Nat} {u v : Int} {y1 y2 y3 y4 y5 r9 : Int32} (I : k_In s D dA a1 a2 w H locs) (hS : k_S7 a1 a2 w rw nm r) (I1 : k_In s D dA a1 a2 w' H' locs') (hS1 : k_S7 a1 a2 w' rw nm r) (hj : j_Ex0 s D dA 128 w [.ref a1, .int y1, .int y2, .int y3, .int y4, .int y5] H' [.int r9]) (hy1 : y1.toInt = 2) (hy3 : y3.toInt = 0) (h4 : y4.toInt ≤ (k : Int)) (h5 : (k : Int) < y4.toInt + y5.toInt) (h9 : (k9 : Int) = y2.toInt - y4.toInt + (k : Int)) (hk9 : k9 < 60) (hk : k < 60) (hs9 : k_fn w (r 2) 17 k9 u) (hf : k_fn w (r 0) 17 k v) : ∃ v', k_fn w' (r 0) 17 k v' ∧ ((r9.toInt = 1 ∧ v' = u) ∨ (r9.toInt = 0 ∧ v' = v)) := by
  have hpd := k_preD (ct := j_c128_32) (r := k_rv [(a1 : Int), (2 : Int), y2.toInt, (0 : Int), y4.toInt, y5.toInt, (k : Int), (rw : Int), (r 2 : Int), (r 0 : Int), u, v]) (vals := [.ref a1, .int y1, .int y2, .int y3, .int y4, .int y5]) (w := j_w w a1 rw r (j_g0 k 0 0 0 0)) (by decide +kernel) ⟨(by show (0 : Int) ≤ (0) + ((-1) * y4.toInt + ((1) * (k : Int) + (0))); omega), (by show (0 : Int) ≤ (-1) + ((1) * y4.toInt + ((1) * y5.toInt + ((-1) * (k : Int) + (0)))); omega), (by show (0 : Int) ≤ (0) + ((1) * y2.toInt + ((-1) * y4.toInt + ((1) * (k : Int) + (0)))); omega), (by show (0 : Int) ≤ (59) + ((-1) * y2.toInt + ((1) * y4.toInt + ((-1) * (k : Int) + (0)))); omega), (by show (0 : Int) ≤ (3) + (0); omega), trivial⟩ ⟨k_aR (j_in_a1 hS _ I.2.2.2.2.1), ⟨_, rfl, hy1, Int.le_refl _, Int.le_refl _⟩, k_aI _, ⟨_, rfl, hy3, Int.le_refl _, Int.le_refl _⟩, k_aI _, k_aI _, trivial⟩ ⟨⟨40, rfl, c_gv_id40 (by show (0 : Int) ≤ (k : Int); omega) (by show (k : Int) ≤ 59; omega)⟩, k_fnC (b := 0) (j_fn hS (j_g0 k 0 0 0 0) hS.1 (j_in_a1 hS _ I.2.2.2.2.1)) rfl rfl, k_fnC (b := 7) (j_fn hS (j_g0 k 0 0 0 0) (hS.2.2.1 2 (by omega)).1 (j_in_rw hS _)) rfl (by show (0 : Int) + (1 * (2 : Int) + 0) = _; rfl), k_fnC (b := 7) (j_fn hS (j_g0 k 0 0 0 0) (hS.2.2.1 0 (by omega)).1 (j_in_rw hS _)) rfl (by show (0 : Int) + (1 * (0 : Int) + 0) = _; rfl), k_fnC (b := 8) (j_fn hS (j_g0 k 0 0 0 0) hs9 (j_in_row hS _ (t := 2) (by omega))) rfl (by show (0 : Int) + (1 * y2.toInt + ((-1) * y4.toInt + (1 * (k : Int) + 0))) = _; omega), k_fnC (b := 9) (j_fn hS (j_g0 k 0 0 0 0) hf (j_in_row hS _ (t := 0) (by omega))) rfl (by show (0 : Int) + (1 * (k : Int) + 0) = _; omega), trivial⟩
  obtain ⟨rv2, res2, w2, hh, hr2, hp2, hP2, hD2, hT2⟩ := hj (j_c128_32, k_rv [(a1 : Int), (2 : Int), y2.toInt, (0 : Int), y4.toInt, y5.toInt, (k : Int), (rw : Int), (r 2 : Int), (r 0 : Int), u, v], j_tg w a1 rw r, j_g0 k 0 0 0 0) j_pm128_32 rfl rfl hpd.1 hpd.2 (j_TW (D := D) I.2.2.1 I.2.1 hS I.2.2.2.2.1 _)
  obtain ⟨x9, rfl, rfl, -, -⟩ := hr2
  have hx9 : x9 = r9 := by injection (Option.some.inj hh)
  subst hx9
  obtain ⟨he2, -, d, hd, rr, p1, p2, p3, p4, -⟩ := hp2
  have e1 : rr 1 = (a1 : Int) := p1 1 (by show 1 < c_entryN j_c128_32; decide)
  have e2 : rr 2 = (2 : Int) := p1 2 (by show 2 < c_entryN j_c128_32; decide)
  have e3 : rr 3 = y2.toInt := p1 3 (by show 3 < c_entryN j_c128_32; decide)
  have e4 : rr 4 = (0 : Int) := p1 4 (by show 4 < c_entryN j_c128_32; decide)
  have e5 : rr 5 = y4.toInt := p1 5 (by show 5 < c_entryN j_c128_32; decide)
  have e6 : rr 6 = y5.toInt := p1 6 (by show 6 < c_entryN j_c128_32; decide)
  have e7 : rr 7 = (k : Int) := p1 7 (by show 7 < c_entryN j_c128_32; decide)
  have e8 : rr 8 = (rw : Int) := p1 8 (by show 8 < c_entryN j_c128_32; decide)
  have e9 : rr 9 = (r 2 : Int) := p1 9 (by show 9 < c_entryN j_c128_32; decide)
  have e10 : rr 10 = (r 0 : Int) := p1 10 (by show 10 < c_entryN j_c128_32; decide)
  have e11 : rr 11 = u := p1 11 (by show 11 < c_entryN j_c128_32; decide)
  have e12 : rr 12 = v := p1 12 (by show 12 < c_entryN j_c128_32; decide)
  have er : rr 13 = x9.toInt := p2 0 _ rfl
  have hin2 := k_inK he2 (by show ((ct_pros j_c128_32).all fun t => Nat.ble 101 t) = true; decide +kernel) (by decide) (j_in_row hS (j_g0 k 0 0 0 0) (t := 0) (by omega))
  have hd : d ∈ ct_post j_c128_32 := hd
  simp only [ct_post, j_c128_32, List.mem_cons, List.not_mem_nil, or_false] at hd
  rcases hd with rfl | rfl
  all_goals
    have hc : k_fn w2 (r 0) 90 k (rr 14) := k_fnD (b := 9) (p3 0 _ rfl) e10 (by show (0 : Int) + (1 * rr 7 + 0) = _; rw [e7]; omega) hin2
    simp only [List.forall_mem_cons, c_ev, c_evs, List.not_mem_nil, false_implies, implies_true, and_true, e11, e12, er] at p4
    exact ⟨rr 14, j_back I1.1 hP2 I1.2.2.1 hT2 (hS1.2.2.1 0 (by omega)).2 rfl rfl hc, by omega⟩
theorem k_pourC7l20 {k : Nat} {v : Int} {y1 y2 y3 y4 y5 r9 : Int32} (I : k_In s D dA a1 a2 w H locs) (hS : k_S7 a1 a2 w rw nm r) (I1 : k_In s D dA a1 a2 w' H' locs') (hS1 : k_S7 a1 a2 w' rw nm r) (hj : j_Ex0 s D dA 128 w [.ref a1, .int y1, .int y2, .int y3, .int y4, .int y5] H' [.int r9]) (hy1 : y1.toInt = 2) (hy3 : y3.toInt = 0) (h4 : (k : Int) < y4.toInt) (hk : k < 60) (hf : k_fn w (r 0) 17 k v) : ∃ v', k_fn w' (r 0) 17 k v' ∧ v' = v := by
  have hpd := k_preD (ct := j_c128_33) (r := k_rv [(a1 : Int), (2 : Int), y2.toInt, (0 : Int), y4.toInt, y5.toInt, (k : Int), (rw : Int), (r 2 : Int), (r 0 : Int), v]) (vals := [.ref a1, .int y1, .int y2, .int y3, .int y4, .int y5]) (w := j_w w a1 rw r (j_g0 k 0 0 0 0)) (by decide +kernel) ⟨(by show (0 : Int) ≤ (-1) + ((1) * y4.toInt + ((-1) * (k : Int) + (0))); omega), (by show (0 : Int) ≤ (3) + (0); omega), trivial⟩ ⟨k_aR (j_in_a1 hS _ I.2.2.2.2.1), ⟨_, rfl, hy1, Int.le_refl _, Int.le_refl _⟩, k_aI _, ⟨_, rfl, hy3, Int.le_refl _, Int.le_refl _⟩, k_aI _, k_aI _, trivial⟩ ⟨⟨40, rfl, c_gv_id40 (by show (0 : Int) ≤ (k : Int); omega) (by show (k : Int) ≤ 59; omega)⟩, k_fnC (b := 0) (j_fn hS (j_g0 k 0 0 0 0) hS.1 (j_in_a1 hS _ I.2.2.2.2.1)) rfl rfl, k_fnC (b := 7) (j_fn hS (j_g0 k 0 0 0 0) (hS.2.2.1 2 (by omega)).1 (j_in_rw hS _)) rfl (by show (0 : Int) + (1 * (2 : Int) + 0) = _; rfl), k_fnC (b := 7) (j_fn hS (j_g0 k 0 0 0 0) (hS.2.2.1 0 (by omega)).1 (j_in_rw hS _)) rfl (by show (0 : Int) + (1 * (0 : Int) + 0) = _; rfl), k_fnC (b := 9) (j_fn hS (j_g0 k 0 0 0 0) hf (j_in_row hS _ (t := 0) (by omega))) rfl (by show (0 : Int) + (1 * (k : Int) + 0) = _; omega), trivial⟩
  obtain ⟨rv2, res2, w2, hh, hr2, hp2, hP2, hD2, hT2⟩ := hj (j_c128_33, k_rv [(a1 : Int), (2 : Int), y2.toInt, (0 : Int), y4.toInt, y5.toInt, (k : Int), (rw : Int), (r 2 : Int), (r 0 : Int), v], j_tg w a1 rw r, j_g0 k 0 0 0 0) j_pm128_33 rfl rfl hpd.1 hpd.2 (j_TW (D := D) I.2.2.1 I.2.1 hS I.2.2.2.2.1 _)
  obtain ⟨x9, rfl, rfl, -, -⟩ := hr2
  have hx9 : x9 = r9 := by injection (Option.some.inj hh)
  subst hx9
  obtain ⟨he2, -, d, hd, rr, p1, p2, p3, p4, -⟩ := hp2
  have e1 : rr 1 = (a1 : Int) := p1 1 (by show 1 < c_entryN j_c128_33; decide)
  have e2 : rr 2 = (2 : Int) := p1 2 (by show 2 < c_entryN j_c128_33; decide)
  have e3 : rr 3 = y2.toInt := p1 3 (by show 3 < c_entryN j_c128_33; decide)
  have e4 : rr 4 = (0 : Int) := p1 4 (by show 4 < c_entryN j_c128_33; decide)
  have e5 : rr 5 = y4.toInt := p1 5 (by show 5 < c_entryN j_c128_33; decide)
  have e6 : rr 6 = y5.toInt := p1 6 (by show 6 < c_entryN j_c128_33; decide)
  have e7 : rr 7 = (k : Int) := p1 7 (by show 7 < c_entryN j_c128_33; decide)
  have e8 : rr 8 = (rw : Int) := p1 8 (by show 8 < c_entryN j_c128_33; decide)
  have e9 : rr 9 = (r 2 : Int) := p1 9 (by show 9 < c_entryN j_c128_33; decide)
  have e10 : rr 10 = (r 0 : Int) := p1 10 (by show 10 < c_entryN j_c128_33; decide)
  have e11 : rr 11 = v := p1 11 (by show 11 < c_entryN j_c128_33; decide)
  have er : rr 12 = x9.toInt := p2 0 _ rfl
  have hin2 := k_inK he2 (by show ((ct_pros j_c128_33).all fun t => Nat.ble 101 t) = true; decide +kernel) (by decide) (j_in_row hS (j_g0 k 0 0 0 0) (t := 0) (by omega))
  have hd : d ∈ ct_post j_c128_33 := hd
  simp only [ct_post, j_c128_33, List.mem_cons, List.not_mem_nil, or_false] at hd
  subst hd
  have hc : k_fn w2 (r 0) 90 k (rr 13) := k_fnD (b := 9) (p3 0 _ rfl) e10 (by show (0 : Int) + (1 * rr 7 + 0) = _; rw [e7]; omega) hin2
  simp only [List.forall_mem_cons, c_ev, c_evs, List.not_mem_nil, false_implies, implies_true, and_true, e11, er] at p4
  exact ⟨rr 13, j_back I1.1 hP2 I1.2.2.1 hT2 (hS1.2.2.1 0 (by omega)).2 rfl rfl hc, by omega⟩
theorem k_pourC7g20 {k : Nat} {v : Int} {y1 y2 y3 y4 y5 r9 : Int32} (I : k_In s D dA a1 a2 w H locs) (hS : k_S7 a1 a2 w rw nm r) (I1 : k_In s D dA a1 a2 w' H' locs') (hS1 : k_S7 a1 a2 w' rw nm r) (hj : j_Ex0 s D dA 128 w [.ref a1, .int y1, .int y2, .int y3, .int y4, .int y5] H' [.int r9]) (hy1 : y1.toInt = 2) (hy3 : y3.toInt = 0) (h4 : y4.toInt + y5.toInt ≤ (k : Int)) (hk : k < 60) (hf : k_fn w (r 0) 17 k v) : ∃ v', k_fn w' (r 0) 17 k v' ∧ v' = v := by
  have hpd := k_preD (ct := j_c128_34) (r := k_rv [(a1 : Int), (2 : Int), y2.toInt, (0 : Int), y4.toInt, y5.toInt, (k : Int), (rw : Int), (r 2 : Int), (r 0 : Int), v]) (vals := [.ref a1, .int y1, .int y2, .int y3, .int y4, .int y5]) (w := j_w w a1 rw r (j_g0 k 0 0 0 0)) (by decide +kernel) ⟨(by show (0 : Int) ≤ (0) + ((-1) * y4.toInt + ((-1) * y5.toInt + ((1) * (k : Int) + (0)))); omega), (by show (0 : Int) ≤ (3) + (0); omega), trivial⟩ ⟨k_aR (j_in_a1 hS _ I.2.2.2.2.1), ⟨_, rfl, hy1, Int.le_refl _, Int.le_refl _⟩, k_aI _, ⟨_, rfl, hy3, Int.le_refl _, Int.le_refl _⟩, k_aI _, k_aI _, trivial⟩ ⟨⟨40, rfl, c_gv_id40 (by show (0 : Int) ≤ (k : Int); omega) (by show (k : Int) ≤ 59; omega)⟩, k_fnC (b := 0) (j_fn hS (j_g0 k 0 0 0 0) hS.1 (j_in_a1 hS _ I.2.2.2.2.1)) rfl rfl, k_fnC (b := 7) (j_fn hS (j_g0 k 0 0 0 0) (hS.2.2.1 2 (by omega)).1 (j_in_rw hS _)) rfl (by show (0 : Int) + (1 * (2 : Int) + 0) = _; rfl), k_fnC (b := 7) (j_fn hS (j_g0 k 0 0 0 0) (hS.2.2.1 0 (by omega)).1 (j_in_rw hS _)) rfl (by show (0 : Int) + (1 * (0 : Int) + 0) = _; rfl), k_fnC (b := 9) (j_fn hS (j_g0 k 0 0 0 0) hf (j_in_row hS _ (t := 0) (by omega))) rfl (by show (0 : Int) + (1 * (k : Int) + 0) = _; omega), trivial⟩
  obtain ⟨rv2, res2, w2, hh, hr2, hp2, hP2, hD2, hT2⟩ := hj (j_c128_34, k_rv [(a1 : Int), (2 : Int), y2.toInt, (0 : Int), y4.toInt, y5.toInt, (k : Int), (rw : Int), (r 2 : Int), (r 0 : Int), v], j_tg w a1 rw r, j_g0 k 0 0 0 0) j_pm128_34 rfl rfl hpd.1 hpd.2 (j_TW (D := D) I.2.2.1 I.2.1 hS I.2.2.2.2.1 _)
  obtain ⟨x9, rfl, rfl, -, -⟩ := hr2
  have hx9 : x9 = r9 := by injection (Option.some.inj hh)
  subst hx9
  obtain ⟨he2, -, d, hd, rr, p1, p2, p3, p4, -⟩ := hp2
  have e1 : rr 1 = (a1 : Int) := p1 1 (by show 1 < c_entryN j_c128_34; decide)
  have e2 : rr 2 = (2 : Int) := p1 2 (by show 2 < c_entryN j_c128_34; decide)
  have e3 : rr 3 = y2.toInt := p1 3 (by show 3 < c_entryN j_c128_34; decide)
  have e4 : rr 4 = (0 : Int) := p1 4 (by show 4 < c_entryN j_c128_34; decide)
  have e5 : rr 5 = y4.toInt := p1 5 (by show 5 < c_entryN j_c128_34; decide)
  have e6 : rr 6 = y5.toInt := p1 6 (by show 6 < c_entryN j_c128_34; decide)
  have e7 : rr 7 = (k : Int) := p1 7 (by show 7 < c_entryN j_c128_34; decide)
  have e8 : rr 8 = (rw : Int) := p1 8 (by show 8 < c_entryN j_c128_34; decide)
  have e9 : rr 9 = (r 2 : Int) := p1 9 (by show 9 < c_entryN j_c128_34; decide)
  have e10 : rr 10 = (r 0 : Int) := p1 10 (by show 10 < c_entryN j_c128_34; decide)
  have e11 : rr 11 = v := p1 11 (by show 11 < c_entryN j_c128_34; decide)
  have er : rr 12 = x9.toInt := p2 0 _ rfl
  have hin2 := k_inK he2 (by show ((ct_pros j_c128_34).all fun t => Nat.ble 101 t) = true; decide +kernel) (by decide) (j_in_row hS (j_g0 k 0 0 0 0) (t := 0) (by omega))
  have hd : d ∈ ct_post j_c128_34 := hd
  simp only [ct_post, j_c128_34, List.mem_cons, List.not_mem_nil, or_false] at hd
  subst hd
  have hc : k_fn w2 (r 0) 90 k (rr 13) := k_fnD (b := 9) (p3 0 _ rfl) e10 (by show (0 : Int) + (1 * rr 7 + 0) = _; rw [e7]; omega) hin2
  simp only [List.forall_mem_cons, c_ev, c_evs, List.not_mem_nil, false_implies, implies_true, and_true, e11, er] at p4
  exact ⟨rr 13, j_back I1.1 hP2 I1.2.2.1 hT2 (hS1.2.2.1 0 (by omega)).2 rfl rfl hc, by omega⟩
theorem k_pourC7r20 {k : Nat} {v : Int} {y1 y2 y3 y4 y5 r9 : Int32} (I : k_In s D dA a1 a2 w H locs) (hS : k_S7 a1 a2 w rw nm r) (I1 : k_In s D dA a1 a2 w' H' locs') (hS1 : k_S7 a1 a2 w' rw nm r) (hj : j_Ex0 s D dA 128 w [.ref a1, .int y1, .int y2, .int y3, .int y4, .int y5] H' [.int r9]) (hy1 : y1.toInt = 2) (hy3 : y3.toInt = 0) (h0 : r9.toInt = 0) (hk : k < 60) (hf : k_fn w (r 0) 17 k v) : k_fn w' (r 0) 17 k v := by
  have hpd := k_preD (ct := j_c128_35) (r := k_rv [(a1 : Int), (2 : Int), y2.toInt, (0 : Int), y4.toInt, y5.toInt, (k : Int), (rw : Int), (r 2 : Int), (r 0 : Int), v]) (vals := [.ref a1, .int y1, .int y2, .int y3, .int y4, .int y5]) (w := j_w w a1 rw r (j_g0 k 0 0 0 0)) (by decide +kernel) ⟨(by show (0 : Int) ≤ (3) + (0); omega), trivial⟩ ⟨k_aR (j_in_a1 hS _ I.2.2.2.2.1), ⟨_, rfl, hy1, Int.le_refl _, Int.le_refl _⟩, k_aI _, ⟨_, rfl, hy3, Int.le_refl _, Int.le_refl _⟩, k_aI _, k_aI _, trivial⟩ ⟨⟨40, rfl, c_gv_id40 (by show (0 : Int) ≤ (k : Int); omega) (by show (k : Int) ≤ 59; omega)⟩, k_fnC (b := 0) (j_fn hS (j_g0 k 0 0 0 0) hS.1 (j_in_a1 hS _ I.2.2.2.2.1)) rfl rfl, k_fnC (b := 7) (j_fn hS (j_g0 k 0 0 0 0) (hS.2.2.1 2 (by omega)).1 (j_in_rw hS _)) rfl (by show (0 : Int) + (1 * (2 : Int) + 0) = _; rfl), k_fnC (b := 7) (j_fn hS (j_g0 k 0 0 0 0) (hS.2.2.1 0 (by omega)).1 (j_in_rw hS _)) rfl (by show (0 : Int) + (1 * (0 : Int) + 0) = _; rfl), k_fnC (b := 9) (j_fn hS (j_g0 k 0 0 0 0) hf (j_in_row hS _ (t := 0) (by omega))) rfl (by show (0 : Int) + (1 * (k : Int) + 0) = _; omega), trivial⟩
  obtain ⟨rv2, res2, w2, hh, hr2, hp2, hP2, hD2, hT2⟩ := hj (j_c128_35, k_rv [(a1 : Int), (2 : Int), y2.toInt, (0 : Int), y4.toInt, y5.toInt, (k : Int), (rw : Int), (r 2 : Int), (r 0 : Int), v], j_tg w a1 rw r, j_g0 k 0 0 0 0) j_pm128_35 rfl rfl hpd.1 hpd.2 (j_TW (D := D) I.2.2.1 I.2.1 hS I.2.2.2.2.1 _)
  obtain ⟨x9, rfl, rfl, -, -⟩ := hr2
  have hx9 : x9 = r9 := by injection (Option.some.inj hh)
  subst hx9
  obtain ⟨he2, -, d, hd, rr, p1, p2, p3, p4, -⟩ := hp2
  have e1 : rr 1 = (a1 : Int) := p1 1 (by show 1 < c_entryN j_c128_35; decide)
  have e2 : rr 2 = (2 : Int) := p1 2 (by show 2 < c_entryN j_c128_35; decide)
  have e3 : rr 3 = y2.toInt := p1 3 (by show 3 < c_entryN j_c128_35; decide)
  have e4 : rr 4 = (0 : Int) := p1 4 (by show 4 < c_entryN j_c128_35; decide)
  have e5 : rr 5 = y4.toInt := p1 5 (by show 5 < c_entryN j_c128_35; decide)
  have e6 : rr 6 = y5.toInt := p1 6 (by show 6 < c_entryN j_c128_35; decide)
  have e7 : rr 7 = (k : Int) := p1 7 (by show 7 < c_entryN j_c128_35; decide)
  have e8 : rr 8 = (rw : Int) := p1 8 (by show 8 < c_entryN j_c128_35; decide)
  have e9 : rr 9 = (r 2 : Int) := p1 9 (by show 9 < c_entryN j_c128_35; decide)
  have e10 : rr 10 = (r 0 : Int) := p1 10 (by show 10 < c_entryN j_c128_35; decide)
  have e11 : rr 11 = v := p1 11 (by show 11 < c_entryN j_c128_35; decide)
  have er : rr 12 = x9.toInt := p2 0 _ rfl
  have hin2 := k_inK he2 (by show ((ct_pros j_c128_35).all fun t => Nat.ble 101 t) = true; decide +kernel) (by decide) (j_in_row hS (j_g0 k 0 0 0 0) (t := 0) (by omega))
  have hd : d ∈ ct_post j_c128_35 := hd
  simp only [ct_post, j_c128_35, List.mem_cons, List.not_mem_nil, or_false] at hd
  rcases hd with rfl | rfl
  · have hc : k_fn w2 (r 0) 90 k (rr 13) := k_fnD (b := 9) (p3 0 _ rfl) e10 (by show (0 : Int) + (1 * rr 7 + 0) = _; rw [e7]; omega) hin2
    simp only [List.forall_mem_cons, c_ev, c_evs, List.not_mem_nil, false_implies, implies_true, and_true, e11, er] at p4
    have hv : rr 13 = v := by omega
    rw [hv] at hc
    exact j_back I1.1 hP2 I1.2.2.1 hT2 (hS1.2.2.1 0 (by omega)).2 rfl rfl hc
  · simp only [List.forall_mem_cons, c_ev, c_evs, List.not_mem_nil, false_implies, implies_true, and_true, er] at p4
    omega
theorem k_pourC7o20 {k t : Nat} {v v0 : Int} {y1 y2 y3 y4 y5 r9 : Int32} (I : k_In s D dA a1 a2 w H locs) (hS : k_S7 a1 a2 w rw nm r) (I1 : k_In s D dA a1 a2 w' H' locs') (hS1 : k_S7 a1 a2 w' rw nm r) (hj : j_Ex0 s D dA 128 w [.ref a1, .int y1, .int y2, .int y3, .int y4, .int y5] H' [.int r9]) (hy1 : y1.toInt = 2) (hy3 : y3.toInt = 0) (ht : t < 4) (hne : t ≠ 0) (hk : k < 60) (hf0 : k_fn w (r 0) 17 k v0) (hf : k_fn w (r t) 17 k v) : k_fn w' (r t) 17 k v := by
  have hpd := k_preD (ct := j_c128_35) (r := k_rv [(a1 : Int), (2 : Int), y2.toInt, (0 : Int), y4.toInt, y5.toInt, (k : Int), (rw : Int), (r 2 : Int), (r 0 : Int), v0]) (vals := [.ref a1, .int y1, .int y2, .int y3, .int y4, .int y5]) (w := j_w w a1 rw r (j_g0 k 0 0 0 0)) (by decide +kernel) ⟨(by show (0 : Int) ≤ (3) + (0); omega), trivial⟩ ⟨k_aR (j_in_a1 hS _ I.2.2.2.2.1), ⟨_, rfl, hy1, Int.le_refl _, Int.le_refl _⟩, k_aI _, ⟨_, rfl, hy3, Int.le_refl _, Int.le_refl _⟩, k_aI _, k_aI _, trivial⟩ ⟨⟨40, rfl, c_gv_id40 (by show (0 : Int) ≤ (k : Int); omega) (by show (k : Int) ≤ 59; omega)⟩, k_fnC (b := 0) (j_fn hS (j_g0 k 0 0 0 0) hS.1 (j_in_a1 hS _ I.2.2.2.2.1)) rfl rfl, k_fnC (b := 7) (j_fn hS (j_g0 k 0 0 0 0) (hS.2.2.1 2 (by omega)).1 (j_in_rw hS _)) rfl (by show (0 : Int) + (1 * (2 : Int) + 0) = _; rfl), k_fnC (b := 7) (j_fn hS (j_g0 k 0 0 0 0) (hS.2.2.1 0 (by omega)).1 (j_in_rw hS _)) rfl (by show (0 : Int) + (1 * (0 : Int) + 0) = _; rfl), k_fnC (b := 9) (j_fn hS (j_g0 k 0 0 0 0) hf0 (j_in_row hS _ (t := 0) (by omega))) rfl (by show (0 : Int) + (1 * (k : Int) + 0) = _; omega), trivial⟩
  obtain ⟨rv2, res2, w2, hh, hr2, hp2, hP2, hD2, hT2⟩ := hj (j_c128_35, k_rv [(a1 : Int), (2 : Int), y2.toInt, (0 : Int), y4.toInt, y5.toInt, (k : Int), (rw : Int), (r 2 : Int), (r 0 : Int), v0], j_tg w a1 rw r, j_g0 k 0 0 0 0) j_pm128_35 rfl rfl hpd.1 hpd.2 (j_TW (D := D) I.2.2.1 I.2.1 hS I.2.2.2.2.1 _)
  obtain ⟨he2, -⟩ := hp2
  exact j_rowK hS I1 hS1 he2 (by show ((ct_pros j_c128_35).all fun t => Nat.ble 101 t) = true; decide +kernel) hP2 hT2 ht (k_none_ok (by show k_none (ct_eff j_c128_35) (90 + t) = true; rcases (show t = 1 ∨ t = 2 ∨ t = 3 by omega) with rfl | rfl | rfl <;> decide +kernel) _ _) hf
theorem k_pourC7i21 {k k9 : Nat} {u v : Int} {y1 y2 y3 y4 y5 r9 : Int32} (I : k_In s D dA a1 a2 w H locs) (hS : k_S7 a1 a2 w rw nm r) (I1 : k_In s D dA a1 a2 w' H' locs') (hS1 : k_S7 a1 a2 w' rw nm r) (hj : j_Ex0 s D dA 128 w [.ref a1, .int y1, .int y2, .int y3, .int y4, .int y5] H' [.int r9]) (hy1 : y1.toInt = 2) (hy3 : y3.toInt = 1) (h4 : y4.toInt ≤ (k : Int)) (h5 : (k : Int) < y4.toInt + y5.toInt) (h9 : (k9 : Int) = y2.toInt - y4.toInt + (k : Int)) (hk9 : k9 < 60) (hk : k < 60) (hs9 : k_fn w (r 2) 17 k9 u) (hf : k_fn w (r 1) 17 k v) : ∃ v', k_fn w' (r 1) 17 k v' ∧ ((r9.toInt = 1 ∧ v' = u) ∨ (r9.toInt = 0 ∧ v' = v)) := by
  have hpd := k_preD (ct := j_c128_36) (r := k_rv [(a1 : Int), (2 : Int), y2.toInt, (1 : Int), y4.toInt, y5.toInt, (k : Int), (rw : Int), (r 2 : Int), (r 1 : Int), u, v]) (vals := [.ref a1, .int y1, .int y2, .int y3, .int y4, .int y5]) (w := j_w w a1 rw r (j_g0 k 0 0 0 0)) (by decide +kernel) ⟨(by show (0 : Int) ≤ (0) + ((-1) * y4.toInt + ((1) * (k : Int) + (0))); omega), (by show (0 : Int) ≤ (-1) + ((1) * y4.toInt + ((1) * y5.toInt + ((-1) * (k : Int) + (0)))); omega), (by show (0 : Int) ≤ (0) + ((1) * y2.toInt + ((-1) * y4.toInt + ((1) * (k : Int) + (0)))); omega), (by show (0 : Int) ≤ (59) + ((-1) * y2.toInt + ((1) * y4.toInt + ((-1) * (k : Int) + (0)))); omega), (by show (0 : Int) ≤ (3) + (0); omega), trivial⟩ ⟨k_aR (j_in_a1 hS _ I.2.2.2.2.1), ⟨_, rfl, hy1, Int.le_refl _, Int.le_refl _⟩, k_aI _, ⟨_, rfl, hy3, Int.le_refl _, Int.le_refl _⟩, k_aI _, k_aI _, trivial⟩ ⟨⟨40, rfl, c_gv_id40 (by show (0 : Int) ≤ (k : Int); omega) (by show (k : Int) ≤ 59; omega)⟩, k_fnC (b := 0) (j_fn hS (j_g0 k 0 0 0 0) hS.1 (j_in_a1 hS _ I.2.2.2.2.1)) rfl rfl, k_fnC (b := 7) (j_fn hS (j_g0 k 0 0 0 0) (hS.2.2.1 2 (by omega)).1 (j_in_rw hS _)) rfl (by show (0 : Int) + (1 * (2 : Int) + 0) = _; rfl), k_fnC (b := 7) (j_fn hS (j_g0 k 0 0 0 0) (hS.2.2.1 1 (by omega)).1 (j_in_rw hS _)) rfl (by show (0 : Int) + (1 * (1 : Int) + 0) = _; rfl), k_fnC (b := 8) (j_fn hS (j_g0 k 0 0 0 0) hs9 (j_in_row hS _ (t := 2) (by omega))) rfl (by show (0 : Int) + (1 * y2.toInt + ((-1) * y4.toInt + (1 * (k : Int) + 0))) = _; omega), k_fnC (b := 9) (j_fn hS (j_g0 k 0 0 0 0) hf (j_in_row hS _ (t := 1) (by omega))) rfl (by show (0 : Int) + (1 * (k : Int) + 0) = _; omega), trivial⟩
  obtain ⟨rv2, res2, w2, hh, hr2, hp2, hP2, hD2, hT2⟩ := hj (j_c128_36, k_rv [(a1 : Int), (2 : Int), y2.toInt, (1 : Int), y4.toInt, y5.toInt, (k : Int), (rw : Int), (r 2 : Int), (r 1 : Int), u, v], j_tg w a1 rw r, j_g0 k 0 0 0 0) j_pm128_36 rfl rfl hpd.1 hpd.2 (j_TW (D := D) I.2.2.1 I.2.1 hS I.2.2.2.2.1 _)
  obtain ⟨x9, rfl, rfl, -, -⟩ := hr2
  have hx9 : x9 = r9 := by injection (Option.some.inj hh)
  subst hx9
  obtain ⟨he2, -, d, hd, rr, p1, p2, p3, p4, -⟩ := hp2
  have e1 : rr 1 = (a1 : Int) := p1 1 (by show 1 < c_entryN j_c128_36; decide)
  have e2 : rr 2 = (2 : Int) := p1 2 (by show 2 < c_entryN j_c128_36; decide)
  have e3 : rr 3 = y2.toInt := p1 3 (by show 3 < c_entryN j_c128_36; decide)
  have e4 : rr 4 = (1 : Int) := p1 4 (by show 4 < c_entryN j_c128_36; decide)
  have e5 : rr 5 = y4.toInt := p1 5 (by show 5 < c_entryN j_c128_36; decide)
  have e6 : rr 6 = y5.toInt := p1 6 (by show 6 < c_entryN j_c128_36; decide)
  have e7 : rr 7 = (k : Int) := p1 7 (by show 7 < c_entryN j_c128_36; decide)
  have e8 : rr 8 = (rw : Int) := p1 8 (by show 8 < c_entryN j_c128_36; decide)
  have e9 : rr 9 = (r 2 : Int) := p1 9 (by show 9 < c_entryN j_c128_36; decide)
  have e10 : rr 10 = (r 1 : Int) := p1 10 (by show 10 < c_entryN j_c128_36; decide)
  have e11 : rr 11 = u := p1 11 (by show 11 < c_entryN j_c128_36; decide)
  have e12 : rr 12 = v := p1 12 (by show 12 < c_entryN j_c128_36; decide)
  have er : rr 13 = x9.toInt := p2 0 _ rfl
  have hin2 := k_inK he2 (by show ((ct_pros j_c128_36).all fun t => Nat.ble 101 t) = true; decide +kernel) (by decide) (j_in_row hS (j_g0 k 0 0 0 0) (t := 1) (by omega))
  have hd : d ∈ ct_post j_c128_36 := hd
  simp only [ct_post, j_c128_36, List.mem_cons, List.not_mem_nil, or_false] at hd
  rcases hd with rfl | rfl
  all_goals
    have hc : k_fn w2 (r 1) 91 k (rr 14) := k_fnD (b := 9) (p3 0 _ rfl) e10 (by show (0 : Int) + (1 * rr 7 + 0) = _; rw [e7]; omega) hin2
    simp only [List.forall_mem_cons, c_ev, c_evs, List.not_mem_nil, false_implies, implies_true, and_true, e11, e12, er] at p4
    exact ⟨rr 14, j_back I1.1 hP2 I1.2.2.1 hT2 (hS1.2.2.1 1 (by omega)).2 rfl rfl hc, by omega⟩
theorem k_pourC7l21 {k : Nat} {v : Int} {y1 y2 y3 y4 y5 r9 : Int32} (I : k_In s D dA a1 a2 w H locs) (hS : k_S7 a1 a2 w rw nm r) (I1 : k_In s D dA a1 a2 w' H' locs') (hS1 : k_S7 a1 a2 w' rw nm r) (hj : j_Ex0 s D dA 128 w [.ref a1, .int y1, .int y2, .int y3, .int y4, .int y5] H' [.int r9]) (hy1 : y1.toInt = 2) (hy3 : y3.toInt = 1) (h4 : (k : Int) < y4.toInt) (hk : k < 60) (hf : k_fn w (r 1) 17 k v) : ∃ v', k_fn w' (r 1) 17 k v' ∧ v' = v := by
  have hpd := k_preD (ct := j_c128_37) (r := k_rv [(a1 : Int), (2 : Int), y2.toInt, (1 : Int), y4.toInt, y5.toInt, (k : Int), (rw : Int), (r 2 : Int), (r 1 : Int), v]) (vals := [.ref a1, .int y1, .int y2, .int y3, .int y4, .int y5]) (w := j_w w a1 rw r (j_g0 k 0 0 0 0)) (by decide +kernel) ⟨(by show (0 : Int) ≤ (-1) + ((1) * y4.toInt + ((-1) * (k : Int) + (0))); omega), (by show (0 : Int) ≤ (3) + (0); omega), trivial⟩ ⟨k_aR (j_in_a1 hS _ I.2.2.2.2.1), ⟨_, rfl, hy1, Int.le_refl _, Int.le_refl _⟩, k_aI _, ⟨_, rfl, hy3, Int.le_refl _, Int.le_refl _⟩, k_aI _, k_aI _, trivial⟩ ⟨⟨40, rfl, c_gv_id40 (by show (0 : Int) ≤ (k : Int); omega) (by show (k : Int) ≤ 59; omega)⟩, k_fnC (b := 0) (j_fn hS (j_g0 k 0 0 0 0) hS.1 (j_in_a1 hS _ I.2.2.2.2.1)) rfl rfl, k_fnC (b := 7) (j_fn hS (j_g0 k 0 0 0 0) (hS.2.2.1 2 (by omega)).1 (j_in_rw hS _)) rfl (by show (0 : Int) + (1 * (2 : Int) + 0) = _; rfl), k_fnC (b := 7) (j_fn hS (j_g0 k 0 0 0 0) (hS.2.2.1 1 (by omega)).1 (j_in_rw hS _)) rfl (by show (0 : Int) + (1 * (1 : Int) + 0) = _; rfl), k_fnC (b := 9) (j_fn hS (j_g0 k 0 0 0 0) hf (j_in_row hS _ (t := 1) (by omega))) rfl (by show (0 : Int) + (1 * (k : Int) + 0) = _; omega), trivial⟩
  obtain ⟨rv2, res2, w2, hh, hr2, hp2, hP2, hD2, hT2⟩ := hj (j_c128_37, k_rv [(a1 : Int), (2 : Int), y2.toInt, (1 : Int), y4.toInt, y5.toInt, (k : Int), (rw : Int), (r 2 : Int), (r 1 : Int), v], j_tg w a1 rw r, j_g0 k 0 0 0 0) j_pm128_37 rfl rfl hpd.1 hpd.2 (j_TW (D := D) I.2.2.1 I.2.1 hS I.2.2.2.2.1 _)
  obtain ⟨x9, rfl, rfl, -, -⟩ := hr2
  have hx9 : x9 = r9 := by injection (Option.some.inj hh)
  subst hx9
  obtain ⟨he2, -, d, hd, rr, p1, p2, p3, p4, -⟩ := hp2
  have e1 : rr 1 = (a1 : Int) := p1 1 (by show 1 < c_entryN j_c128_37; decide)
  have e2 : rr 2 = (2 : Int) := p1 2 (by show 2 < c_entryN j_c128_37; decide)
  have e3 : rr 3 = y2.toInt := p1 3 (by show 3 < c_entryN j_c128_37; decide)
  have e4 : rr 4 = (1 : Int) := p1 4 (by show 4 < c_entryN j_c128_37; decide)
  have e5 : rr 5 = y4.toInt := p1 5 (by show 5 < c_entryN j_c128_37; decide)
  have e6 : rr 6 = y5.toInt := p1 6 (by show 6 < c_entryN j_c128_37; decide)
  have e7 : rr 7 = (k : Int) := p1 7 (by show 7 < c_entryN j_c128_37; decide)
  have e8 : rr 8 = (rw : Int) := p1 8 (by show 8 < c_entryN j_c128_37; decide)
  have e9 : rr 9 = (r 2 : Int) := p1 9 (by show 9 < c_entryN j_c128_37; decide)
  have e10 : rr 10 = (r 1 : Int) := p1 10 (by show 10 < c_entryN j_c128_37; decide)
  have e11 : rr 11 = v := p1 11 (by show 11 < c_entryN j_c128_37; decide)
  have er : rr 12 = x9.toInt := p2 0 _ rfl
  have hin2 := k_inK he2 (by show ((ct_pros j_c128_37).all fun t => Nat.ble 101 t) = true; decide +kernel) (by decide) (j_in_row hS (j_g0 k 0 0 0 0) (t := 1) (by omega))
  have hd : d ∈ ct_post j_c128_37 := hd
  simp only [ct_post, j_c128_37, List.mem_cons, List.not_mem_nil, or_false] at hd
  subst hd
  have hc : k_fn w2 (r 1) 91 k (rr 13) := k_fnD (b := 9) (p3 0 _ rfl) e10 (by show (0 : Int) + (1 * rr 7 + 0) = _; rw [e7]; omega) hin2
  simp only [List.forall_mem_cons, c_ev, c_evs, List.not_mem_nil, false_implies, implies_true, and_true, e11, er] at p4
  exact ⟨rr 13, j_back I1.1 hP2 I1.2.2.1 hT2 (hS1.2.2.1 1 (by omega)).2 rfl rfl hc, by omega⟩
theorem k_pourC7g21 {k : Nat} {v : Int} {y1 y2 y3 y4 y5 r9 : Int32} (I : k_In s D dA a1 a2 w H locs) (hS : k_S7 a1 a2 w rw nm r) (I1 : k_In s D dA a1 a2 w' H' locs') (hS1 : k_S7 a1 a2 w' rw nm r) (hj : j_Ex0 s D dA 128 w [.ref a1, .int y1, .int y2, .int y3, .int y4, .int y5] H' [.int r9]) (hy1 : y1.toInt = 2) (hy3 : y3.toInt = 1) (h4 : y4.toInt + y5.toInt ≤ (k : Int)) (hk : k < 60) (hf : k_fn w (r 1) 17 k v) : ∃ v', k_fn w' (r 1) 17 k v' ∧ v' = v := by
  have hpd := k_preD (ct := j_c128_38) (r := k_rv [(a1 : Int), (2 : Int), y2.toInt, (1 : Int), y4.toInt, y5.toInt, (k : Int), (rw : Int), (r 2 : Int), (r 1 : Int), v]) (vals := [.ref a1, .int y1, .int y2, .int y3, .int y4, .int y5]) (w := j_w w a1 rw r (j_g0 k 0 0 0 0)) (by decide +kernel) ⟨(by show (0 : Int) ≤ (0) + ((-1) * y4.toInt + ((-1) * y5.toInt + ((1) * (k : Int) + (0)))); omega), (by show (0 : Int) ≤ (3) + (0); omega), trivial⟩ ⟨k_aR (j_in_a1 hS _ I.2.2.2.2.1), ⟨_, rfl, hy1, Int.le_refl _, Int.le_refl _⟩, k_aI _, ⟨_, rfl, hy3, Int.le_refl _, Int.le_refl _⟩, k_aI _, k_aI _, trivial⟩ ⟨⟨40, rfl, c_gv_id40 (by show (0 : Int) ≤ (k : Int); omega) (by show (k : Int) ≤ 59; omega)⟩, k_fnC (b := 0) (j_fn hS (j_g0 k 0 0 0 0) hS.1 (j_in_a1 hS _ I.2.2.2.2.1)) rfl rfl, k_fnC (b := 7) (j_fn hS (j_g0 k 0 0 0 0) (hS.2.2.1 2 (by omega)).1 (j_in_rw hS _)) rfl (by show (0 : Int) + (1 * (2 : Int) + 0) = _; rfl), k_fnC (b := 7) (j_fn hS (j_g0 k 0 0 0 0) (hS.2.2.1 1 (by omega)).1 (j_in_rw hS _)) rfl (by show (0 : Int) + (1 * (1 : Int) + 0) = _; rfl), k_fnC (b := 9) (j_fn hS (j_g0 k 0 0 0 0) hf (j_in_row hS _ (t := 1) (by omega))) rfl (by show (0 : Int) + (1 * (k : Int) + 0) = _; omega), trivial⟩
  obtain ⟨rv2, res2, w2, hh, hr2, hp2, hP2, hD2, hT2⟩ := hj (j_c128_38, k_rv [(a1 : Int), (2 : Int), y2.toInt, (1 : Int), y4.toInt, y5.toInt, (k : Int), (rw : Int), (r 2 : Int), (r 1 : Int), v], j_tg w a1 rw r, j_g0 k 0 0 0 0) j_pm128_38 rfl rfl hpd.1 hpd.2 (j_TW (D := D) I.2.2.1 I.2.1 hS I.2.2.2.2.1 _)
  obtain ⟨x9, rfl, rfl, -, -⟩ := hr2
  have hx9 : x9 = r9 := by injection (Option.some.inj hh)
  subst hx9
  obtain ⟨he2, -, d, hd, rr, p1, p2, p3, p4, -⟩ := hp2
  have e1 : rr 1 = (a1 : Int) := p1 1 (by show 1 < c_entryN j_c128_38; decide)
  have e2 : rr 2 = (2 : Int) := p1 2 (by show 2 < c_entryN j_c128_38; decide)
  have e3 : rr 3 = y2.toInt := p1 3 (by show 3 < c_entryN j_c128_38; decide)
  have e4 : rr 4 = (1 : Int) := p1 4 (by show 4 < c_entryN j_c128_38; decide)
  have e5 : rr 5 = y4.toInt := p1 5 (by show 5 < c_entryN j_c128_38; decide)
  have e6 : rr 6 = y5.toInt := p1 6 (by show 6 < c_entryN j_c128_38; decide)
  have e7 : rr 7 = (k : Int) := p1 7 (by show 7 < c_entryN j_c128_38; decide)
  have e8 : rr 8 = (rw : Int) := p1 8 (by show 8 < c_entryN j_c128_38; decide)
  have e9 : rr 9 = (r 2 : Int) := p1 9 (by show 9 < c_entryN j_c128_38; decide)
  have e10 : rr 10 = (r 1 : Int) := p1 10 (by show 10 < c_entryN j_c128_38; decide)
  have e11 : rr 11 = v := p1 11 (by show 11 < c_entryN j_c128_38; decide)
  have er : rr 12 = x9.toInt := p2 0 _ rfl
  have hin2 := k_inK he2 (by show ((ct_pros j_c128_38).all fun t => Nat.ble 101 t) = true; decide +kernel) (by decide) (j_in_row hS (j_g0 k 0 0 0 0) (t := 1) (by omega))
  have hd : d ∈ ct_post j_c128_38 := hd
  simp only [ct_post, j_c128_38, List.mem_cons, List.not_mem_nil, or_false] at hd
  subst hd
  have hc : k_fn w2 (r 1) 91 k (rr 13) := k_fnD (b := 9) (p3 0 _ rfl) e10 (by show (0 : Int) + (1 * rr 7 + 0) = _; rw [e7]; omega) hin2
  simp only [List.forall_mem_cons, c_ev, c_evs, List.not_mem_nil, false_implies, implies_true, and_true, e11, er] at p4
  exact ⟨rr 13, j_back I1.1 hP2 I1.2.2.1 hT2 (hS1.2.2.1 1 (by omega)).2 rfl rfl hc, by omega⟩
theorem k_pourC7r21 {k : Nat} {v : Int} {y1 y2 y3 y4 y5 r9 : Int32} (I : k_In s D dA a1 a2 w H locs) (hS : k_S7 a1 a2 w rw nm r) (I1 : k_In s D dA a1 a2 w' H' locs') (hS1 : k_S7 a1 a2 w' rw nm r) (hj : j_Ex0 s D dA 128 w [.ref a1, .int y1, .int y2, .int y3, .int y4, .int y5] H' [.int r9]) (hy1 : y1.toInt = 2) (hy3 : y3.toInt = 1) (h0 : r9.toInt = 0) (hk : k < 60) (hf : k_fn w (r 1) 17 k v) : k_fn w' (r 1) 17 k v := by
  have hpd := k_preD (ct := j_c128_39) (r := k_rv [(a1 : Int), (2 : Int), y2.toInt, (1 : Int), y4.toInt, y5.toInt, (k : Int), (rw : Int), (r 2 : Int), (r 1 : Int), v]) (vals := [.ref a1, .int y1, .int y2, .int y3, .int y4, .int y5]) (w := j_w w a1 rw r (j_g0 k 0 0 0 0)) (by decide +kernel) ⟨(by show (0 : Int) ≤ (3) + (0); omega), trivial⟩ ⟨k_aR (j_in_a1 hS _ I.2.2.2.2.1), ⟨_, rfl, hy1, Int.le_refl _, Int.le_refl _⟩, k_aI _, ⟨_, rfl, hy3, Int.le_refl _, Int.le_refl _⟩, k_aI _, k_aI _, trivial⟩ ⟨⟨40, rfl, c_gv_id40 (by show (0 : Int) ≤ (k : Int); omega) (by show (k : Int) ≤ 59; omega)⟩, k_fnC (b := 0) (j_fn hS (j_g0 k 0 0 0 0) hS.1 (j_in_a1 hS _ I.2.2.2.2.1)) rfl rfl, k_fnC (b := 7) (j_fn hS (j_g0 k 0 0 0 0) (hS.2.2.1 2 (by omega)).1 (j_in_rw hS _)) rfl (by show (0 : Int) + (1 * (2 : Int) + 0) = _; rfl), k_fnC (b := 7) (j_fn hS (j_g0 k 0 0 0 0) (hS.2.2.1 1 (by omega)).1 (j_in_rw hS _)) rfl (by show (0 : Int) + (1 * (1 : Int) + 0) = _; rfl), k_fnC (b := 9) (j_fn hS (j_g0 k 0 0 0 0) hf (j_in_row hS _ (t := 1) (by omega))) rfl (by show (0 : Int) + (1 * (k : Int) + 0) = _; omega), trivial⟩
  obtain ⟨rv2, res2, w2, hh, hr2, hp2, hP2, hD2, hT2⟩ := hj (j_c128_39, k_rv [(a1 : Int), (2 : Int), y2.toInt, (1 : Int), y4.toInt, y5.toInt, (k : Int), (rw : Int), (r 2 : Int), (r 1 : Int), v], j_tg w a1 rw r, j_g0 k 0 0 0 0) j_pm128_39 rfl rfl hpd.1 hpd.2 (j_TW (D := D) I.2.2.1 I.2.1 hS I.2.2.2.2.1 _)
  obtain ⟨x9, rfl, rfl, -, -⟩ := hr2
  have hx9 : x9 = r9 := by injection (Option.some.inj hh)
  subst hx9
  obtain ⟨he2, -, d, hd, rr, p1, p2, p3, p4, -⟩ := hp2
  have e1 : rr 1 = (a1 : Int) := p1 1 (by show 1 < c_entryN j_c128_39; decide)
  have e2 : rr 2 = (2 : Int) := p1 2 (by show 2 < c_entryN j_c128_39; decide)
  have e3 : rr 3 = y2.toInt := p1 3 (by show 3 < c_entryN j_c128_39; decide)
  have e4 : rr 4 = (1 : Int) := p1 4 (by show 4 < c_entryN j_c128_39; decide)
  have e5 : rr 5 = y4.toInt := p1 5 (by show 5 < c_entryN j_c128_39; decide)
  have e6 : rr 6 = y5.toInt := p1 6 (by show 6 < c_entryN j_c128_39; decide)
  have e7 : rr 7 = (k : Int) := p1 7 (by show 7 < c_entryN j_c128_39; decide)
  have e8 : rr 8 = (rw : Int) := p1 8 (by show 8 < c_entryN j_c128_39; decide)
  have e9 : rr 9 = (r 2 : Int) := p1 9 (by show 9 < c_entryN j_c128_39; decide)
  have e10 : rr 10 = (r 1 : Int) := p1 10 (by show 10 < c_entryN j_c128_39; decide)
  have e11 : rr 11 = v := p1 11 (by show 11 < c_entryN j_c128_39; decide)
  have er : rr 12 = x9.toInt := p2 0 _ rfl
  have hin2 := k_inK he2 (by show ((ct_pros j_c128_39).all fun t => Nat.ble 101 t) = true; decide +kernel) (by decide) (j_in_row hS (j_g0 k 0 0 0 0) (t := 1) (by omega))
  have hd : d ∈ ct_post j_c128_39 := hd
  simp only [ct_post, j_c128_39, List.mem_cons, List.not_mem_nil, or_false] at hd
  rcases hd with rfl | rfl
  · have hc : k_fn w2 (r 1) 91 k (rr 13) := k_fnD (b := 9) (p3 0 _ rfl) e10 (by show (0 : Int) + (1 * rr 7 + 0) = _; rw [e7]; omega) hin2
    simp only [List.forall_mem_cons, c_ev, c_evs, List.not_mem_nil, false_implies, implies_true, and_true, e11, er] at p4
    have hv : rr 13 = v := by omega
    rw [hv] at hc
    exact j_back I1.1 hP2 I1.2.2.1 hT2 (hS1.2.2.1 1 (by omega)).2 rfl rfl hc
  · simp only [List.forall_mem_cons, c_ev, c_evs, List.not_mem_nil, false_implies, implies_true, and_true, er] at p4
    omega
theorem k_pourC7o21 {k t : Nat} {v v0 : Int} {y1 y2 y3 y4 y5 r9 : Int32} (I : k_In s D dA a1 a2 w H locs) (hS : k_S7 a1 a2 w rw nm r) (I1 : k_In s D dA a1 a2 w' H' locs') (hS1 : k_S7 a1 a2 w' rw nm r) (hj : j_Ex0 s D dA 128 w [.ref a1, .int y1, .int y2, .int y3, .int y4, .int y5] H' [.int r9]) (hy1 : y1.toInt = 2) (hy3 : y3.toInt = 1) (ht : t < 4) (hne : t ≠ 1) (hk : k < 60) (hf0 : k_fn w (r 1) 17 k v0) (hf : k_fn w (r t) 17 k v) : k_fn w' (r t) 17 k v := by
  have hpd := k_preD (ct := j_c128_39) (r := k_rv [(a1 : Int), (2 : Int), y2.toInt, (1 : Int), y4.toInt, y5.toInt, (k : Int), (rw : Int), (r 2 : Int), (r 1 : Int), v0]) (vals := [.ref a1, .int y1, .int y2, .int y3, .int y4, .int y5]) (w := j_w w a1 rw r (j_g0 k 0 0 0 0)) (by decide +kernel) ⟨(by show (0 : Int) ≤ (3) + (0); omega), trivial⟩ ⟨k_aR (j_in_a1 hS _ I.2.2.2.2.1), ⟨_, rfl, hy1, Int.le_refl _, Int.le_refl _⟩, k_aI _, ⟨_, rfl, hy3, Int.le_refl _, Int.le_refl _⟩, k_aI _, k_aI _, trivial⟩ ⟨⟨40, rfl, c_gv_id40 (by show (0 : Int) ≤ (k : Int); omega) (by show (k : Int) ≤ 59; omega)⟩, k_fnC (b := 0) (j_fn hS (j_g0 k 0 0 0 0) hS.1 (j_in_a1 hS _ I.2.2.2.2.1)) rfl rfl, k_fnC (b := 7) (j_fn hS (j_g0 k 0 0 0 0) (hS.2.2.1 2 (by omega)).1 (j_in_rw hS _)) rfl (by show (0 : Int) + (1 * (2 : Int) + 0) = _; rfl), k_fnC (b := 7) (j_fn hS (j_g0 k 0 0 0 0) (hS.2.2.1 1 (by omega)).1 (j_in_rw hS _)) rfl (by show (0 : Int) + (1 * (1 : Int) + 0) = _; rfl), k_fnC (b := 9) (j_fn hS (j_g0 k 0 0 0 0) hf0 (j_in_row hS _ (t := 1) (by omega))) rfl (by show (0 : Int) + (1 * (k : Int) + 0) = _; omega), trivial⟩
  obtain ⟨rv2, res2, w2, hh, hr2, hp2, hP2, hD2, hT2⟩ := hj (j_c128_39, k_rv [(a1 : Int), (2 : Int), y2.toInt, (1 : Int), y4.toInt, y5.toInt, (k : Int), (rw : Int), (r 2 : Int), (r 1 : Int), v0], j_tg w a1 rw r, j_g0 k 0 0 0 0) j_pm128_39 rfl rfl hpd.1 hpd.2 (j_TW (D := D) I.2.2.1 I.2.1 hS I.2.2.2.2.1 _)
  obtain ⟨he2, -⟩ := hp2
  exact j_rowK hS I1 hS1 he2 (by show ((ct_pros j_c128_39).all fun t => Nat.ble 101 t) = true; decide +kernel) hP2 hT2 ht (k_none_ok (by show k_none (ct_eff j_c128_39) (90 + t) = true; rcases (show t = 0 ∨ t = 2 ∨ t = 3 by omega) with rfl | rfl | rfl <;> decide +kernel) _ _) hf
theorem k_pourC7i22 {k k9 : Nat} {u v : Int} {y1 y2 y3 y4 y5 r9 : Int32} (I : k_In s D dA a1 a2 w H locs) (hS : k_S7 a1 a2 w rw nm r) (I1 : k_In s D dA a1 a2 w' H' locs') (hS1 : k_S7 a1 a2 w' rw nm r) (hj : j_Ex0 s D dA 128 w [.ref a1, .int y1, .int y2, .int y3, .int y4, .int y5] H' [.int r9]) (hy1 : y1.toInt = 2) (hy3 : y3.toInt = 2) (h4 : y4.toInt ≤ (k : Int)) (h5 : (k : Int) < y4.toInt + y5.toInt) (h9 : (k9 : Int) = y2.toInt - y4.toInt + (k : Int)) (hk9 : k9 < 60) (hk : k < 60) (hs9 : k_fn w (r 2) 17 k9 u) (hf : k_fn w (r 2) 17 k v) : ∃ v', k_fn w' (r 2) 17 k v' ∧ ((r9.toInt = 1 ∧ v' = u) ∨ (r9.toInt = 0 ∧ v' = v)) := by
  have hpd := k_preD (ct := j_c128_40) (r := k_rv [(a1 : Int), (2 : Int), y2.toInt, (2 : Int), y4.toInt, y5.toInt, (k : Int), (rw : Int), (r 2 : Int), (r 2 : Int), u, v]) (vals := [.ref a1, .int y1, .int y2, .int y3, .int y4, .int y5]) (w := j_w w a1 rw r (j_g0 k 0 0 0 0)) (by decide +kernel) ⟨(by show (0 : Int) ≤ (0) + ((-1) * y4.toInt + ((1) * (k : Int) + (0))); omega), (by show (0 : Int) ≤ (-1) + ((1) * y4.toInt + ((1) * y5.toInt + ((-1) * (k : Int) + (0)))); omega), (by show (0 : Int) ≤ (0) + ((1) * y2.toInt + ((-1) * y4.toInt + ((1) * (k : Int) + (0)))); omega), (by show (0 : Int) ≤ (59) + ((-1) * y2.toInt + ((1) * y4.toInt + ((-1) * (k : Int) + (0)))); omega), (by show (0 : Int) ≤ (3) + (0); omega), trivial⟩ ⟨k_aR (j_in_a1 hS _ I.2.2.2.2.1), ⟨_, rfl, hy1, Int.le_refl _, Int.le_refl _⟩, k_aI _, ⟨_, rfl, hy3, Int.le_refl _, Int.le_refl _⟩, k_aI _, k_aI _, trivial⟩ ⟨⟨40, rfl, c_gv_id40 (by show (0 : Int) ≤ (k : Int); omega) (by show (k : Int) ≤ 59; omega)⟩, k_fnC (b := 0) (j_fn hS (j_g0 k 0 0 0 0) hS.1 (j_in_a1 hS _ I.2.2.2.2.1)) rfl rfl, k_fnC (b := 7) (j_fn hS (j_g0 k 0 0 0 0) (hS.2.2.1 2 (by omega)).1 (j_in_rw hS _)) rfl (by show (0 : Int) + (1 * (2 : Int) + 0) = _; rfl), k_fnC (b := 7) (j_fn hS (j_g0 k 0 0 0 0) (hS.2.2.1 2 (by omega)).1 (j_in_rw hS _)) rfl (by show (0 : Int) + (1 * (2 : Int) + 0) = _; rfl), k_fnC (b := 8) (j_fn hS (j_g0 k 0 0 0 0) hs9 (j_in_row hS _ (t := 2) (by omega))) rfl (by show (0 : Int) + (1 * y2.toInt + ((-1) * y4.toInt + (1 * (k : Int) + 0))) = _; omega), k_fnC (b := 9) (j_fn hS (j_g0 k 0 0 0 0) hf (j_in_row hS _ (t := 2) (by omega))) rfl (by show (0 : Int) + (1 * (k : Int) + 0) = _; omega), trivial⟩
  obtain ⟨rv2, res2, w2, hh, hr2, hp2, hP2, hD2, hT2⟩ := hj (j_c128_40, k_rv [(a1 : Int), (2 : Int), y2.toInt, (2 : Int), y4.toInt, y5.toInt, (k : Int), (rw : Int), (r 2 : Int), (r 2 : Int), u, v], j_tg w a1 rw r, j_g0 k 0 0 0 0) j_pm128_40 rfl rfl hpd.1 hpd.2 (j_TW (D := D) I.2.2.1 I.2.1 hS I.2.2.2.2.1 _)
  obtain ⟨x9, rfl, rfl, -, -⟩ := hr2
  have hx9 : x9 = r9 := by injection (Option.some.inj hh)
  subst hx9
  obtain ⟨he2, -, d, hd, rr, p1, p2, p3, p4, -⟩ := hp2
  have e1 : rr 1 = (a1 : Int) := p1 1 (by show 1 < c_entryN j_c128_40; decide)
  have e2 : rr 2 = (2 : Int) := p1 2 (by show 2 < c_entryN j_c128_40; decide)
  have e3 : rr 3 = y2.toInt := p1 3 (by show 3 < c_entryN j_c128_40; decide)
  have e4 : rr 4 = (2 : Int) := p1 4 (by show 4 < c_entryN j_c128_40; decide)
  have e5 : rr 5 = y4.toInt := p1 5 (by show 5 < c_entryN j_c128_40; decide)
  have e6 : rr 6 = y5.toInt := p1 6 (by show 6 < c_entryN j_c128_40; decide)
  have e7 : rr 7 = (k : Int) := p1 7 (by show 7 < c_entryN j_c128_40; decide)
  have e8 : rr 8 = (rw : Int) := p1 8 (by show 8 < c_entryN j_c128_40; decide)
  have e9 : rr 9 = (r 2 : Int) := p1 9 (by show 9 < c_entryN j_c128_40; decide)
  have e10 : rr 10 = (r 2 : Int) := p1 10 (by show 10 < c_entryN j_c128_40; decide)
  have e11 : rr 11 = u := p1 11 (by show 11 < c_entryN j_c128_40; decide)
  have e12 : rr 12 = v := p1 12 (by show 12 < c_entryN j_c128_40; decide)
  have er : rr 13 = x9.toInt := p2 0 _ rfl
  have hin2 := k_inK he2 (by show ((ct_pros j_c128_40).all fun t => Nat.ble 101 t) = true; decide +kernel) (by decide) (j_in_row hS (j_g0 k 0 0 0 0) (t := 2) (by omega))
  have hd : d ∈ ct_post j_c128_40 := hd
  simp only [ct_post, j_c128_40, List.mem_cons, List.not_mem_nil, or_false] at hd
  rcases hd with rfl | rfl
  all_goals
    have hc : k_fn w2 (r 2) 92 k (rr 14) := k_fnD (b := 9) (p3 0 _ rfl) e10 (by show (0 : Int) + (1 * rr 7 + 0) = _; rw [e7]; omega) hin2
    simp only [List.forall_mem_cons, c_ev, c_evs, List.not_mem_nil, false_implies, implies_true, and_true, e11, e12, er] at p4
    exact ⟨rr 14, j_back I1.1 hP2 I1.2.2.1 hT2 (hS1.2.2.1 2 (by omega)).2 rfl rfl hc, by omega⟩
theorem k_pourC7l22 {k : Nat} {v : Int} {y1 y2 y3 y4 y5 r9 : Int32} (I : k_In s D dA a1 a2 w H locs) (hS : k_S7 a1 a2 w rw nm r) (I1 : k_In s D dA a1 a2 w' H' locs') (hS1 : k_S7 a1 a2 w' rw nm r) (hj : j_Ex0 s D dA 128 w [.ref a1, .int y1, .int y2, .int y3, .int y4, .int y5] H' [.int r9]) (hy1 : y1.toInt = 2) (hy3 : y3.toInt = 2) (h4 : (k : Int) < y4.toInt) (hk : k < 60) (hf : k_fn w (r 2) 17 k v) : ∃ v', k_fn w' (r 2) 17 k v' ∧ v' = v := by
  have hpd := k_preD (ct := j_c128_41) (r := k_rv [(a1 : Int), (2 : Int), y2.toInt, (2 : Int), y4.toInt, y5.toInt, (k : Int), (rw : Int), (r 2 : Int), (r 2 : Int), v]) (vals := [.ref a1, .int y1, .int y2, .int y3, .int y4, .int y5]) (w := j_w w a1 rw r (j_g0 k 0 0 0 0)) (by decide +kernel) ⟨(by show (0 : Int) ≤ (-1) + ((1) * y4.toInt + ((-1) * (k : Int) + (0))); omega), (by show (0 : Int) ≤ (3) + (0); omega), trivial⟩ ⟨k_aR (j_in_a1 hS _ I.2.2.2.2.1), ⟨_, rfl, hy1, Int.le_refl _, Int.le_refl _⟩, k_aI _, ⟨_, rfl, hy3, Int.le_refl _, Int.le_refl _⟩, k_aI _, k_aI _, trivial⟩ ⟨⟨40, rfl, c_gv_id40 (by show (0 : Int) ≤ (k : Int); omega) (by show (k : Int) ≤ 59; omega)⟩, k_fnC (b := 0) (j_fn hS (j_g0 k 0 0 0 0) hS.1 (j_in_a1 hS _ I.2.2.2.2.1)) rfl rfl, k_fnC (b := 7) (j_fn hS (j_g0 k 0 0 0 0) (hS.2.2.1 2 (by omega)).1 (j_in_rw hS _)) rfl (by show (0 : Int) + (1 * (2 : Int) + 0) = _; rfl), k_fnC (b := 7) (j_fn hS (j_g0 k 0 0 0 0) (hS.2.2.1 2 (by omega)).1 (j_in_rw hS _)) rfl (by show (0 : Int) + (1 * (2 : Int) + 0) = _; rfl), k_fnC (b := 9) (j_fn hS (j_g0 k 0 0 0 0) hf (j_in_row hS _ (t := 2) (by omega))) rfl (by show (0 : Int) + (1 * (k : Int) + 0) = _; omega), trivial⟩
  obtain ⟨rv2, res2, w2, hh, hr2, hp2, hP2, hD2, hT2⟩ := hj (j_c128_41, k_rv [(a1 : Int), (2 : Int), y2.toInt, (2 : Int), y4.toInt, y5.toInt, (k : Int), (rw : Int), (r 2 : Int), (r 2 : Int), v], j_tg w a1 rw r, j_g0 k 0 0 0 0) j_pm128_41 rfl rfl hpd.1 hpd.2 (j_TW (D := D) I.2.2.1 I.2.1 hS I.2.2.2.2.1 _)
  obtain ⟨x9, rfl, rfl, -, -⟩ := hr2
  have hx9 : x9 = r9 := by injection (Option.some.inj hh)
  subst hx9
  obtain ⟨he2, -, d, hd, rr, p1, p2, p3, p4, -⟩ := hp2
  have e1 : rr 1 = (a1 : Int) := p1 1 (by show 1 < c_entryN j_c128_41; decide)
  have e2 : rr 2 = (2 : Int) := p1 2 (by show 2 < c_entryN j_c128_41; decide)
  have e3 : rr 3 = y2.toInt := p1 3 (by show 3 < c_entryN j_c128_41; decide)
  have e4 : rr 4 = (2 : Int) := p1 4 (by show 4 < c_entryN j_c128_41; decide)
  have e5 : rr 5 = y4.toInt := p1 5 (by show 5 < c_entryN j_c128_41; decide)
  have e6 : rr 6 = y5.toInt := p1 6 (by show 6 < c_entryN j_c128_41; decide)
  have e7 : rr 7 = (k : Int) := p1 7 (by show 7 < c_entryN j_c128_41; decide)
  have e8 : rr 8 = (rw : Int) := p1 8 (by show 8 < c_entryN j_c128_41; decide)
  have e9 : rr 9 = (r 2 : Int) := p1 9 (by show 9 < c_entryN j_c128_41; decide)
  have e10 : rr 10 = (r 2 : Int) := p1 10 (by show 10 < c_entryN j_c128_41; decide)
  have e11 : rr 11 = v := p1 11 (by show 11 < c_entryN j_c128_41; decide)
  have er : rr 12 = x9.toInt := p2 0 _ rfl
  have hin2 := k_inK he2 (by show ((ct_pros j_c128_41).all fun t => Nat.ble 101 t) = true; decide +kernel) (by decide) (j_in_row hS (j_g0 k 0 0 0 0) (t := 2) (by omega))
  have hd : d ∈ ct_post j_c128_41 := hd
  simp only [ct_post, j_c128_41, List.mem_cons, List.not_mem_nil, or_false] at hd
  subst hd
  have hc : k_fn w2 (r 2) 92 k (rr 13) := k_fnD (b := 9) (p3 0 _ rfl) e10 (by show (0 : Int) + (1 * rr 7 + 0) = _; rw [e7]; omega) hin2
  simp only [List.forall_mem_cons, c_ev, c_evs, List.not_mem_nil, false_implies, implies_true, and_true, e11, er] at p4
  exact ⟨rr 13, j_back I1.1 hP2 I1.2.2.1 hT2 (hS1.2.2.1 2 (by omega)).2 rfl rfl hc, by omega⟩
theorem k_pourC7g22 {k : Nat} {v : Int} {y1 y2 y3 y4 y5 r9 : Int32} (I : k_In s D dA a1 a2 w H locs) (hS : k_S7 a1 a2 w rw nm r) (I1 : k_In s D dA a1 a2 w' H' locs') (hS1 : k_S7 a1 a2 w' rw nm r) (hj : j_Ex0 s D dA 128 w [.ref a1, .int y1, .int y2, .int y3, .int y4, .int y5] H' [.int r9]) (hy1 : y1.toInt = 2) (hy3 : y3.toInt = 2) (h4 : y4.toInt + y5.toInt ≤ (k : Int)) (hk : k < 60) (hf : k_fn w (r 2) 17 k v) : ∃ v', k_fn w' (r 2) 17 k v' ∧ v' = v := by
  have hpd := k_preD (ct := j_c128_42) (r := k_rv [(a1 : Int), (2 : Int), y2.toInt, (2 : Int), y4.toInt, y5.toInt, (k : Int), (rw : Int), (r 2 : Int), (r 2 : Int), v]) (vals := [.ref a1, .int y1, .int y2, .int y3, .int y4, .int y5]) (w := j_w w a1 rw r (j_g0 k 0 0 0 0)) (by decide +kernel) ⟨(by show (0 : Int) ≤ (0) + ((-1) * y4.toInt + ((-1) * y5.toInt + ((1) * (k : Int) + (0)))); omega), (by show (0 : Int) ≤ (3) + (0); omega), trivial⟩ ⟨k_aR (j_in_a1 hS _ I.2.2.2.2.1), ⟨_, rfl, hy1, Int.le_refl _, Int.le_refl _⟩, k_aI _, ⟨_, rfl, hy3, Int.le_refl _, Int.le_refl _⟩, k_aI _, k_aI _, trivial⟩ ⟨⟨40, rfl, c_gv_id40 (by show (0 : Int) ≤ (k : Int); omega) (by show (k : Int) ≤ 59; omega)⟩, k_fnC (b := 0) (j_fn hS (j_g0 k 0 0 0 0) hS.1 (j_in_a1 hS _ I.2.2.2.2.1)) rfl rfl, k_fnC (b := 7) (j_fn hS (j_g0 k 0 0 0 0) (hS.2.2.1 2 (by omega)).1 (j_in_rw hS _)) rfl (by show (0 : Int) + (1 * (2 : Int) + 0) = _; rfl), k_fnC (b := 7) (j_fn hS (j_g0 k 0 0 0 0) (hS.2.2.1 2 (by omega)).1 (j_in_rw hS _)) rfl (by show (0 : Int) + (1 * (2 : Int) + 0) = _; rfl), k_fnC (b := 9) (j_fn hS (j_g0 k 0 0 0 0) hf (j_in_row hS _ (t := 2) (by omega))) rfl (by show (0 : Int) + (1 * (k : Int) + 0) = _; omega), trivial⟩
  obtain ⟨rv2, res2, w2, hh, hr2, hp2, hP2, hD2, hT2⟩ := hj (j_c128_42, k_rv [(a1 : Int), (2 : Int), y2.toInt, (2 : Int), y4.toInt, y5.toInt, (k : Int), (rw : Int), (r 2 : Int), (r 2 : Int), v], j_tg w a1 rw r, j_g0 k 0 0 0 0) j_pm128_42 rfl rfl hpd.1 hpd.2 (j_TW (D := D) I.2.2.1 I.2.1 hS I.2.2.2.2.1 _)
  obtain ⟨x9, rfl, rfl, -, -⟩ := hr2
  have hx9 : x9 = r9 := by injection (Option.some.inj hh)
  subst hx9
  obtain ⟨he2, -, d, hd, rr, p1, p2, p3, p4, -⟩ := hp2
  have e1 : rr 1 = (a1 : Int) := p1 1 (by show 1 < c_entryN j_c128_42; decide)
  have e2 : rr 2 = (2 : Int) := p1 2 (by show 2 < c_entryN j_c128_42; decide)
  have e3 : rr 3 = y2.toInt := p1 3 (by show 3 < c_entryN j_c128_42; decide)
  have e4 : rr 4 = (2 : Int) := p1 4 (by show 4 < c_entryN j_c128_42; decide)
  have e5 : rr 5 = y4.toInt := p1 5 (by show 5 < c_entryN j_c128_42; decide)
  have e6 : rr 6 = y5.toInt := p1 6 (by show 6 < c_entryN j_c128_42; decide)
  have e7 : rr 7 = (k : Int) := p1 7 (by show 7 < c_entryN j_c128_42; decide)
  have e8 : rr 8 = (rw : Int) := p1 8 (by show 8 < c_entryN j_c128_42; decide)
  have e9 : rr 9 = (r 2 : Int) := p1 9 (by show 9 < c_entryN j_c128_42; decide)
  have e10 : rr 10 = (r 2 : Int) := p1 10 (by show 10 < c_entryN j_c128_42; decide)
  have e11 : rr 11 = v := p1 11 (by show 11 < c_entryN j_c128_42; decide)
  have er : rr 12 = x9.toInt := p2 0 _ rfl
  have hin2 := k_inK he2 (by show ((ct_pros j_c128_42).all fun t => Nat.ble 101 t) = true; decide +kernel) (by decide) (j_in_row hS (j_g0 k 0 0 0 0) (t := 2) (by omega))
  have hd : d ∈ ct_post j_c128_42 := hd
  simp only [ct_post, j_c128_42, List.mem_cons, List.not_mem_nil, or_false] at hd
  subst hd
  have hc : k_fn w2 (r 2) 92 k (rr 13) := k_fnD (b := 9) (p3 0 _ rfl) e10 (by show (0 : Int) + (1 * rr 7 + 0) = _; rw [e7]; omega) hin2
  simp only [List.forall_mem_cons, c_ev, c_evs, List.not_mem_nil, false_implies, implies_true, and_true, e11, er] at p4
  exact ⟨rr 13, j_back I1.1 hP2 I1.2.2.1 hT2 (hS1.2.2.1 2 (by omega)).2 rfl rfl hc, by omega⟩
theorem k_pourC7r22 {k : Nat} {v : Int} {y1 y2 y3 y4 y5 r9 : Int32} (I : k_In s D dA a1 a2 w H locs) (hS : k_S7 a1 a2 w rw nm r) (I1 : k_In s D dA a1 a2 w' H' locs') (hS1 : k_S7 a1 a2 w' rw nm r) (hj : j_Ex0 s D dA 128 w [.ref a1, .int y1, .int y2, .int y3, .int y4, .int y5] H' [.int r9]) (hy1 : y1.toInt = 2) (hy3 : y3.toInt = 2) (h0 : r9.toInt = 0) (hk : k < 60) (hf : k_fn w (r 2) 17 k v) : k_fn w' (r 2) 17 k v := by
  have hpd := k_preD (ct := j_c128_43) (r := k_rv [(a1 : Int), (2 : Int), y2.toInt, (2 : Int), y4.toInt, y5.toInt, (k : Int), (rw : Int), (r 2 : Int), (r 2 : Int), v]) (vals := [.ref a1, .int y1, .int y2, .int y3, .int y4, .int y5]) (w := j_w w a1 rw r (j_g0 k 0 0 0 0)) (by decide +kernel) ⟨(by show (0 : Int) ≤ (3) + (0); omega), trivial⟩ ⟨k_aR (j_in_a1 hS _ I.2.2.2.2.1), ⟨_, rfl, hy1, Int.le_refl _, Int.le_refl _⟩, k_aI _, ⟨_, rfl, hy3, Int.le_refl _, Int.le_refl _⟩, k_aI _, k_aI _, trivial⟩ ⟨⟨40, rfl, c_gv_id40 (by show (0 : Int) ≤ (k : Int); omega) (by show (k : Int) ≤ 59; omega)⟩, k_fnC (b := 0) (j_fn hS (j_g0 k 0 0 0 0) hS.1 (j_in_a1 hS _ I.2.2.2.2.1)) rfl rfl, k_fnC (b := 7) (j_fn hS (j_g0 k 0 0 0 0) (hS.2.2.1 2 (by omega)).1 (j_in_rw hS _)) rfl (by show (0 : Int) + (1 * (2 : Int) + 0) = _; rfl), k_fnC (b := 7) (j_fn hS (j_g0 k 0 0 0 0) (hS.2.2.1 2 (by omega)).1 (j_in_rw hS _)) rfl (by show (0 : Int) + (1 * (2 : Int) + 0) = _; rfl), k_fnC (b := 9) (j_fn hS (j_g0 k 0 0 0 0) hf (j_in_row hS _ (t := 2) (by omega))) rfl (by show (0 : Int) + (1 * (k : Int) + 0) = _; omega), trivial⟩
  obtain ⟨rv2, res2, w2, hh, hr2, hp2, hP2, hD2, hT2⟩ := hj (j_c128_43, k_rv [(a1 : Int), (2 : Int), y2.toInt, (2 : Int), y4.toInt, y5.toInt, (k : Int), (rw : Int), (r 2 : Int), (r 2 : Int), v], j_tg w a1 rw r, j_g0 k 0 0 0 0) j_pm128_43 rfl rfl hpd.1 hpd.2 (j_TW (D := D) I.2.2.1 I.2.1 hS I.2.2.2.2.1 _)
  obtain ⟨x9, rfl, rfl, -, -⟩ := hr2
  have hx9 : x9 = r9 := by injection (Option.some.inj hh)
  subst hx9
  obtain ⟨he2, -, d, hd, rr, p1, p2, p3, p4, -⟩ := hp2
  have e1 : rr 1 = (a1 : Int) := p1 1 (by show 1 < c_entryN j_c128_43; decide)
  have e2 : rr 2 = (2 : Int) := p1 2 (by show 2 < c_entryN j_c128_43; decide)
  have e3 : rr 3 = y2.toInt := p1 3 (by show 3 < c_entryN j_c128_43; decide)
  have e4 : rr 4 = (2 : Int) := p1 4 (by show 4 < c_entryN j_c128_43; decide)
  have e5 : rr 5 = y4.toInt := p1 5 (by show 5 < c_entryN j_c128_43; decide)
  have e6 : rr 6 = y5.toInt := p1 6 (by show 6 < c_entryN j_c128_43; decide)
  have e7 : rr 7 = (k : Int) := p1 7 (by show 7 < c_entryN j_c128_43; decide)
  have e8 : rr 8 = (rw : Int) := p1 8 (by show 8 < c_entryN j_c128_43; decide)
  have e9 : rr 9 = (r 2 : Int) := p1 9 (by show 9 < c_entryN j_c128_43; decide)
  have e10 : rr 10 = (r 2 : Int) := p1 10 (by show 10 < c_entryN j_c128_43; decide)
  have e11 : rr 11 = v := p1 11 (by show 11 < c_entryN j_c128_43; decide)
  have er : rr 12 = x9.toInt := p2 0 _ rfl
  have hin2 := k_inK he2 (by show ((ct_pros j_c128_43).all fun t => Nat.ble 101 t) = true; decide +kernel) (by decide) (j_in_row hS (j_g0 k 0 0 0 0) (t := 2) (by omega))
  have hd : d ∈ ct_post j_c128_43 := hd
  simp only [ct_post, j_c128_43, List.mem_cons, List.not_mem_nil, or_false] at hd
  rcases hd with rfl | rfl
  · have hc : k_fn w2 (r 2) 92 k (rr 13) := k_fnD (b := 9) (p3 0 _ rfl) e10 (by show (0 : Int) + (1 * rr 7 + 0) = _; rw [e7]; omega) hin2
    simp only [List.forall_mem_cons, c_ev, c_evs, List.not_mem_nil, false_implies, implies_true, and_true, e11, er] at p4
    have hv : rr 13 = v := by omega
    rw [hv] at hc
    exact j_back I1.1 hP2 I1.2.2.1 hT2 (hS1.2.2.1 2 (by omega)).2 rfl rfl hc
  · simp only [List.forall_mem_cons, c_ev, c_evs, List.not_mem_nil, false_implies, implies_true, and_true, er] at p4
    omega
theorem k_pourC7o22 {k t : Nat} {v v0 : Int} {y1 y2 y3 y4 y5 r9 : Int32} (I : k_In s D dA a1 a2 w H locs) (hS : k_S7 a1 a2 w rw nm r) (I1 : k_In s D dA a1 a2 w' H' locs') (hS1 : k_S7 a1 a2 w' rw nm r) (hj : j_Ex0 s D dA 128 w [.ref a1, .int y1, .int y2, .int y3, .int y4, .int y5] H' [.int r9]) (hy1 : y1.toInt = 2) (hy3 : y3.toInt = 2) (ht : t < 4) (hne : t ≠ 2) (hk : k < 60) (hf0 : k_fn w (r 2) 17 k v0) (hf : k_fn w (r t) 17 k v) : k_fn w' (r t) 17 k v := by
  have hpd := k_preD (ct := j_c128_43) (r := k_rv [(a1 : Int), (2 : Int), y2.toInt, (2 : Int), y4.toInt, y5.toInt, (k : Int), (rw : Int), (r 2 : Int), (r 2 : Int), v0]) (vals := [.ref a1, .int y1, .int y2, .int y3, .int y4, .int y5]) (w := j_w w a1 rw r (j_g0 k 0 0 0 0)) (by decide +kernel) ⟨(by show (0 : Int) ≤ (3) + (0); omega), trivial⟩ ⟨k_aR (j_in_a1 hS _ I.2.2.2.2.1), ⟨_, rfl, hy1, Int.le_refl _, Int.le_refl _⟩, k_aI _, ⟨_, rfl, hy3, Int.le_refl _, Int.le_refl _⟩, k_aI _, k_aI _, trivial⟩ ⟨⟨40, rfl, c_gv_id40 (by show (0 : Int) ≤ (k : Int); omega) (by show (k : Int) ≤ 59; omega)⟩, k_fnC (b := 0) (j_fn hS (j_g0 k 0 0 0 0) hS.1 (j_in_a1 hS _ I.2.2.2.2.1)) rfl rfl, k_fnC (b := 7) (j_fn hS (j_g0 k 0 0 0 0) (hS.2.2.1 2 (by omega)).1 (j_in_rw hS _)) rfl (by show (0 : Int) + (1 * (2 : Int) + 0) = _; rfl), k_fnC (b := 7) (j_fn hS (j_g0 k 0 0 0 0) (hS.2.2.1 2 (by omega)).1 (j_in_rw hS _)) rfl (by show (0 : Int) + (1 * (2 : Int) + 0) = _; rfl), k_fnC (b := 9) (j_fn hS (j_g0 k 0 0 0 0) hf0 (j_in_row hS _ (t := 2) (by omega))) rfl (by show (0 : Int) + (1 * (k : Int) + 0) = _; omega), trivial⟩
  obtain ⟨rv2, res2, w2, hh, hr2, hp2, hP2, hD2, hT2⟩ := hj (j_c128_43, k_rv [(a1 : Int), (2 : Int), y2.toInt, (2 : Int), y4.toInt, y5.toInt, (k : Int), (rw : Int), (r 2 : Int), (r 2 : Int), v0], j_tg w a1 rw r, j_g0 k 0 0 0 0) j_pm128_43 rfl rfl hpd.1 hpd.2 (j_TW (D := D) I.2.2.1 I.2.1 hS I.2.2.2.2.1 _)
  obtain ⟨he2, -⟩ := hp2
  exact j_rowK hS I1 hS1 he2 (by show ((ct_pros j_c128_43).all fun t => Nat.ble 101 t) = true; decide +kernel) hP2 hT2 ht (k_none_ok (by show k_none (ct_eff j_c128_43) (90 + t) = true; rcases (show t = 0 ∨ t = 1 ∨ t = 3 by omega) with rfl | rfl | rfl <;> decide +kernel) _ _) hf
theorem k_pourC7i23 {k k9 : Nat} {u v : Int} {y1 y2 y3 y4 y5 r9 : Int32} (I : k_In s D dA a1 a2 w H locs) (hS : k_S7 a1 a2 w rw nm r) (I1 : k_In s D dA a1 a2 w' H' locs') (hS1 : k_S7 a1 a2 w' rw nm r) (hj : j_Ex0 s D dA 128 w [.ref a1, .int y1, .int y2, .int y3, .int y4, .int y5] H' [.int r9]) (hy1 : y1.toInt = 2) (hy3 : y3.toInt = 3) (h4 : y4.toInt ≤ (k : Int)) (h5 : (k : Int) < y4.toInt + y5.toInt) (h9 : (k9 : Int) = y2.toInt - y4.toInt + (k : Int)) (hk9 : k9 < 60) (hk : k < 60) (hs9 : k_fn w (r 2) 17 k9 u) (hf : k_fn w (r 3) 17 k v) : ∃ v', k_fn w' (r 3) 17 k v' ∧ ((r9.toInt = 1 ∧ v' = u) ∨ (r9.toInt = 0 ∧ v' = v)) := by
  have hpd := k_preD (ct := j_c128_44) (r := k_rv [(a1 : Int), (2 : Int), y2.toInt, (3 : Int), y4.toInt, y5.toInt, (k : Int), (rw : Int), (r 2 : Int), (r 3 : Int), u, v]) (vals := [.ref a1, .int y1, .int y2, .int y3, .int y4, .int y5]) (w := j_w w a1 rw r (j_g0 k 0 0 0 0)) (by decide +kernel) ⟨(by show (0 : Int) ≤ (0) + ((-1) * y4.toInt + ((1) * (k : Int) + (0))); omega), (by show (0 : Int) ≤ (-1) + ((1) * y4.toInt + ((1) * y5.toInt + ((-1) * (k : Int) + (0)))); omega), (by show (0 : Int) ≤ (0) + ((1) * y2.toInt + ((-1) * y4.toInt + ((1) * (k : Int) + (0)))); omega), (by show (0 : Int) ≤ (59) + ((-1) * y2.toInt + ((1) * y4.toInt + ((-1) * (k : Int) + (0)))); omega), (by show (0 : Int) ≤ (3) + (0); omega), trivial⟩ ⟨k_aR (j_in_a1 hS _ I.2.2.2.2.1), ⟨_, rfl, hy1, Int.le_refl _, Int.le_refl _⟩, k_aI _, ⟨_, rfl, hy3, Int.le_refl _, Int.le_refl _⟩, k_aI _, k_aI _, trivial⟩ ⟨⟨40, rfl, c_gv_id40 (by show (0 : Int) ≤ (k : Int); omega) (by show (k : Int) ≤ 59; omega)⟩, k_fnC (b := 0) (j_fn hS (j_g0 k 0 0 0 0) hS.1 (j_in_a1 hS _ I.2.2.2.2.1)) rfl rfl, k_fnC (b := 7) (j_fn hS (j_g0 k 0 0 0 0) (hS.2.2.1 2 (by omega)).1 (j_in_rw hS _)) rfl (by show (0 : Int) + (1 * (2 : Int) + 0) = _; rfl), k_fnC (b := 7) (j_fn hS (j_g0 k 0 0 0 0) (hS.2.2.1 3 (by omega)).1 (j_in_rw hS _)) rfl (by show (0 : Int) + (1 * (3 : Int) + 0) = _; rfl), k_fnC (b := 8) (j_fn hS (j_g0 k 0 0 0 0) hs9 (j_in_row hS _ (t := 2) (by omega))) rfl (by show (0 : Int) + (1 * y2.toInt + ((-1) * y4.toInt + (1 * (k : Int) + 0))) = _; omega), k_fnC (b := 9) (j_fn hS (j_g0 k 0 0 0 0) hf (j_in_row hS _ (t := 3) (by omega))) rfl (by show (0 : Int) + (1 * (k : Int) + 0) = _; omega), trivial⟩
  obtain ⟨rv2, res2, w2, hh, hr2, hp2, hP2, hD2, hT2⟩ := hj (j_c128_44, k_rv [(a1 : Int), (2 : Int), y2.toInt, (3 : Int), y4.toInt, y5.toInt, (k : Int), (rw : Int), (r 2 : Int), (r 3 : Int), u, v], j_tg w a1 rw r, j_g0 k 0 0 0 0) j_pm128_44 rfl rfl hpd.1 hpd.2 (j_TW (D := D) I.2.2.1 I.2.1 hS I.2.2.2.2.1 _)
  obtain ⟨x9, rfl, rfl, -, -⟩ := hr2
  have hx9 : x9 = r9 := by injection (Option.some.inj hh)
  subst hx9
  obtain ⟨he2, -, d, hd, rr, p1, p2, p3, p4, -⟩ := hp2
  have e1 : rr 1 = (a1 : Int) := p1 1 (by show 1 < c_entryN j_c128_44; decide)
  have e2 : rr 2 = (2 : Int) := p1 2 (by show 2 < c_entryN j_c128_44; decide)
  have e3 : rr 3 = y2.toInt := p1 3 (by show 3 < c_entryN j_c128_44; decide)
  have e4 : rr 4 = (3 : Int) := p1 4 (by show 4 < c_entryN j_c128_44; decide)
  have e5 : rr 5 = y4.toInt := p1 5 (by show 5 < c_entryN j_c128_44; decide)
  have e6 : rr 6 = y5.toInt := p1 6 (by show 6 < c_entryN j_c128_44; decide)
  have e7 : rr 7 = (k : Int) := p1 7 (by show 7 < c_entryN j_c128_44; decide)
  have e8 : rr 8 = (rw : Int) := p1 8 (by show 8 < c_entryN j_c128_44; decide)
  have e9 : rr 9 = (r 2 : Int) := p1 9 (by show 9 < c_entryN j_c128_44; decide)
  have e10 : rr 10 = (r 3 : Int) := p1 10 (by show 10 < c_entryN j_c128_44; decide)
  have e11 : rr 11 = u := p1 11 (by show 11 < c_entryN j_c128_44; decide)
  have e12 : rr 12 = v := p1 12 (by show 12 < c_entryN j_c128_44; decide)
  have er : rr 13 = x9.toInt := p2 0 _ rfl
  have hin2 := k_inK he2 (by show ((ct_pros j_c128_44).all fun t => Nat.ble 101 t) = true; decide +kernel) (by decide) (j_in_row hS (j_g0 k 0 0 0 0) (t := 3) (by omega))
  have hd : d ∈ ct_post j_c128_44 := hd
  simp only [ct_post, j_c128_44, List.mem_cons, List.not_mem_nil, or_false] at hd
  rcases hd with rfl | rfl
  all_goals
    have hc : k_fn w2 (r 3) 93 k (rr 14) := k_fnD (b := 9) (p3 0 _ rfl) e10 (by show (0 : Int) + (1 * rr 7 + 0) = _; rw [e7]; omega) hin2
    simp only [List.forall_mem_cons, c_ev, c_evs, List.not_mem_nil, false_implies, implies_true, and_true, e11, e12, er] at p4
    exact ⟨rr 14, j_back I1.1 hP2 I1.2.2.1 hT2 (hS1.2.2.1 3 (by omega)).2 rfl rfl hc, by omega⟩
theorem k_pourC7l23 {k : Nat} {v : Int} {y1 y2 y3 y4 y5 r9 : Int32} (I : k_In s D dA a1 a2 w H locs) (hS : k_S7 a1 a2 w rw nm r) (I1 : k_In s D dA a1 a2 w' H' locs') (hS1 : k_S7 a1 a2 w' rw nm r) (hj : j_Ex0 s D dA 128 w [.ref a1, .int y1, .int y2, .int y3, .int y4, .int y5] H' [.int r9]) (hy1 : y1.toInt = 2) (hy3 : y3.toInt = 3) (h4 : (k : Int) < y4.toInt) (hk : k < 60) (hf : k_fn w (r 3) 17 k v) : ∃ v', k_fn w' (r 3) 17 k v' ∧ v' = v := by
  have hpd := k_preD (ct := j_c128_45) (r := k_rv [(a1 : Int), (2 : Int), y2.toInt, (3 : Int), y4.toInt, y5.toInt, (k : Int), (rw : Int), (r 2 : Int), (r 3 : Int), v]) (vals := [.ref a1, .int y1, .int y2, .int y3, .int y4, .int y5]) (w := j_w w a1 rw r (j_g0 k 0 0 0 0)) (by decide +kernel) ⟨(by show (0 : Int) ≤ (-1) + ((1) * y4.toInt + ((-1) * (k : Int) + (0))); omega), (by show (0 : Int) ≤ (3) + (0); omega), trivial⟩ ⟨k_aR (j_in_a1 hS _ I.2.2.2.2.1), ⟨_, rfl, hy1, Int.le_refl _, Int.le_refl _⟩, k_aI _, ⟨_, rfl, hy3, Int.le_refl _, Int.le_refl _⟩, k_aI _, k_aI _, trivial⟩ ⟨⟨40, rfl, c_gv_id40 (by show (0 : Int) ≤ (k : Int); omega) (by show (k : Int) ≤ 59; omega)⟩, k_fnC (b := 0) (j_fn hS (j_g0 k 0 0 0 0) hS.1 (j_in_a1 hS _ I.2.2.2.2.1)) rfl rfl, k_fnC (b := 7) (j_fn hS (j_g0 k 0 0 0 0) (hS.2.2.1 2 (by omega)).1 (j_in_rw hS _)) rfl (by show (0 : Int) + (1 * (2 : Int) + 0) = _; rfl), k_fnC (b := 7) (j_fn hS (j_g0 k 0 0 0 0) (hS.2.2.1 3 (by omega)).1 (j_in_rw hS _)) rfl (by show (0 : Int) + (1 * (3 : Int) + 0) = _; rfl), k_fnC (b := 9) (j_fn hS (j_g0 k 0 0 0 0) hf (j_in_row hS _ (t := 3) (by omega))) rfl (by show (0 : Int) + (1 * (k : Int) + 0) = _; omega), trivial⟩
  obtain ⟨rv2, res2, w2, hh, hr2, hp2, hP2, hD2, hT2⟩ := hj (j_c128_45, k_rv [(a1 : Int), (2 : Int), y2.toInt, (3 : Int), y4.toInt, y5.toInt, (k : Int), (rw : Int), (r 2 : Int), (r 3 : Int), v], j_tg w a1 rw r, j_g0 k 0 0 0 0) j_pm128_45 rfl rfl hpd.1 hpd.2 (j_TW (D := D) I.2.2.1 I.2.1 hS I.2.2.2.2.1 _)
  obtain ⟨x9, rfl, rfl, -, -⟩ := hr2
  have hx9 : x9 = r9 := by injection (Option.some.inj hh)
  subst hx9
  obtain ⟨he2, -, d, hd, rr, p1, p2, p3, p4, -⟩ := hp2
  have e1 : rr 1 = (a1 : Int) := p1 1 (by show 1 < c_entryN j_c128_45; decide)
  have e2 : rr 2 = (2 : Int) := p1 2 (by show 2 < c_entryN j_c128_45; decide)
  have e3 : rr 3 = y2.toInt := p1 3 (by show 3 < c_entryN j_c128_45; decide)
  have e4 : rr 4 = (3 : Int) := p1 4 (by show 4 < c_entryN j_c128_45; decide)
  have e5 : rr 5 = y4.toInt := p1 5 (by show 5 < c_entryN j_c128_45; decide)
  have e6 : rr 6 = y5.toInt := p1 6 (by show 6 < c_entryN j_c128_45; decide)
  have e7 : rr 7 = (k : Int) := p1 7 (by show 7 < c_entryN j_c128_45; decide)
  have e8 : rr 8 = (rw : Int) := p1 8 (by show 8 < c_entryN j_c128_45; decide)
  have e9 : rr 9 = (r 2 : Int) := p1 9 (by show 9 < c_entryN j_c128_45; decide)
  have e10 : rr 10 = (r 3 : Int) := p1 10 (by show 10 < c_entryN j_c128_45; decide)
  have e11 : rr 11 = v := p1 11 (by show 11 < c_entryN j_c128_45; decide)
  have er : rr 12 = x9.toInt := p2 0 _ rfl
  have hin2 := k_inK he2 (by show ((ct_pros j_c128_45).all fun t => Nat.ble 101 t) = true; decide +kernel) (by decide) (j_in_row hS (j_g0 k 0 0 0 0) (t := 3) (by omega))
  have hd : d ∈ ct_post j_c128_45 := hd
  simp only [ct_post, j_c128_45, List.mem_cons, List.not_mem_nil, or_false] at hd
  subst hd
  have hc : k_fn w2 (r 3) 93 k (rr 13) := k_fnD (b := 9) (p3 0 _ rfl) e10 (by show (0 : Int) + (1 * rr 7 + 0) = _; rw [e7]; omega) hin2
  simp only [List.forall_mem_cons, c_ev, c_evs, List.not_mem_nil, false_implies, implies_true, and_true, e11, er] at p4
  exact ⟨rr 13, j_back I1.1 hP2 I1.2.2.1 hT2 (hS1.2.2.1 3 (by omega)).2 rfl rfl hc, by omega⟩
theorem k_pourC7g23 {k : Nat} {v : Int} {y1 y2 y3 y4 y5 r9 : Int32} (I : k_In s D dA a1 a2 w H locs) (hS : k_S7 a1 a2 w rw nm r) (I1 : k_In s D dA a1 a2 w' H' locs') (hS1 : k_S7 a1 a2 w' rw nm r) (hj : j_Ex0 s D dA 128 w [.ref a1, .int y1, .int y2, .int y3, .int y4, .int y5] H' [.int r9]) (hy1 : y1.toInt = 2) (hy3 : y3.toInt = 3) (h4 : y4.toInt + y5.toInt ≤ (k : Int)) (hk : k < 60) (hf : k_fn w (r 3) 17 k v) : ∃ v', k_fn w' (r 3) 17 k v' ∧ v' = v := by
  have hpd := k_preD (ct := j_c128_46) (r := k_rv [(a1 : Int), (2 : Int), y2.toInt, (3 : Int), y4.toInt, y5.toInt, (k : Int), (rw : Int), (r 2 : Int), (r 3 : Int), v]) (vals := [.ref a1, .int y1, .int y2, .int y3, .int y4, .int y5]) (w := j_w w a1 rw r (j_g0 k 0 0 0 0)) (by decide +kernel) ⟨(by show (0 : Int) ≤ (0) + ((-1) * y4.toInt + ((-1) * y5.toInt + ((1) * (k : Int) + (0)))); omega), (by show (0 : Int) ≤ (3) + (0); omega), trivial⟩ ⟨k_aR (j_in_a1 hS _ I.2.2.2.2.1), ⟨_, rfl, hy1, Int.le_refl _, Int.le_refl _⟩, k_aI _, ⟨_, rfl, hy3, Int.le_refl _, Int.le_refl _⟩, k_aI _, k_aI _, trivial⟩ ⟨⟨40, rfl, c_gv_id40 (by show (0 : Int) ≤ (k : Int); omega) (by show (k : Int) ≤ 59; omega)⟩, k_fnC (b := 0) (j_fn hS (j_g0 k 0 0 0 0) hS.1 (j_in_a1 hS _ I.2.2.2.2.1)) rfl rfl, k_fnC (b := 7) (j_fn hS (j_g0 k 0 0 0 0) (hS.2.2.1 2 (by omega)).1 (j_in_rw hS _)) rfl (by show (0 : Int) + (1 * (2 : Int) + 0) = _; rfl), k_fnC (b := 7) (j_fn hS (j_g0 k 0 0 0 0) (hS.2.2.1 3 (by omega)).1 (j_in_rw hS _)) rfl (by show (0 : Int) + (1 * (3 : Int) + 0) = _; rfl), k_fnC (b := 9) (j_fn hS (j_g0 k 0 0 0 0) hf (j_in_row hS _ (t := 3) (by omega))) rfl (by show (0 : Int) + (1 * (k : Int) + 0) = _; omega), trivial⟩
  obtain ⟨rv2, res2, w2, hh, hr2, hp2, hP2, hD2, hT2⟩ := hj (j_c128_46, k_rv [(a1 : Int), (2 : Int), y2.toInt, (3 : Int), y4.toInt, y5.toInt, (k : Int), (rw : Int), (r 2 : Int), (r 3 : Int), v], j_tg w a1 rw r, j_g0 k 0 0 0 0) j_pm128_46 rfl rfl hpd.1 hpd.2 (j_TW (D := D) I.2.2.1 I.2.1 hS I.2.2.2.2.1 _)
  obtain ⟨x9, rfl, rfl, -, -⟩ := hr2
  have hx9 : x9 = r9 := by injection (Option.some.inj hh)
  subst hx9
  obtain ⟨he2, -, d, hd, rr, p1, p2, p3, p4, -⟩ := hp2
  have e1 : rr 1 = (a1 : Int) := p1 1 (by show 1 < c_entryN j_c128_46; decide)
  have e2 : rr 2 = (2 : Int) := p1 2 (by show 2 < c_entryN j_c128_46; decide)
  have e3 : rr 3 = y2.toInt := p1 3 (by show 3 < c_entryN j_c128_46; decide)
  have e4 : rr 4 = (3 : Int) := p1 4 (by show 4 < c_entryN j_c128_46; decide)
  have e5 : rr 5 = y4.toInt := p1 5 (by show 5 < c_entryN j_c128_46; decide)
  have e6 : rr 6 = y5.toInt := p1 6 (by show 6 < c_entryN j_c128_46; decide)
  have e7 : rr 7 = (k : Int) := p1 7 (by show 7 < c_entryN j_c128_46; decide)
  have e8 : rr 8 = (rw : Int) := p1 8 (by show 8 < c_entryN j_c128_46; decide)
  have e9 : rr 9 = (r 2 : Int) := p1 9 (by show 9 < c_entryN j_c128_46; decide)
  have e10 : rr 10 = (r 3 : Int) := p1 10 (by show 10 < c_entryN j_c128_46; decide)
  have e11 : rr 11 = v := p1 11 (by show 11 < c_entryN j_c128_46; decide)
  have er : rr 12 = x9.toInt := p2 0 _ rfl
  have hin2 := k_inK he2 (by show ((ct_pros j_c128_46).all fun t => Nat.ble 101 t) = true; decide +kernel) (by decide) (j_in_row hS (j_g0 k 0 0 0 0) (t := 3) (by omega))
  have hd : d ∈ ct_post j_c128_46 := hd
  simp only [ct_post, j_c128_46, List.mem_cons, List.not_mem_nil, or_false] at hd
  subst hd
  have hc : k_fn w2 (r 3) 93 k (rr 13) := k_fnD (b := 9) (p3 0 _ rfl) e10 (by show (0 : Int) + (1 * rr 7 + 0) = _; rw [e7]; omega) hin2
  simp only [List.forall_mem_cons, c_ev, c_evs, List.not_mem_nil, false_implies, implies_true, and_true, e11, er] at p4
  exact ⟨rr 13, j_back I1.1 hP2 I1.2.2.1 hT2 (hS1.2.2.1 3 (by omega)).2 rfl rfl hc, by omega⟩
theorem k_pourC7r23 {k : Nat} {v : Int} {y1 y2 y3 y4 y5 r9 : Int32} (I : k_In s D dA a1 a2 w H locs) (hS : k_S7 a1 a2 w rw nm r) (I1 : k_In s D dA a1 a2 w' H' locs') (hS1 : k_S7 a1 a2 w' rw nm r) (hj : j_Ex0 s D dA 128 w [.ref a1, .int y1, .int y2, .int y3, .int y4, .int y5] H' [.int r9]) (hy1 : y1.toInt = 2) (hy3 : y3.toInt = 3) (h0 : r9.toInt = 0) (hk : k < 60) (hf : k_fn w (r 3) 17 k v) : k_fn w' (r 3) 17 k v := by
  have hpd := k_preD (ct := j_c128_47) (r := k_rv [(a1 : Int), (2 : Int), y2.toInt, (3 : Int), y4.toInt, y5.toInt, (k : Int), (rw : Int), (r 2 : Int), (r 3 : Int), v]) (vals := [.ref a1, .int y1, .int y2, .int y3, .int y4, .int y5]) (w := j_w w a1 rw r (j_g0 k 0 0 0 0)) (by decide +kernel) ⟨(by show (0 : Int) ≤ (3) + (0); omega), trivial⟩ ⟨k_aR (j_in_a1 hS _ I.2.2.2.2.1), ⟨_, rfl, hy1, Int.le_refl _, Int.le_refl _⟩, k_aI _, ⟨_, rfl, hy3, Int.le_refl _, Int.le_refl _⟩, k_aI _, k_aI _, trivial⟩ ⟨⟨40, rfl, c_gv_id40 (by show (0 : Int) ≤ (k : Int); omega) (by show (k : Int) ≤ 59; omega)⟩, k_fnC (b := 0) (j_fn hS (j_g0 k 0 0 0 0) hS.1 (j_in_a1 hS _ I.2.2.2.2.1)) rfl rfl, k_fnC (b := 7) (j_fn hS (j_g0 k 0 0 0 0) (hS.2.2.1 2 (by omega)).1 (j_in_rw hS _)) rfl (by show (0 : Int) + (1 * (2 : Int) + 0) = _; rfl), k_fnC (b := 7) (j_fn hS (j_g0 k 0 0 0 0) (hS.2.2.1 3 (by omega)).1 (j_in_rw hS _)) rfl (by show (0 : Int) + (1 * (3 : Int) + 0) = _; rfl), k_fnC (b := 9) (j_fn hS (j_g0 k 0 0 0 0) hf (j_in_row hS _ (t := 3) (by omega))) rfl (by show (0 : Int) + (1 * (k : Int) + 0) = _; omega), trivial⟩
  obtain ⟨rv2, res2, w2, hh, hr2, hp2, hP2, hD2, hT2⟩ := hj (j_c128_47, k_rv [(a1 : Int), (2 : Int), y2.toInt, (3 : Int), y4.toInt, y5.toInt, (k : Int), (rw : Int), (r 2 : Int), (r 3 : Int), v], j_tg w a1 rw r, j_g0 k 0 0 0 0) j_pm128_47 rfl rfl hpd.1 hpd.2 (j_TW (D := D) I.2.2.1 I.2.1 hS I.2.2.2.2.1 _)
  obtain ⟨x9, rfl, rfl, -, -⟩ := hr2
  have hx9 : x9 = r9 := by injection (Option.some.inj hh)
  subst hx9
  obtain ⟨he2, -, d, hd, rr, p1, p2, p3, p4, -⟩ := hp2
  have e1 : rr 1 = (a1 : Int) := p1 1 (by show 1 < c_entryN j_c128_47; decide)
  have e2 : rr 2 = (2 : Int) := p1 2 (by show 2 < c_entryN j_c128_47; decide)
  have e3 : rr 3 = y2.toInt := p1 3 (by show 3 < c_entryN j_c128_47; decide)
  have e4 : rr 4 = (3 : Int) := p1 4 (by show 4 < c_entryN j_c128_47; decide)
  have e5 : rr 5 = y4.toInt := p1 5 (by show 5 < c_entryN j_c128_47; decide)
  have e6 : rr 6 = y5.toInt := p1 6 (by show 6 < c_entryN j_c128_47; decide)
  have e7 : rr 7 = (k : Int) := p1 7 (by show 7 < c_entryN j_c128_47; decide)
  have e8 : rr 8 = (rw : Int) := p1 8 (by show 8 < c_entryN j_c128_47; decide)
  have e9 : rr 9 = (r 2 : Int) := p1 9 (by show 9 < c_entryN j_c128_47; decide)
  have e10 : rr 10 = (r 3 : Int) := p1 10 (by show 10 < c_entryN j_c128_47; decide)
  have e11 : rr 11 = v := p1 11 (by show 11 < c_entryN j_c128_47; decide)
  have er : rr 12 = x9.toInt := p2 0 _ rfl
  have hin2 := k_inK he2 (by show ((ct_pros j_c128_47).all fun t => Nat.ble 101 t) = true; decide +kernel) (by decide) (j_in_row hS (j_g0 k 0 0 0 0) (t := 3) (by omega))
  have hd : d ∈ ct_post j_c128_47 := hd
  simp only [ct_post, j_c128_47, List.mem_cons, List.not_mem_nil, or_false] at hd
  rcases hd with rfl | rfl
  · have hc : k_fn w2 (r 3) 93 k (rr 13) := k_fnD (b := 9) (p3 0 _ rfl) e10 (by show (0 : Int) + (1 * rr 7 + 0) = _; rw [e7]; omega) hin2
    simp only [List.forall_mem_cons, c_ev, c_evs, List.not_mem_nil, false_implies, implies_true, and_true, e11, er] at p4
    have hv : rr 13 = v := by omega
    rw [hv] at hc
    exact j_back I1.1 hP2 I1.2.2.1 hT2 (hS1.2.2.1 3 (by omega)).2 rfl rfl hc
  · simp only [List.forall_mem_cons, c_ev, c_evs, List.not_mem_nil, false_implies, implies_true, and_true, er] at p4
    omega
theorem k_pourC7o23 {k t : Nat} {v v0 : Int} {y1 y2 y3 y4 y5 r9 : Int32} (I : k_In s D dA a1 a2 w H locs) (hS : k_S7 a1 a2 w rw nm r) (I1 : k_In s D dA a1 a2 w' H' locs') (hS1 : k_S7 a1 a2 w' rw nm r) (hj : j_Ex0 s D dA 128 w [.ref a1, .int y1, .int y2, .int y3, .int y4, .int y5] H' [.int r9]) (hy1 : y1.toInt = 2) (hy3 : y3.toInt = 3) (ht : t < 4) (hne : t ≠ 3) (hk : k < 60) (hf0 : k_fn w (r 3) 17 k v0) (hf : k_fn w (r t) 17 k v) : k_fn w' (r t) 17 k v := by
  have hpd := k_preD (ct := j_c128_47) (r := k_rv [(a1 : Int), (2 : Int), y2.toInt, (3 : Int), y4.toInt, y5.toInt, (k : Int), (rw : Int), (r 2 : Int), (r 3 : Int), v0]) (vals := [.ref a1, .int y1, .int y2, .int y3, .int y4, .int y5]) (w := j_w w a1 rw r (j_g0 k 0 0 0 0)) (by decide +kernel) ⟨(by show (0 : Int) ≤ (3) + (0); omega), trivial⟩ ⟨k_aR (j_in_a1 hS _ I.2.2.2.2.1), ⟨_, rfl, hy1, Int.le_refl _, Int.le_refl _⟩, k_aI _, ⟨_, rfl, hy3, Int.le_refl _, Int.le_refl _⟩, k_aI _, k_aI _, trivial⟩ ⟨⟨40, rfl, c_gv_id40 (by show (0 : Int) ≤ (k : Int); omega) (by show (k : Int) ≤ 59; omega)⟩, k_fnC (b := 0) (j_fn hS (j_g0 k 0 0 0 0) hS.1 (j_in_a1 hS _ I.2.2.2.2.1)) rfl rfl, k_fnC (b := 7) (j_fn hS (j_g0 k 0 0 0 0) (hS.2.2.1 2 (by omega)).1 (j_in_rw hS _)) rfl (by show (0 : Int) + (1 * (2 : Int) + 0) = _; rfl), k_fnC (b := 7) (j_fn hS (j_g0 k 0 0 0 0) (hS.2.2.1 3 (by omega)).1 (j_in_rw hS _)) rfl (by show (0 : Int) + (1 * (3 : Int) + 0) = _; rfl), k_fnC (b := 9) (j_fn hS (j_g0 k 0 0 0 0) hf0 (j_in_row hS _ (t := 3) (by omega))) rfl (by show (0 : Int) + (1 * (k : Int) + 0) = _; omega), trivial⟩
  obtain ⟨rv2, res2, w2, hh, hr2, hp2, hP2, hD2, hT2⟩ := hj (j_c128_47, k_rv [(a1 : Int), (2 : Int), y2.toInt, (3 : Int), y4.toInt, y5.toInt, (k : Int), (rw : Int), (r 2 : Int), (r 3 : Int), v0], j_tg w a1 rw r, j_g0 k 0 0 0 0) j_pm128_47 rfl rfl hpd.1 hpd.2 (j_TW (D := D) I.2.2.1 I.2.1 hS I.2.2.2.2.1 _)
  obtain ⟨he2, -⟩ := hp2
  exact j_rowK hS I1 hS1 he2 (by show ((ct_pros j_c128_47).all fun t => Nat.ble 101 t) = true; decide +kernel) hP2 hT2 ht (k_none_ok (by show k_none (ct_eff j_c128_47) (90 + t) = true; rcases (show t = 0 ∨ t = 1 ∨ t = 2 by omega) with rfl | rfl | rfl <;> decide +kernel) _ _) hf
theorem k_pourC7i30 {k k9 : Nat} {u v : Int} {y1 y2 y3 y4 y5 r9 : Int32} (I : k_In s D dA a1 a2 w H locs) (hS : k_S7 a1 a2 w rw nm r) (I1 : k_In s D dA a1 a2 w' H' locs') (hS1 : k_S7 a1 a2 w' rw nm r) (hj : j_Ex0 s D dA 128 w [.ref a1, .int y1, .int y2, .int y3, .int y4, .int y5] H' [.int r9]) (hy1 : y1.toInt = 3) (hy3 : y3.toInt = 0) (h4 : y4.toInt ≤ (k : Int)) (h5 : (k : Int) < y4.toInt + y5.toInt) (h9 : (k9 : Int) = y2.toInt - y4.toInt + (k : Int)) (hk9 : k9 < 60) (hk : k < 60) (hs9 : k_fn w (r 3) 17 k9 u) (hf : k_fn w (r 0) 17 k v) : ∃ v', k_fn w' (r 0) 17 k v' ∧ ((r9.toInt = 1 ∧ v' = u) ∨ (r9.toInt = 0 ∧ v' = v)) := by
  have hpd := k_preD (ct := j_c128_48) (r := k_rv [(a1 : Int), (3 : Int), y2.toInt, (0 : Int), y4.toInt, y5.toInt, (k : Int), (rw : Int), (r 3 : Int), (r 0 : Int), u, v]) (vals := [.ref a1, .int y1, .int y2, .int y3, .int y4, .int y5]) (w := j_w w a1 rw r (j_g0 k 0 0 0 0)) (by decide +kernel) ⟨(by show (0 : Int) ≤ (0) + ((-1) * y4.toInt + ((1) * (k : Int) + (0))); omega), (by show (0 : Int) ≤ (-1) + ((1) * y4.toInt + ((1) * y5.toInt + ((-1) * (k : Int) + (0)))); omega), (by show (0 : Int) ≤ (0) + ((1) * y2.toInt + ((-1) * y4.toInt + ((1) * (k : Int) + (0)))); omega), (by show (0 : Int) ≤ (59) + ((-1) * y2.toInt + ((1) * y4.toInt + ((-1) * (k : Int) + (0)))); omega), (by show (0 : Int) ≤ (3) + (0); omega), trivial⟩ ⟨k_aR (j_in_a1 hS _ I.2.2.2.2.1), ⟨_, rfl, hy1, Int.le_refl _, Int.le_refl _⟩, k_aI _, ⟨_, rfl, hy3, Int.le_refl _, Int.le_refl _⟩, k_aI _, k_aI _, trivial⟩ ⟨⟨40, rfl, c_gv_id40 (by show (0 : Int) ≤ (k : Int); omega) (by show (k : Int) ≤ 59; omega)⟩, k_fnC (b := 0) (j_fn hS (j_g0 k 0 0 0 0) hS.1 (j_in_a1 hS _ I.2.2.2.2.1)) rfl rfl, k_fnC (b := 7) (j_fn hS (j_g0 k 0 0 0 0) (hS.2.2.1 3 (by omega)).1 (j_in_rw hS _)) rfl (by show (0 : Int) + (1 * (3 : Int) + 0) = _; rfl), k_fnC (b := 7) (j_fn hS (j_g0 k 0 0 0 0) (hS.2.2.1 0 (by omega)).1 (j_in_rw hS _)) rfl (by show (0 : Int) + (1 * (0 : Int) + 0) = _; rfl), k_fnC (b := 8) (j_fn hS (j_g0 k 0 0 0 0) hs9 (j_in_row hS _ (t := 3) (by omega))) rfl (by show (0 : Int) + (1 * y2.toInt + ((-1) * y4.toInt + (1 * (k : Int) + 0))) = _; omega), k_fnC (b := 9) (j_fn hS (j_g0 k 0 0 0 0) hf (j_in_row hS _ (t := 0) (by omega))) rfl (by show (0 : Int) + (1 * (k : Int) + 0) = _; omega), trivial⟩
  obtain ⟨rv2, res2, w2, hh, hr2, hp2, hP2, hD2, hT2⟩ := hj (j_c128_48, k_rv [(a1 : Int), (3 : Int), y2.toInt, (0 : Int), y4.toInt, y5.toInt, (k : Int), (rw : Int), (r 3 : Int), (r 0 : Int), u, v], j_tg w a1 rw r, j_g0 k 0 0 0 0) j_pm128_48 rfl rfl hpd.1 hpd.2 (j_TW (D := D) I.2.2.1 I.2.1 hS I.2.2.2.2.1 _)
  obtain ⟨x9, rfl, rfl, -, -⟩ := hr2
  have hx9 : x9 = r9 := by injection (Option.some.inj hh)
  subst hx9
  obtain ⟨he2, -, d, hd, rr, p1, p2, p3, p4, -⟩ := hp2
  have e1 : rr 1 = (a1 : Int) := p1 1 (by show 1 < c_entryN j_c128_48; decide)
  have e2 : rr 2 = (3 : Int) := p1 2 (by show 2 < c_entryN j_c128_48; decide)
  have e3 : rr 3 = y2.toInt := p1 3 (by show 3 < c_entryN j_c128_48; decide)
  have e4 : rr 4 = (0 : Int) := p1 4 (by show 4 < c_entryN j_c128_48; decide)
  have e5 : rr 5 = y4.toInt := p1 5 (by show 5 < c_entryN j_c128_48; decide)
  have e6 : rr 6 = y5.toInt := p1 6 (by show 6 < c_entryN j_c128_48; decide)
  have e7 : rr 7 = (k : Int) := p1 7 (by show 7 < c_entryN j_c128_48; decide)
  have e8 : rr 8 = (rw : Int) := p1 8 (by show 8 < c_entryN j_c128_48; decide)
  have e9 : rr 9 = (r 3 : Int) := p1 9 (by show 9 < c_entryN j_c128_48; decide)
  have e10 : rr 10 = (r 0 : Int) := p1 10 (by show 10 < c_entryN j_c128_48; decide)
  have e11 : rr 11 = u := p1 11 (by show 11 < c_entryN j_c128_48; decide)
  have e12 : rr 12 = v := p1 12 (by show 12 < c_entryN j_c128_48; decide)
  have er : rr 13 = x9.toInt := p2 0 _ rfl
  have hin2 := k_inK he2 (by show ((ct_pros j_c128_48).all fun t => Nat.ble 101 t) = true; decide +kernel) (by decide) (j_in_row hS (j_g0 k 0 0 0 0) (t := 0) (by omega))
  have hd : d ∈ ct_post j_c128_48 := hd
  simp only [ct_post, j_c128_48, List.mem_cons, List.not_mem_nil, or_false] at hd
  rcases hd with rfl | rfl
  all_goals
    have hc : k_fn w2 (r 0) 90 k (rr 14) := k_fnD (b := 9) (p3 0 _ rfl) e10 (by show (0 : Int) + (1 * rr 7 + 0) = _; rw [e7]; omega) hin2
    simp only [List.forall_mem_cons, c_ev, c_evs, List.not_mem_nil, false_implies, implies_true, and_true, e11, e12, er] at p4
    exact ⟨rr 14, j_back I1.1 hP2 I1.2.2.1 hT2 (hS1.2.2.1 0 (by omega)).2 rfl rfl hc, by omega⟩
theorem k_pourC7l30 {k : Nat} {v : Int} {y1 y2 y3 y4 y5 r9 : Int32} (I : k_In s D dA a1 a2 w H locs) (hS : k_S7 a1 a2 w rw nm r) (I1 : k_In s D dA a1 a2 w' H' locs') (hS1 : k_S7 a1 a2 w' rw nm r) (hj : j_Ex0 s D dA 128 w [.ref a1, .int y1, .int y2, .int y3, .int y4, .int y5] H' [.int r9]) (hy1 : y1.toInt = 3) (hy3 : y3.toInt = 0) (h4 : (k : Int) < y4.toInt) (hk : k < 60) (hf : k_fn w (r 0) 17 k v) : ∃ v', k_fn w' (r 0) 17 k v' ∧ v' = v := by
  have hpd := k_preD (ct := j_c128_49) (r := k_rv [(a1 : Int), (3 : Int), y2.toInt, (0 : Int), y4.toInt, y5.toInt, (k : Int), (rw : Int), (r 3 : Int), (r 0 : Int), v]) (vals := [.ref a1, .int y1, .int y2, .int y3, .int y4, .int y5]) (w := j_w w a1 rw r (j_g0 k 0 0 0 0)) (by decide +kernel) ⟨(by show (0 : Int) ≤ (-1) + ((1) * y4.toInt + ((-1) * (k : Int) + (0))); omega), (by show (0 : Int) ≤ (3) + (0); omega), trivial⟩ ⟨k_aR (j_in_a1 hS _ I.2.2.2.2.1), ⟨_, rfl, hy1, Int.le_refl _, Int.le_refl _⟩, k_aI _, ⟨_, rfl, hy3, Int.le_refl _, Int.le_refl _⟩, k_aI _, k_aI _, trivial⟩ ⟨⟨40, rfl, c_gv_id40 (by show (0 : Int) ≤ (k : Int); omega) (by show (k : Int) ≤ 59; omega)⟩, k_fnC (b := 0) (j_fn hS (j_g0 k 0 0 0 0) hS.1 (j_in_a1 hS _ I.2.2.2.2.1)) rfl rfl, k_fnC (b := 7) (j_fn hS (j_g0 k 0 0 0 0) (hS.2.2.1 3 (by omega)).1 (j_in_rw hS _)) rfl (by show (0 : Int) + (1 * (3 : Int) + 0) = _; rfl), k_fnC (b := 7) (j_fn hS (j_g0 k 0 0 0 0) (hS.2.2.1 0 (by omega)).1 (j_in_rw hS _)) rfl (by show (0 : Int) + (1 * (0 : Int) + 0) = _; rfl), k_fnC (b := 9) (j_fn hS (j_g0 k 0 0 0 0) hf (j_in_row hS _ (t := 0) (by omega))) rfl (by show (0 : Int) + (1 * (k : Int) + 0) = _; omega), trivial⟩
  obtain ⟨rv2, res2, w2, hh, hr2, hp2, hP2, hD2, hT2⟩ := hj (j_c128_49, k_rv [(a1 : Int), (3 : Int), y2.toInt, (0 : Int), y4.toInt, y5.toInt, (k : Int), (rw : Int), (r 3 : Int), (r 0 : Int), v], j_tg w a1 rw r, j_g0 k 0 0 0 0) j_pm128_49 rfl rfl hpd.1 hpd.2 (j_TW (D := D) I.2.2.1 I.2.1 hS I.2.2.2.2.1 _)
  obtain ⟨x9, rfl, rfl, -, -⟩ := hr2
  have hx9 : x9 = r9 := by injection (Option.some.inj hh)
  subst hx9
  obtain ⟨he2, -, d, hd, rr, p1, p2, p3, p4, -⟩ := hp2
  have e1 : rr 1 = (a1 : Int) := p1 1 (by show 1 < c_entryN j_c128_49; decide)
  have e2 : rr 2 = (3 : Int) := p1 2 (by show 2 < c_entryN j_c128_49; decide)
  have e3 : rr 3 = y2.toInt := p1 3 (by show 3 < c_entryN j_c128_49; decide)
  have e4 : rr 4 = (0 : Int) := p1 4 (by show 4 < c_entryN j_c128_49; decide)
  have e5 : rr 5 = y4.toInt := p1 5 (by show 5 < c_entryN j_c128_49; decide)
  have e6 : rr 6 = y5.toInt := p1 6 (by show 6 < c_entryN j_c128_49; decide)
  have e7 : rr 7 = (k : Int) := p1 7 (by show 7 < c_entryN j_c128_49; decide)
  have e8 : rr 8 = (rw : Int) := p1 8 (by show 8 < c_entryN j_c128_49; decide)
  have e9 : rr 9 = (r 3 : Int) := p1 9 (by show 9 < c_entryN j_c128_49; decide)
  have e10 : rr 10 = (r 0 : Int) := p1 10 (by show 10 < c_entryN j_c128_49; decide)
  have e11 : rr 11 = v := p1 11 (by show 11 < c_entryN j_c128_49; decide)
  have er : rr 12 = x9.toInt := p2 0 _ rfl
  have hin2 := k_inK he2 (by show ((ct_pros j_c128_49).all fun t => Nat.ble 101 t) = true; decide +kernel) (by decide) (j_in_row hS (j_g0 k 0 0 0 0) (t := 0) (by omega))
  have hd : d ∈ ct_post j_c128_49 := hd
  simp only [ct_post, j_c128_49, List.mem_cons, List.not_mem_nil, or_false] at hd
  subst hd
  have hc : k_fn w2 (r 0) 90 k (rr 13) := k_fnD (b := 9) (p3 0 _ rfl) e10 (by show (0 : Int) + (1 * rr 7 + 0) = _; rw [e7]; omega) hin2
  simp only [List.forall_mem_cons, c_ev, c_evs, List.not_mem_nil, false_implies, implies_true, and_true, e11, er] at p4
  exact ⟨rr 13, j_back I1.1 hP2 I1.2.2.1 hT2 (hS1.2.2.1 0 (by omega)).2 rfl rfl hc, by omega⟩
theorem k_pourC7g30 {k : Nat} {v : Int} {y1 y2 y3 y4 y5 r9 : Int32} (I : k_In s D dA a1 a2 w H locs) (hS : k_S7 a1 a2 w rw nm r) (I1 : k_In s D dA a1 a2 w' H' locs') (hS1 : k_S7 a1 a2 w' rw nm r) (hj : j_Ex0 s D dA 128 w [.ref a1, .int y1, .int y2, .int y3, .int y4, .int y5] H' [.int r9]) (hy1 : y1.toInt = 3) (hy3 : y3.toInt = 0) (h4 : y4.toInt + y5.toInt ≤ (k : Int)) (hk : k < 60) (hf : k_fn w (r 0) 17 k v) : ∃ v', k_fn w' (r 0) 17 k v' ∧ v' = v := by
  have hpd := k_preD (ct := j_c128_50) (r := k_rv [(a1 : Int), (3 : Int), y2.toInt, (0 : Int), y4.toInt, y5.toInt, (k : Int), (rw : Int), (r 3 : Int), (r 0 : Int), v]) (vals := [.ref a1, .int y1, .int y2, .int y3, .int y4, .int y5]) (w := j_w w a1 rw r (j_g0 k 0 0 0 0)) (by decide +kernel) ⟨(by show (0 : Int) ≤ (0) + ((-1) * y4.toInt + ((-1) * y5.toInt + ((1) * (k : Int) + (0)))); omega), (by show (0 : Int) ≤ (3) + (0); omega), trivial⟩ ⟨k_aR (j_in_a1 hS _ I.2.2.2.2.1), ⟨_, rfl, hy1, Int.le_refl _, Int.le_refl _⟩, k_aI _, ⟨_, rfl, hy3, Int.le_refl _, Int.le_refl _⟩, k_aI _, k_aI _, trivial⟩ ⟨⟨40, rfl, c_gv_id40 (by show (0 : Int) ≤ (k : Int); omega) (by show (k : Int) ≤ 59; omega)⟩, k_fnC (b := 0) (j_fn hS (j_g0 k 0 0 0 0) hS.1 (j_in_a1 hS _ I.2.2.2.2.1)) rfl rfl, k_fnC (b := 7) (j_fn hS (j_g0 k 0 0 0 0) (hS.2.2.1 3 (by omega)).1 (j_in_rw hS _)) rfl (by show (0 : Int) + (1 * (3 : Int) + 0) = _; rfl), k_fnC (b := 7) (j_fn hS (j_g0 k 0 0 0 0) (hS.2.2.1 0 (by omega)).1 (j_in_rw hS _)) rfl (by show (0 : Int) + (1 * (0 : Int) + 0) = _; rfl), k_fnC (b := 9) (j_fn hS (j_g0 k 0 0 0 0) hf (j_in_row hS _ (t := 0) (by omega))) rfl (by show (0 : Int) + (1 * (k : Int) + 0) = _; omega), trivial⟩
  obtain ⟨rv2, res2, w2, hh, hr2, hp2, hP2, hD2, hT2⟩ := hj (j_c128_50, k_rv [(a1 : Int), (3 : Int), y2.toInt, (0 : Int), y4.toInt, y5.toInt, (k : Int), (rw : Int), (r 3 : Int), (r 0 : Int), v], j_tg w a1 rw r, j_g0 k 0 0 0 0) j_pm128_50 rfl rfl hpd.1 hpd.2 (j_TW (D := D) I.2.2.1 I.2.1 hS I.2.2.2.2.1 _)
  obtain ⟨x9, rfl, rfl, -, -⟩ := hr2
  have hx9 : x9 = r9 := by injection (Option.some.inj hh)
  subst hx9
  obtain ⟨he2, -, d, hd, rr, p1, p2, p3, p4, -⟩ := hp2
  have e1 : rr 1 = (a1 : Int) := p1 1 (by show 1 < c_entryN j_c128_50; decide)
  have e2 : rr 2 = (3 : Int) := p1 2 (by show 2 < c_entryN j_c128_50; decide)
  have e3 : rr 3 = y2.toInt := p1 3 (by show 3 < c_entryN j_c128_50; decide)
  have e4 : rr 4 = (0 : Int) := p1 4 (by show 4 < c_entryN j_c128_50; decide)
  have e5 : rr 5 = y4.toInt := p1 5 (by show 5 < c_entryN j_c128_50; decide)
  have e6 : rr 6 = y5.toInt := p1 6 (by show 6 < c_entryN j_c128_50; decide)
  have e7 : rr 7 = (k : Int) := p1 7 (by show 7 < c_entryN j_c128_50; decide)
  have e8 : rr 8 = (rw : Int) := p1 8 (by show 8 < c_entryN j_c128_50; decide)
  have e9 : rr 9 = (r 3 : Int) := p1 9 (by show 9 < c_entryN j_c128_50; decide)
  have e10 : rr 10 = (r 0 : Int) := p1 10 (by show 10 < c_entryN j_c128_50; decide)
  have e11 : rr 11 = v := p1 11 (by show 11 < c_entryN j_c128_50; decide)
  have er : rr 12 = x9.toInt := p2 0 _ rfl
  have hin2 := k_inK he2 (by show ((ct_pros j_c128_50).all fun t => Nat.ble 101 t) = true; decide +kernel) (by decide) (j_in_row hS (j_g0 k 0 0 0 0) (t := 0) (by omega))
  have hd : d ∈ ct_post j_c128_50 := hd
  simp only [ct_post, j_c128_50, List.mem_cons, List.not_mem_nil, or_false] at hd
  subst hd
  have hc : k_fn w2 (r 0) 90 k (rr 13) := k_fnD (b := 9) (p3 0 _ rfl) e10 (by show (0 : Int) + (1 * rr 7 + 0) = _; rw [e7]; omega) hin2
  simp only [List.forall_mem_cons, c_ev, c_evs, List.not_mem_nil, false_implies, implies_true, and_true, e11, er] at p4
  exact ⟨rr 13, j_back I1.1 hP2 I1.2.2.1 hT2 (hS1.2.2.1 0 (by omega)).2 rfl rfl hc, by omega⟩
theorem k_pourC7r30 {k : Nat} {v : Int} {y1 y2 y3 y4 y5 r9 : Int32} (I : k_In s D dA a1 a2 w H locs) (hS : k_S7 a1 a2 w rw nm r) (I1 : k_In s D dA a1 a2 w' H' locs') (hS1 : k_S7 a1 a2 w' rw nm r) (hj : j_Ex0 s D dA 128 w [.ref a1, .int y1, .int y2, .int y3, .int y4, .int y5] H' [.int r9]) (hy1 : y1.toInt = 3) (hy3 : y3.toInt = 0) (h0 : r9.toInt = 0) (hk : k < 60) (hf : k_fn w (r 0) 17 k v) : k_fn w' (r 0) 17 k v := by
  have hpd := k_preD (ct := j_c128_51) (r := k_rv [(a1 : Int), (3 : Int), y2.toInt, (0 : Int), y4.toInt, y5.toInt, (k : Int), (rw : Int), (r 3 : Int), (r 0 : Int), v]) (vals := [.ref a1, .int y1, .int y2, .int y3, .int y4, .int y5]) (w := j_w w a1 rw r (j_g0 k 0 0 0 0)) (by decide +kernel) ⟨(by show (0 : Int) ≤ (3) + (0); omega), trivial⟩ ⟨k_aR (j_in_a1 hS _ I.2.2.2.2.1), ⟨_, rfl, hy1, Int.le_refl _, Int.le_refl _⟩, k_aI _, ⟨_, rfl, hy3, Int.le_refl _, Int.le_refl _⟩, k_aI _, k_aI _, trivial⟩ ⟨⟨40, rfl, c_gv_id40 (by show (0 : Int) ≤ (k : Int); omega) (by show (k : Int) ≤ 59; omega)⟩, k_fnC (b := 0) (j_fn hS (j_g0 k 0 0 0 0) hS.1 (j_in_a1 hS _ I.2.2.2.2.1)) rfl rfl, k_fnC (b := 7) (j_fn hS (j_g0 k 0 0 0 0) (hS.2.2.1 3 (by omega)).1 (j_in_rw hS _)) rfl (by show (0 : Int) + (1 * (3 : Int) + 0) = _; rfl), k_fnC (b := 7) (j_fn hS (j_g0 k 0 0 0 0) (hS.2.2.1 0 (by omega)).1 (j_in_rw hS _)) rfl (by show (0 : Int) + (1 * (0 : Int) + 0) = _; rfl), k_fnC (b := 9) (j_fn hS (j_g0 k 0 0 0 0) hf (j_in_row hS _ (t := 0) (by omega))) rfl (by show (0 : Int) + (1 * (k : Int) + 0) = _; omega), trivial⟩
  obtain ⟨rv2, res2, w2, hh, hr2, hp2, hP2, hD2, hT2⟩ := hj (j_c128_51, k_rv [(a1 : Int), (3 : Int), y2.toInt, (0 : Int), y4.toInt, y5.toInt, (k : Int), (rw : Int), (r 3 : Int), (r 0 : Int), v], j_tg w a1 rw r, j_g0 k 0 0 0 0) j_pm128_51 rfl rfl hpd.1 hpd.2 (j_TW (D := D) I.2.2.1 I.2.1 hS I.2.2.2.2.1 _)
  obtain ⟨x9, rfl, rfl, -, -⟩ := hr2
  have hx9 : x9 = r9 := by injection (Option.some.inj hh)
  subst hx9
  obtain ⟨he2, -, d, hd, rr, p1, p2, p3, p4, -⟩ := hp2
  have e1 : rr 1 = (a1 : Int) := p1 1 (by show 1 < c_entryN j_c128_51; decide)
  have e2 : rr 2 = (3 : Int) := p1 2 (by show 2 < c_entryN j_c128_51; decide)
  have e3 : rr 3 = y2.toInt := p1 3 (by show 3 < c_entryN j_c128_51; decide)
  have e4 : rr 4 = (0 : Int) := p1 4 (by show 4 < c_entryN j_c128_51; decide)
  have e5 : rr 5 = y4.toInt := p1 5 (by show 5 < c_entryN j_c128_51; decide)
  have e6 : rr 6 = y5.toInt := p1 6 (by show 6 < c_entryN j_c128_51; decide)
  have e7 : rr 7 = (k : Int) := p1 7 (by show 7 < c_entryN j_c128_51; decide)
  have e8 : rr 8 = (rw : Int) := p1 8 (by show 8 < c_entryN j_c128_51; decide)
  have e9 : rr 9 = (r 3 : Int) := p1 9 (by show 9 < c_entryN j_c128_51; decide)
  have e10 : rr 10 = (r 0 : Int) := p1 10 (by show 10 < c_entryN j_c128_51; decide)
  have e11 : rr 11 = v := p1 11 (by show 11 < c_entryN j_c128_51; decide)
  have er : rr 12 = x9.toInt := p2 0 _ rfl
  have hin2 := k_inK he2 (by show ((ct_pros j_c128_51).all fun t => Nat.ble 101 t) = true; decide +kernel) (by decide) (j_in_row hS (j_g0 k 0 0 0 0) (t := 0) (by omega))
  have hd : d ∈ ct_post j_c128_51 := hd
  simp only [ct_post, j_c128_51, List.mem_cons, List.not_mem_nil, or_false] at hd
  rcases hd with rfl | rfl
  · have hc : k_fn w2 (r 0) 90 k (rr 13) := k_fnD (b := 9) (p3 0 _ rfl) e10 (by show (0 : Int) + (1 * rr 7 + 0) = _; rw [e7]; omega) hin2
    simp only [List.forall_mem_cons, c_ev, c_evs, List.not_mem_nil, false_implies, implies_true, and_true, e11, er] at p4
    have hv : rr 13 = v := by omega
    rw [hv] at hc
    exact j_back I1.1 hP2 I1.2.2.1 hT2 (hS1.2.2.1 0 (by omega)).2 rfl rfl hc
  · simp only [List.forall_mem_cons, c_ev, c_evs, List.not_mem_nil, false_implies, implies_true, and_true, er] at p4
    omega
theorem k_pourC7o30 {k t : Nat} {v v0 : Int} {y1 y2 y3 y4 y5 r9 : Int32} (I : k_In s D dA a1 a2 w H locs) (hS : k_S7 a1 a2 w rw nm r) (I1 : k_In s D dA a1 a2 w' H' locs') (hS1 : k_S7 a1 a2 w' rw nm r) (hj : j_Ex0 s D dA 128 w [.ref a1, .int y1, .int y2, .int y3, .int y4, .int y5] H' [.int r9]) (hy1 : y1.toInt = 3) (hy3 : y3.toInt = 0) (ht : t < 4) (hne : t ≠ 0) (hk : k < 60) (hf0 : k_fn w (r 0) 17 k v0) (hf : k_fn w (r t) 17 k v) : k_fn w' (r t) 17 k v := by
  have hpd := k_preD (ct := j_c128_51) (r := k_rv [(a1 : Int), (3 : Int), y2.toInt, (0 : Int), y4.toInt, y5.toInt, (k : Int), (rw : Int), (r 3 : Int), (r 0 : Int), v0]) (vals := [.ref a1, .int y1, .int y2, .int y3, .int y4, .int y5]) (w := j_w w a1 rw r (j_g0 k 0 0 0 0)) (by decide +kernel) ⟨(by show (0 : Int) ≤ (3) + (0); omega), trivial⟩ ⟨k_aR (j_in_a1 hS _ I.2.2.2.2.1), ⟨_, rfl, hy1, Int.le_refl _, Int.le_refl _⟩, k_aI _, ⟨_, rfl, hy3, Int.le_refl _, Int.le_refl _⟩, k_aI _, k_aI _, trivial⟩ ⟨⟨40, rfl, c_gv_id40 (by show (0 : Int) ≤ (k : Int); omega) (by show (k : Int) ≤ 59; omega)⟩, k_fnC (b := 0) (j_fn hS (j_g0 k 0 0 0 0) hS.1 (j_in_a1 hS _ I.2.2.2.2.1)) rfl rfl, k_fnC (b := 7) (j_fn hS (j_g0 k 0 0 0 0) (hS.2.2.1 3 (by omega)).1 (j_in_rw hS _)) rfl (by show (0 : Int) + (1 * (3 : Int) + 0) = _; rfl), k_fnC (b := 7) (j_fn hS (j_g0 k 0 0 0 0) (hS.2.2.1 0 (by omega)).1 (j_in_rw hS _)) rfl (by show (0 : Int) + (1 * (0 : Int) + 0) = _; rfl), k_fnC (b := 9) (j_fn hS (j_g0 k 0 0 0 0) hf0 (j_in_row hS _ (t := 0) (by omega))) rfl (by show (0 : Int) + (1 * (k : Int) + 0) = _; omega), trivial⟩
  obtain ⟨rv2, res2, w2, hh, hr2, hp2, hP2, hD2, hT2⟩ := hj (j_c128_51, k_rv [(a1 : Int), (3 : Int), y2.toInt, (0 : Int), y4.toInt, y5.toInt, (k : Int), (rw : Int), (r 3 : Int), (r 0 : Int), v0], j_tg w a1 rw r, j_g0 k 0 0 0 0) j_pm128_51 rfl rfl hpd.1 hpd.2 (j_TW (D := D) I.2.2.1 I.2.1 hS I.2.2.2.2.1 _)
  obtain ⟨he2, -⟩ := hp2
  exact j_rowK hS I1 hS1 he2 (by show ((ct_pros j_c128_51).all fun t => Nat.ble 101 t) = true; decide +kernel) hP2 hT2 ht (k_none_ok (by show k_none (ct_eff j_c128_51) (90 + t) = true; rcases (show t = 1 ∨ t = 2 ∨ t = 3 by omega) with rfl | rfl | rfl <;> decide +kernel) _ _) hf
theorem k_pourC7i31 {k k9 : Nat} {u v : Int} {y1 y2 y3 y4 y5 r9 : Int32} (I : k_In s D dA a1 a2 w H locs) (hS : k_S7 a1 a2 w rw nm r) (I1 : k_In s D dA a1 a2 w' H' locs') (hS1 : k_S7 a1 a2 w' rw nm r) (hj : j_Ex0 s D dA 128 w [.ref a1, .int y1, .int y2, .int y3, .int y4, .int y5] H' [.int r9]) (hy1 : y1.toInt = 3) (hy3 : y3.toInt = 1) (h4 : y4.toInt ≤ (k : Int)) (h5 : (k : Int) < y4.toInt + y5.toInt) (h9 : (k9 : Int) = y2.toInt - y4.toInt + (k : Int)) (hk9 : k9 < 60) (hk : k < 60) (hs9 : k_fn w (r 3) 17 k9 u) (hf : k_fn w (r 1) 17 k v) : ∃ v', k_fn w' (r 1) 17 k v' ∧ ((r9.toInt = 1 ∧ v' = u) ∨ (r9.toInt = 0 ∧ v' = v)) := by
  have hpd := k_preD (ct := j_c128_52) (r := k_rv [(a1 : Int), (3 : Int), y2.toInt, (1 : Int), y4.toInt, y5.toInt, (k : Int), (rw : Int), (r 3 : Int), (r 1 : Int), u, v]) (vals := [.ref a1, .int y1, .int y2, .int y3, .int y4, .int y5]) (w := j_w w a1 rw r (j_g0 k 0 0 0 0)) (by decide +kernel) ⟨(by show (0 : Int) ≤ (0) + ((-1) * y4.toInt + ((1) * (k : Int) + (0))); omega), (by show (0 : Int) ≤ (-1) + ((1) * y4.toInt + ((1) * y5.toInt + ((-1) * (k : Int) + (0)))); omega), (by show (0 : Int) ≤ (0) + ((1) * y2.toInt + ((-1) * y4.toInt + ((1) * (k : Int) + (0)))); omega), (by show (0 : Int) ≤ (59) + ((-1) * y2.toInt + ((1) * y4.toInt + ((-1) * (k : Int) + (0)))); omega), (by show (0 : Int) ≤ (3) + (0); omega), trivial⟩ ⟨k_aR (j_in_a1 hS _ I.2.2.2.2.1), ⟨_, rfl, hy1, Int.le_refl _, Int.le_refl _⟩, k_aI _, ⟨_, rfl, hy3, Int.le_refl _, Int.le_refl _⟩, k_aI _, k_aI _, trivial⟩ ⟨⟨40, rfl, c_gv_id40 (by show (0 : Int) ≤ (k : Int); omega) (by show (k : Int) ≤ 59; omega)⟩, k_fnC (b := 0) (j_fn hS (j_g0 k 0 0 0 0) hS.1 (j_in_a1 hS _ I.2.2.2.2.1)) rfl rfl, k_fnC (b := 7) (j_fn hS (j_g0 k 0 0 0 0) (hS.2.2.1 3 (by omega)).1 (j_in_rw hS _)) rfl (by show (0 : Int) + (1 * (3 : Int) + 0) = _; rfl), k_fnC (b := 7) (j_fn hS (j_g0 k 0 0 0 0) (hS.2.2.1 1 (by omega)).1 (j_in_rw hS _)) rfl (by show (0 : Int) + (1 * (1 : Int) + 0) = _; rfl), k_fnC (b := 8) (j_fn hS (j_g0 k 0 0 0 0) hs9 (j_in_row hS _ (t := 3) (by omega))) rfl (by show (0 : Int) + (1 * y2.toInt + ((-1) * y4.toInt + (1 * (k : Int) + 0))) = _; omega), k_fnC (b := 9) (j_fn hS (j_g0 k 0 0 0 0) hf (j_in_row hS _ (t := 1) (by omega))) rfl (by show (0 : Int) + (1 * (k : Int) + 0) = _; omega), trivial⟩
  obtain ⟨rv2, res2, w2, hh, hr2, hp2, hP2, hD2, hT2⟩ := hj (j_c128_52, k_rv [(a1 : Int), (3 : Int), y2.toInt, (1 : Int), y4.toInt, y5.toInt, (k : Int), (rw : Int), (r 3 : Int), (r 1 : Int), u, v], j_tg w a1 rw r, j_g0 k 0 0 0 0) j_pm128_52 rfl rfl hpd.1 hpd.2 (j_TW (D := D) I.2.2.1 I.2.1 hS I.2.2.2.2.1 _)
  obtain ⟨x9, rfl, rfl, -, -⟩ := hr2
  have hx9 : x9 = r9 := by injection (Option.some.inj hh)
  subst hx9
  obtain ⟨he2, -, d, hd, rr, p1, p2, p3, p4, -⟩ := hp2
  have e1 : rr 1 = (a1 : Int) := p1 1 (by show 1 < c_entryN j_c128_52; decide)
  have e2 : rr 2 = (3 : Int) := p1 2 (by show 2 < c_entryN j_c128_52; decide)
  have e3 : rr 3 = y2.toInt := p1 3 (by show 3 < c_entryN j_c128_52; decide)
  have e4 : rr 4 = (1 : Int) := p1 4 (by show 4 < c_entryN j_c128_52; decide)
  have e5 : rr 5 = y4.toInt := p1 5 (by show 5 < c_entryN j_c128_52; decide)
  have e6 : rr 6 = y5.toInt := p1 6 (by show 6 < c_entryN j_c128_52; decide)
  have e7 : rr 7 = (k : Int) := p1 7 (by show 7 < c_entryN j_c128_52; decide)
  have e8 : rr 8 = (rw : Int) := p1 8 (by show 8 < c_entryN j_c128_52; decide)
  have e9 : rr 9 = (r 3 : Int) := p1 9 (by show 9 < c_entryN j_c128_52; decide)
  have e10 : rr 10 = (r 1 : Int) := p1 10 (by show 10 < c_entryN j_c128_52; decide)
  have e11 : rr 11 = u := p1 11 (by show 11 < c_entryN j_c128_52; decide)
  have e12 : rr 12 = v := p1 12 (by show 12 < c_entryN j_c128_52; decide)
  have er : rr 13 = x9.toInt := p2 0 _ rfl
  have hin2 := k_inK he2 (by show ((ct_pros j_c128_52).all fun t => Nat.ble 101 t) = true; decide +kernel) (by decide) (j_in_row hS (j_g0 k 0 0 0 0) (t := 1) (by omega))
  have hd : d ∈ ct_post j_c128_52 := hd
  simp only [ct_post, j_c128_52, List.mem_cons, List.not_mem_nil, or_false] at hd
  rcases hd with rfl | rfl
  all_goals
    have hc : k_fn w2 (r 1) 91 k (rr 14) := k_fnD (b := 9) (p3 0 _ rfl) e10 (by show (0 : Int) + (1 * rr 7 + 0) = _; rw [e7]; omega) hin2
    simp only [List.forall_mem_cons, c_ev, c_evs, List.not_mem_nil, false_implies, implies_true, and_true, e11, e12, er] at p4
    exact ⟨rr 14, j_back I1.1 hP2 I1.2.2.1 hT2 (hS1.2.2.1 1 (by omega)).2 rfl rfl hc, by omega⟩
theorem k_pourC7l31 {k : Nat} {v : Int} {y1 y2 y3 y4 y5 r9 : Int32} (I : k_In s D dA a1 a2 w H locs) (hS : k_S7 a1 a2 w rw nm r) (I1 : k_In s D dA a1 a2 w' H' locs') (hS1 : k_S7 a1 a2 w' rw nm r) (hj : j_Ex0 s D dA 128 w [.ref a1, .int y1, .int y2, .int y3, .int y4, .int y5] H' [.int r9]) (hy1 : y1.toInt = 3) (hy3 : y3.toInt = 1) (h4 : (k : Int) < y4.toInt) (hk : k < 60) (hf : k_fn w (r 1) 17 k v) : ∃ v', k_fn w' (r 1) 17 k v' ∧ v' = v := by
  have hpd := k_preD (ct := j_c128_53) (r := k_rv [(a1 : Int), (3 : Int), y2.toInt, (1 : Int), y4.toInt, y5.toInt, (k : Int), (rw : Int), (r 3 : Int), (r 1 : Int), v]) (vals := [.ref a1, .int y1, .int y2, .int y3, .int y4, .int y5]) (w := j_w w a1 rw r (j_g0 k 0 0 0 0)) (by decide +kernel) ⟨(by show (0 : Int) ≤ (-1) + ((1) * y4.toInt + ((-1) * (k : Int) + (0))); omega), (by show (0 : Int) ≤ (3) + (0); omega), trivial⟩ ⟨k_aR (j_in_a1 hS _ I.2.2.2.2.1), ⟨_, rfl, hy1, Int.le_refl _, Int.le_refl _⟩, k_aI _, ⟨_, rfl, hy3, Int.le_refl _, Int.le_refl _⟩, k_aI _, k_aI _, trivial⟩ ⟨⟨40, rfl, c_gv_id40 (by show (0 : Int) ≤ (k : Int); omega) (by show (k : Int) ≤ 59; omega)⟩, k_fnC (b := 0) (j_fn hS (j_g0 k 0 0 0 0) hS.1 (j_in_a1 hS _ I.2.2.2.2.1)) rfl rfl, k_fnC (b := 7) (j_fn hS (j_g0 k 0 0 0 0) (hS.2.2.1 3 (by omega)).1 (j_in_rw hS _)) rfl (by show (0 : Int) + (1 * (3 : Int) + 0) = _; rfl), k_fnC (b := 7) (j_fn hS (j_g0 k 0 0 0 0) (hS.2.2.1 1 (by omega)).1 (j_in_rw hS _)) rfl (by show (0 : Int) + (1 * (1 : Int) + 0) = _; rfl), k_fnC (b := 9) (j_fn hS (j_g0 k 0 0 0 0) hf (j_in_row hS _ (t := 1) (by omega))) rfl (by show (0 : Int) + (1 * (k : Int) + 0) = _; omega), trivial⟩
  obtain ⟨rv2, res2, w2, hh, hr2, hp2, hP2, hD2, hT2⟩ := hj (j_c128_53, k_rv [(a1 : Int), (3 : Int), y2.toInt, (1 : Int), y4.toInt, y5.toInt, (k : Int), (rw : Int), (r 3 : Int), (r 1 : Int), v], j_tg w a1 rw r, j_g0 k 0 0 0 0) j_pm128_53 rfl rfl hpd.1 hpd.2 (j_TW (D := D) I.2.2.1 I.2.1 hS I.2.2.2.2.1 _)
  obtain ⟨x9, rfl, rfl, -, -⟩ := hr2
  have hx9 : x9 = r9 := by injection (Option.some.inj hh)
  subst hx9
  obtain ⟨he2, -, d, hd, rr, p1, p2, p3, p4, -⟩ := hp2
  have e1 : rr 1 = (a1 : Int) := p1 1 (by show 1 < c_entryN j_c128_53; decide)
  have e2 : rr 2 = (3 : Int) := p1 2 (by show 2 < c_entryN j_c128_53; decide)
  have e3 : rr 3 = y2.toInt := p1 3 (by show 3 < c_entryN j_c128_53; decide)
  have e4 : rr 4 = (1 : Int) := p1 4 (by show 4 < c_entryN j_c128_53; decide)
  have e5 : rr 5 = y4.toInt := p1 5 (by show 5 < c_entryN j_c128_53; decide)
  have e6 : rr 6 = y5.toInt := p1 6 (by show 6 < c_entryN j_c128_53; decide)
  have e7 : rr 7 = (k : Int) := p1 7 (by show 7 < c_entryN j_c128_53; decide)
  have e8 : rr 8 = (rw : Int) := p1 8 (by show 8 < c_entryN j_c128_53; decide)
  have e9 : rr 9 = (r 3 : Int) := p1 9 (by show 9 < c_entryN j_c128_53; decide)
  have e10 : rr 10 = (r 1 : Int) := p1 10 (by show 10 < c_entryN j_c128_53; decide)
  have e11 : rr 11 = v := p1 11 (by show 11 < c_entryN j_c128_53; decide)
  have er : rr 12 = x9.toInt := p2 0 _ rfl
  have hin2 := k_inK he2 (by show ((ct_pros j_c128_53).all fun t => Nat.ble 101 t) = true; decide +kernel) (by decide) (j_in_row hS (j_g0 k 0 0 0 0) (t := 1) (by omega))
  have hd : d ∈ ct_post j_c128_53 := hd
  simp only [ct_post, j_c128_53, List.mem_cons, List.not_mem_nil, or_false] at hd
  subst hd
  have hc : k_fn w2 (r 1) 91 k (rr 13) := k_fnD (b := 9) (p3 0 _ rfl) e10 (by show (0 : Int) + (1 * rr 7 + 0) = _; rw [e7]; omega) hin2
  simp only [List.forall_mem_cons, c_ev, c_evs, List.not_mem_nil, false_implies, implies_true, and_true, e11, er] at p4
  exact ⟨rr 13, j_back I1.1 hP2 I1.2.2.1 hT2 (hS1.2.2.1 1 (by omega)).2 rfl rfl hc, by omega⟩
theorem k_pourC7g31 {k : Nat} {v : Int} {y1 y2 y3 y4 y5 r9 : Int32} (I : k_In s D dA a1 a2 w H locs) (hS : k_S7 a1 a2 w rw nm r) (I1 : k_In s D dA a1 a2 w' H' locs') (hS1 : k_S7 a1 a2 w' rw nm r) (hj : j_Ex0 s D dA 128 w [.ref a1, .int y1, .int y2, .int y3, .int y4, .int y5] H' [.int r9]) (hy1 : y1.toInt = 3) (hy3 : y3.toInt = 1) (h4 : y4.toInt + y5.toInt ≤ (k : Int)) (hk : k < 60) (hf : k_fn w (r 1) 17 k v) : ∃ v', k_fn w' (r 1) 17 k v' ∧ v' = v := by
  have hpd := k_preD (ct := j_c128_54) (r := k_rv [(a1 : Int), (3 : Int), y2.toInt, (1 : Int), y4.toInt, y5.toInt, (k : Int), (rw : Int), (r 3 : Int), (r 1 : Int), v]) (vals := [.ref a1, .int y1, .int y2, .int y3, .int y4, .int y5]) (w := j_w w a1 rw r (j_g0 k 0 0 0 0)) (by decide +kernel) ⟨(by show (0 : Int) ≤ (0) + ((-1) * y4.toInt + ((-1) * y5.toInt + ((1) * (k : Int) + (0)))); omega), (by show (0 : Int) ≤ (3) + (0); omega), trivial⟩ ⟨k_aR (j_in_a1 hS _ I.2.2.2.2.1), ⟨_, rfl, hy1, Int.le_refl _, Int.le_refl _⟩, k_aI _, ⟨_, rfl, hy3, Int.le_refl _, Int.le_refl _⟩, k_aI _, k_aI _, trivial⟩ ⟨⟨40, rfl, c_gv_id40 (by show (0 : Int) ≤ (k : Int); omega) (by show (k : Int) ≤ 59; omega)⟩, k_fnC (b := 0) (j_fn hS (j_g0 k 0 0 0 0) hS.1 (j_in_a1 hS _ I.2.2.2.2.1)) rfl rfl, k_fnC (b := 7) (j_fn hS (j_g0 k 0 0 0 0) (hS.2.2.1 3 (by omega)).1 (j_in_rw hS _)) rfl (by show (0 : Int) + (1 * (3 : Int) + 0) = _; rfl), k_fnC (b := 7) (j_fn hS (j_g0 k 0 0 0 0) (hS.2.2.1 1 (by omega)).1 (j_in_rw hS _)) rfl (by show (0 : Int) + (1 * (1 : Int) + 0) = _; rfl), k_fnC (b := 9) (j_fn hS (j_g0 k 0 0 0 0) hf (j_in_row hS _ (t := 1) (by omega))) rfl (by show (0 : Int) + (1 * (k : Int) + 0) = _; omega), trivial⟩
  obtain ⟨rv2, res2, w2, hh, hr2, hp2, hP2, hD2, hT2⟩ := hj (j_c128_54, k_rv [(a1 : Int), (3 : Int), y2.toInt, (1 : Int), y4.toInt, y5.toInt, (k : Int), (rw : Int), (r 3 : Int), (r 1 : Int), v], j_tg w a1 rw r, j_g0 k 0 0 0 0) j_pm128_54 rfl rfl hpd.1 hpd.2 (j_TW (D := D) I.2.2.1 I.2.1 hS I.2.2.2.2.1 _)
  obtain ⟨x9, rfl, rfl, -, -⟩ := hr2
  have hx9 : x9 = r9 := by injection (Option.some.inj hh)
  subst hx9
  obtain ⟨he2, -, d, hd, rr, p1, p2, p3, p4, -⟩ := hp2
  have e1 : rr 1 = (a1 : Int) := p1 1 (by show 1 < c_entryN j_c128_54; decide)
  have e2 : rr 2 = (3 : Int) := p1 2 (by show 2 < c_entryN j_c128_54; decide)
  have e3 : rr 3 = y2.toInt := p1 3 (by show 3 < c_entryN j_c128_54; decide)
  have e4 : rr 4 = (1 : Int) := p1 4 (by show 4 < c_entryN j_c128_54; decide)
  have e5 : rr 5 = y4.toInt := p1 5 (by show 5 < c_entryN j_c128_54; decide)
  have e6 : rr 6 = y5.toInt := p1 6 (by show 6 < c_entryN j_c128_54; decide)
  have e7 : rr 7 = (k : Int) := p1 7 (by show 7 < c_entryN j_c128_54; decide)
  have e8 : rr 8 = (rw : Int) := p1 8 (by show 8 < c_entryN j_c128_54; decide)
  have e9 : rr 9 = (r 3 : Int) := p1 9 (by show 9 < c_entryN j_c128_54; decide)
  have e10 : rr 10 = (r 1 : Int) := p1 10 (by show 10 < c_entryN j_c128_54; decide)
  have e11 : rr 11 = v := p1 11 (by show 11 < c_entryN j_c128_54; decide)
  have er : rr 12 = x9.toInt := p2 0 _ rfl
  have hin2 := k_inK he2 (by show ((ct_pros j_c128_54).all fun t => Nat.ble 101 t) = true; decide +kernel) (by decide) (j_in_row hS (j_g0 k 0 0 0 0) (t := 1) (by omega))
  have hd : d ∈ ct_post j_c128_54 := hd
  simp only [ct_post, j_c128_54, List.mem_cons, List.not_mem_nil, or_false] at hd
  subst hd
  have hc : k_fn w2 (r 1) 91 k (rr 13) := k_fnD (b := 9) (p3 0 _ rfl) e10 (by show (0 : Int) + (1 * rr 7 + 0) = _; rw [e7]; omega) hin2
  simp only [List.forall_mem_cons, c_ev, c_evs, List.not_mem_nil, false_implies, implies_true, and_true, e11, er] at p4
  exact ⟨rr 13, j_back I1.1 hP2 I1.2.2.1 hT2 (hS1.2.2.1 1 (by omega)).2 rfl rfl hc, by omega⟩
theorem k_pourC7r31 {k : Nat} {v : Int} {y1 y2 y3 y4 y5 r9 : Int32} (I : k_In s D dA a1 a2 w H locs) (hS : k_S7 a1 a2 w rw nm r) (I1 : k_In s D dA a1 a2 w' H' locs') (hS1 : k_S7 a1 a2 w' rw nm r) (hj : j_Ex0 s D dA 128 w [.ref a1, .int y1, .int y2, .int y3, .int y4, .int y5] H' [.int r9]) (hy1 : y1.toInt = 3) (hy3 : y3.toInt = 1) (h0 : r9.toInt = 0) (hk : k < 60) (hf : k_fn w (r 1) 17 k v) : k_fn w' (r 1) 17 k v := by
  have hpd := k_preD (ct := j_c128_55) (r := k_rv [(a1 : Int), (3 : Int), y2.toInt, (1 : Int), y4.toInt, y5.toInt, (k : Int), (rw : Int), (r 3 : Int), (r 1 : Int), v]) (vals := [.ref a1, .int y1, .int y2, .int y3, .int y4, .int y5]) (w := j_w w a1 rw r (j_g0 k 0 0 0 0)) (by decide +kernel) ⟨(by show (0 : Int) ≤ (3) + (0); omega), trivial⟩ ⟨k_aR (j_in_a1 hS _ I.2.2.2.2.1), ⟨_, rfl, hy1, Int.le_refl _, Int.le_refl _⟩, k_aI _, ⟨_, rfl, hy3, Int.le_refl _, Int.le_refl _⟩, k_aI _, k_aI _, trivial⟩ ⟨⟨40, rfl, c_gv_id40 (by show (0 : Int) ≤ (k : Int); omega) (by show (k : Int) ≤ 59; omega)⟩, k_fnC (b := 0) (j_fn hS (j_g0 k 0 0 0 0) hS.1 (j_in_a1 hS _ I.2.2.2.2.1)) rfl rfl, k_fnC (b := 7) (j_fn hS (j_g0 k 0 0 0 0) (hS.2.2.1 3 (by omega)).1 (j_in_rw hS _)) rfl (by show (0 : Int) + (1 * (3 : Int) + 0) = _; rfl), k_fnC (b := 7) (j_fn hS (j_g0 k 0 0 0 0) (hS.2.2.1 1 (by omega)).1 (j_in_rw hS _)) rfl (by show (0 : Int) + (1 * (1 : Int) + 0) = _; rfl), k_fnC (b := 9) (j_fn hS (j_g0 k 0 0 0 0) hf (j_in_row hS _ (t := 1) (by omega))) rfl (by show (0 : Int) + (1 * (k : Int) + 0) = _; omega), trivial⟩
  obtain ⟨rv2, res2, w2, hh, hr2, hp2, hP2, hD2, hT2⟩ := hj (j_c128_55, k_rv [(a1 : Int), (3 : Int), y2.toInt, (1 : Int), y4.toInt, y5.toInt, (k : Int), (rw : Int), (r 3 : Int), (r 1 : Int), v], j_tg w a1 rw r, j_g0 k 0 0 0 0) j_pm128_55 rfl rfl hpd.1 hpd.2 (j_TW (D := D) I.2.2.1 I.2.1 hS I.2.2.2.2.1 _)
  obtain ⟨x9, rfl, rfl, -, -⟩ := hr2
  have hx9 : x9 = r9 := by injection (Option.some.inj hh)
  subst hx9
  obtain ⟨he2, -, d, hd, rr, p1, p2, p3, p4, -⟩ := hp2
  have e1 : rr 1 = (a1 : Int) := p1 1 (by show 1 < c_entryN j_c128_55; decide)
  have e2 : rr 2 = (3 : Int) := p1 2 (by show 2 < c_entryN j_c128_55; decide)
  have e3 : rr 3 = y2.toInt := p1 3 (by show 3 < c_entryN j_c128_55; decide)
  have e4 : rr 4 = (1 : Int) := p1 4 (by show 4 < c_entryN j_c128_55; decide)
  have e5 : rr 5 = y4.toInt := p1 5 (by show 5 < c_entryN j_c128_55; decide)
  have e6 : rr 6 = y5.toInt := p1 6 (by show 6 < c_entryN j_c128_55; decide)
  have e7 : rr 7 = (k : Int) := p1 7 (by show 7 < c_entryN j_c128_55; decide)
  have e8 : rr 8 = (rw : Int) := p1 8 (by show 8 < c_entryN j_c128_55; decide)
  have e9 : rr 9 = (r 3 : Int) := p1 9 (by show 9 < c_entryN j_c128_55; decide)
  have e10 : rr 10 = (r 1 : Int) := p1 10 (by show 10 < c_entryN j_c128_55; decide)
  have e11 : rr 11 = v := p1 11 (by show 11 < c_entryN j_c128_55; decide)
  have er : rr 12 = x9.toInt := p2 0 _ rfl
  have hin2 := k_inK he2 (by show ((ct_pros j_c128_55).all fun t => Nat.ble 101 t) = true; decide +kernel) (by decide) (j_in_row hS (j_g0 k 0 0 0 0) (t := 1) (by omega))
  have hd : d ∈ ct_post j_c128_55 := hd
  simp only [ct_post, j_c128_55, List.mem_cons, List.not_mem_nil, or_false] at hd
  rcases hd with rfl | rfl
  · have hc : k_fn w2 (r 1) 91 k (rr 13) := k_fnD (b := 9) (p3 0 _ rfl) e10 (by show (0 : Int) + (1 * rr 7 + 0) = _; rw [e7]; omega) hin2
    simp only [List.forall_mem_cons, c_ev, c_evs, List.not_mem_nil, false_implies, implies_true, and_true, e11, er] at p4
    have hv : rr 13 = v := by omega
    rw [hv] at hc
    exact j_back I1.1 hP2 I1.2.2.1 hT2 (hS1.2.2.1 1 (by omega)).2 rfl rfl hc
  · simp only [List.forall_mem_cons, c_ev, c_evs, List.not_mem_nil, false_implies, implies_true, and_true, er] at p4
    omega
theorem k_pourC7o31 {k t : Nat} {v v0 : Int} {y1 y2 y3 y4 y5 r9 : Int32} (I : k_In s D dA a1 a2 w H locs) (hS : k_S7 a1 a2 w rw nm r) (I1 : k_In s D dA a1 a2 w' H' locs') (hS1 : k_S7 a1 a2 w' rw nm r) (hj : j_Ex0 s D dA 128 w [.ref a1, .int y1, .int y2, .int y3, .int y4, .int y5] H' [.int r9]) (hy1 : y1.toInt = 3) (hy3 : y3.toInt = 1) (ht : t < 4) (hne : t ≠ 1) (hk : k < 60) (hf0 : k_fn w (r 1) 17 k v0) (hf : k_fn w (r t) 17 k v) : k_fn w' (r t) 17 k v := by
  have hpd := k_preD (ct := j_c128_55) (r := k_rv [(a1 : Int), (3 : Int), y2.toInt, (1 : Int), y4.toInt, y5.toInt, (k : Int), (rw : Int), (r 3 : Int), (r 1 : Int), v0]) (vals := [.ref a1, .int y1, .int y2, .int y3, .int y4, .int y5]) (w := j_w w a1 rw r (j_g0 k 0 0 0 0)) (by decide +kernel) ⟨(by show (0 : Int) ≤ (3) + (0); omega), trivial⟩ ⟨k_aR (j_in_a1 hS _ I.2.2.2.2.1), ⟨_, rfl, hy1, Int.le_refl _, Int.le_refl _⟩, k_aI _, ⟨_, rfl, hy3, Int.le_refl _, Int.le_refl _⟩, k_aI _, k_aI _, trivial⟩ ⟨⟨40, rfl, c_gv_id40 (by show (0 : Int) ≤ (k : Int); omega) (by show (k : Int) ≤ 59; omega)⟩, k_fnC (b := 0) (j_fn hS (j_g0 k 0 0 0 0) hS.1 (j_in_a1 hS _ I.2.2.2.2.1)) rfl rfl, k_fnC (b := 7) (j_fn hS (j_g0 k 0 0 0 0) (hS.2.2.1 3 (by omega)).1 (j_in_rw hS _)) rfl (by show (0 : Int) + (1 * (3 : Int) + 0) = _; rfl), k_fnC (b := 7) (j_fn hS (j_g0 k 0 0 0 0) (hS.2.2.1 1 (by omega)).1 (j_in_rw hS _)) rfl (by show (0 : Int) + (1 * (1 : Int) + 0) = _; rfl), k_fnC (b := 9) (j_fn hS (j_g0 k 0 0 0 0) hf0 (j_in_row hS _ (t := 1) (by omega))) rfl (by show (0 : Int) + (1 * (k : Int) + 0) = _; omega), trivial⟩
  obtain ⟨rv2, res2, w2, hh, hr2, hp2, hP2, hD2, hT2⟩ := hj (j_c128_55, k_rv [(a1 : Int), (3 : Int), y2.toInt, (1 : Int), y4.toInt, y5.toInt, (k : Int), (rw : Int), (r 3 : Int), (r 1 : Int), v0], j_tg w a1 rw r, j_g0 k 0 0 0 0) j_pm128_55 rfl rfl hpd.1 hpd.2 (j_TW (D := D) I.2.2.1 I.2.1 hS I.2.2.2.2.1 _)
  obtain ⟨he2, -⟩ := hp2
  exact j_rowK hS I1 hS1 he2 (by show ((ct_pros j_c128_55).all fun t => Nat.ble 101 t) = true; decide +kernel) hP2 hT2 ht (k_none_ok (by show k_none (ct_eff j_c128_55) (90 + t) = true; rcases (show t = 0 ∨ t = 2 ∨ t = 3 by omega) with rfl | rfl | rfl <;> decide +kernel) _ _) hf
theorem k_pourC7i32 {k k9 : Nat} {u v : Int} {y1 y2 y3 y4 y5 r9 : Int32} (I : k_In s D dA a1 a2 w H locs) (hS : k_S7 a1 a2 w rw nm r) (I1 : k_In s D dA a1 a2 w' H' locs') (hS1 : k_S7 a1 a2 w' rw nm r) (hj : j_Ex0 s D dA 128 w [.ref a1, .int y1, .int y2, .int y3, .int y4, .int y5] H' [.int r9]) (hy1 : y1.toInt = 3) (hy3 : y3.toInt = 2) (h4 : y4.toInt ≤ (k : Int)) (h5 : (k : Int) < y4.toInt + y5.toInt) (h9 : (k9 : Int) = y2.toInt - y4.toInt + (k : Int)) (hk9 : k9 < 60) (hk : k < 60) (hs9 : k_fn w (r 3) 17 k9 u) (hf : k_fn w (r 2) 17 k v) : ∃ v', k_fn w' (r 2) 17 k v' ∧ ((r9.toInt = 1 ∧ v' = u) ∨ (r9.toInt = 0 ∧ v' = v)) := by
  have hpd := k_preD (ct := j_c128_56) (r := k_rv [(a1 : Int), (3 : Int), y2.toInt, (2 : Int), y4.toInt, y5.toInt, (k : Int), (rw : Int), (r 3 : Int), (r 2 : Int), u, v]) (vals := [.ref a1, .int y1, .int y2, .int y3, .int y4, .int y5]) (w := j_w w a1 rw r (j_g0 k 0 0 0 0)) (by decide +kernel) ⟨(by show (0 : Int) ≤ (0) + ((-1) * y4.toInt + ((1) * (k : Int) + (0))); omega), (by show (0 : Int) ≤ (-1) + ((1) * y4.toInt + ((1) * y5.toInt + ((-1) * (k : Int) + (0)))); omega), (by show (0 : Int) ≤ (0) + ((1) * y2.toInt + ((-1) * y4.toInt + ((1) * (k : Int) + (0)))); omega), (by show (0 : Int) ≤ (59) + ((-1) * y2.toInt + ((1) * y4.toInt + ((-1) * (k : Int) + (0)))); omega), (by show (0 : Int) ≤ (3) + (0); omega), trivial⟩ ⟨k_aR (j_in_a1 hS _ I.2.2.2.2.1), ⟨_, rfl, hy1, Int.le_refl _, Int.le_refl _⟩, k_aI _, ⟨_, rfl, hy3, Int.le_refl _, Int.le_refl _⟩, k_aI _, k_aI _, trivial⟩ ⟨⟨40, rfl, c_gv_id40 (by show (0 : Int) ≤ (k : Int); omega) (by show (k : Int) ≤ 59; omega)⟩, k_fnC (b := 0) (j_fn hS (j_g0 k 0 0 0 0) hS.1 (j_in_a1 hS _ I.2.2.2.2.1)) rfl rfl, k_fnC (b := 7) (j_fn hS (j_g0 k 0 0 0 0) (hS.2.2.1 3 (by omega)).1 (j_in_rw hS _)) rfl (by show (0 : Int) + (1 * (3 : Int) + 0) = _; rfl), k_fnC (b := 7) (j_fn hS (j_g0 k 0 0 0 0) (hS.2.2.1 2 (by omega)).1 (j_in_rw hS _)) rfl (by show (0 : Int) + (1 * (2 : Int) + 0) = _; rfl), k_fnC (b := 8) (j_fn hS (j_g0 k 0 0 0 0) hs9 (j_in_row hS _ (t := 3) (by omega))) rfl (by show (0 : Int) + (1 * y2.toInt + ((-1) * y4.toInt + (1 * (k : Int) + 0))) = _; omega), k_fnC (b := 9) (j_fn hS (j_g0 k 0 0 0 0) hf (j_in_row hS _ (t := 2) (by omega))) rfl (by show (0 : Int) + (1 * (k : Int) + 0) = _; omega), trivial⟩
  obtain ⟨rv2, res2, w2, hh, hr2, hp2, hP2, hD2, hT2⟩ := hj (j_c128_56, k_rv [(a1 : Int), (3 : Int), y2.toInt, (2 : Int), y4.toInt, y5.toInt, (k : Int), (rw : Int), (r 3 : Int), (r 2 : Int), u, v], j_tg w a1 rw r, j_g0 k 0 0 0 0) j_pm128_56 rfl rfl hpd.1 hpd.2 (j_TW (D := D) I.2.2.1 I.2.1 hS I.2.2.2.2.1 _)
  obtain ⟨x9, rfl, rfl, -, -⟩ := hr2
  have hx9 : x9 = r9 := by injection (Option.some.inj hh)
  subst hx9
  obtain ⟨he2, -, d, hd, rr, p1, p2, p3, p4, -⟩ := hp2
  have e1 : rr 1 = (a1 : Int) := p1 1 (by show 1 < c_entryN j_c128_56; decide)
  have e2 : rr 2 = (3 : Int) := p1 2 (by show 2 < c_entryN j_c128_56; decide)
  have e3 : rr 3 = y2.toInt := p1 3 (by show 3 < c_entryN j_c128_56; decide)
  have e4 : rr 4 = (2 : Int) := p1 4 (by show 4 < c_entryN j_c128_56; decide)
  have e5 : rr 5 = y4.toInt := p1 5 (by show 5 < c_entryN j_c128_56; decide)
  have e6 : rr 6 = y5.toInt := p1 6 (by show 6 < c_entryN j_c128_56; decide)
  have e7 : rr 7 = (k : Int) := p1 7 (by show 7 < c_entryN j_c128_56; decide)
  have e8 : rr 8 = (rw : Int) := p1 8 (by show 8 < c_entryN j_c128_56; decide)
  have e9 : rr 9 = (r 3 : Int) := p1 9 (by show 9 < c_entryN j_c128_56; decide)
  have e10 : rr 10 = (r 2 : Int) := p1 10 (by show 10 < c_entryN j_c128_56; decide)
  have e11 : rr 11 = u := p1 11 (by show 11 < c_entryN j_c128_56; decide)
  have e12 : rr 12 = v := p1 12 (by show 12 < c_entryN j_c128_56; decide)
  have er : rr 13 = x9.toInt := p2 0 _ rfl
  have hin2 := k_inK he2 (by show ((ct_pros j_c128_56).all fun t => Nat.ble 101 t) = true; decide +kernel) (by decide) (j_in_row hS (j_g0 k 0 0 0 0) (t := 2) (by omega))
  have hd : d ∈ ct_post j_c128_56 := hd
  simp only [ct_post, j_c128_56, List.mem_cons, List.not_mem_nil, or_false] at hd
  rcases hd with rfl | rfl
  all_goals
    have hc : k_fn w2 (r 2) 92 k (rr 14) := k_fnD (b := 9) (p3 0 _ rfl) e10 (by show (0 : Int) + (1 * rr 7 + 0) = _; rw [e7]; omega) hin2
    simp only [List.forall_mem_cons, c_ev, c_evs, List.not_mem_nil, false_implies, implies_true, and_true, e11, e12, er] at p4
    exact ⟨rr 14, j_back I1.1 hP2 I1.2.2.1 hT2 (hS1.2.2.1 2 (by omega)).2 rfl rfl hc, by omega⟩
theorem k_pourC7l32 {k : Nat} {v : Int} {y1 y2 y3 y4 y5 r9 : Int32} (I : k_In s D dA a1 a2 w H locs) (hS : k_S7 a1 a2 w rw nm r) (I1 : k_In s D dA a1 a2 w' H' locs') (hS1 : k_S7 a1 a2 w' rw nm r) (hj : j_Ex0 s D dA 128 w [.ref a1, .int y1, .int y2, .int y3, .int y4, .int y5] H' [.int r9]) (hy1 : y1.toInt = 3) (hy3 : y3.toInt = 2) (h4 : (k : Int) < y4.toInt) (hk : k < 60) (hf : k_fn w (r 2) 17 k v) : ∃ v', k_fn w' (r 2) 17 k v' ∧ v' = v := by
  have hpd := k_preD (ct := j_c128_57) (r := k_rv [(a1 : Int), (3 : Int), y2.toInt, (2 : Int), y4.toInt, y5.toInt, (k : Int), (rw : Int), (r 3 : Int), (r 2 : Int), v]) (vals := [.ref a1, .int y1, .int y2, .int y3, .int y4, .int y5]) (w := j_w w a1 rw r (j_g0 k 0 0 0 0)) (by decide +kernel) ⟨(by show (0 : Int) ≤ (-1) + ((1) * y4.toInt + ((-1) * (k : Int) + (0))); omega), (by show (0 : Int) ≤ (3) + (0); omega), trivial⟩ ⟨k_aR (j_in_a1 hS _ I.2.2.2.2.1), ⟨_, rfl, hy1, Int.le_refl _, Int.le_refl _⟩, k_aI _, ⟨_, rfl, hy3, Int.le_refl _, Int.le_refl _⟩, k_aI _, k_aI _, trivial⟩ ⟨⟨40, rfl, c_gv_id40 (by show (0 : Int) ≤ (k : Int); omega) (by show (k : Int) ≤ 59; omega)⟩, k_fnC (b := 0) (j_fn hS (j_g0 k 0 0 0 0) hS.1 (j_in_a1 hS _ I.2.2.2.2.1)) rfl rfl, k_fnC (b := 7) (j_fn hS (j_g0 k 0 0 0 0) (hS.2.2.1 3 (by omega)).1 (j_in_rw hS _)) rfl (by show (0 : Int) + (1 * (3 : Int) + 0) = _; rfl), k_fnC (b := 7) (j_fn hS (j_g0 k 0 0 0 0) (hS.2.2.1 2 (by omega)).1 (j_in_rw hS _)) rfl (by show (0 : Int) + (1 * (2 : Int) + 0) = _; rfl), k_fnC (b := 9) (j_fn hS (j_g0 k 0 0 0 0) hf (j_in_row hS _ (t := 2) (by omega))) rfl (by show (0 : Int) + (1 * (k : Int) + 0) = _; omega), trivial⟩
  obtain ⟨rv2, res2, w2, hh, hr2, hp2, hP2, hD2, hT2⟩ := hj (j_c128_57, k_rv [(a1 : Int), (3 : Int), y2.toInt, (2 : Int), y4.toInt, y5.toInt, (k : Int), (rw : Int), (r 3 : Int), (r 2 : Int), v], j_tg w a1 rw r, j_g0 k 0 0 0 0) j_pm128_57 rfl rfl hpd.1 hpd.2 (j_TW (D := D) I.2.2.1 I.2.1 hS I.2.2.2.2.1 _)
  obtain ⟨x9, rfl, rfl, -, -⟩ := hr2
  have hx9 : x9 = r9 := by injection (Option.some.inj hh)
  subst hx9
  obtain ⟨he2, -, d, hd, rr, p1, p2, p3, p4, -⟩ := hp2
  have e1 : rr 1 = (a1 : Int) := p1 1 (by show 1 < c_entryN j_c128_57; decide)
  have e2 : rr 2 = (3 : Int) := p1 2 (by show 2 < c_entryN j_c128_57; decide)
  have e3 : rr 3 = y2.toInt := p1 3 (by show 3 < c_entryN j_c128_57; decide)
  have e4 : rr 4 = (2 : Int) := p1 4 (by show 4 < c_entryN j_c128_57; decide)
  have e5 : rr 5 = y4.toInt := p1 5 (by show 5 < c_entryN j_c128_57; decide)
  have e6 : rr 6 = y5.toInt := p1 6 (by show 6 < c_entryN j_c128_57; decide)
  have e7 : rr 7 = (k : Int) := p1 7 (by show 7 < c_entryN j_c128_57; decide)
  have e8 : rr 8 = (rw : Int) := p1 8 (by show 8 < c_entryN j_c128_57; decide)
  have e9 : rr 9 = (r 3 : Int) := p1 9 (by show 9 < c_entryN j_c128_57; decide)
  have e10 : rr 10 = (r 2 : Int) := p1 10 (by show 10 < c_entryN j_c128_57; decide)
  have e11 : rr 11 = v := p1 11 (by show 11 < c_entryN j_c128_57; decide)
  have er : rr 12 = x9.toInt := p2 0 _ rfl
  have hin2 := k_inK he2 (by show ((ct_pros j_c128_57).all fun t => Nat.ble 101 t) = true; decide +kernel) (by decide) (j_in_row hS (j_g0 k 0 0 0 0) (t := 2) (by omega))
  have hd : d ∈ ct_post j_c128_57 := hd
  simp only [ct_post, j_c128_57, List.mem_cons, List.not_mem_nil, or_false] at hd
  subst hd
  have hc : k_fn w2 (r 2) 92 k (rr 13) := k_fnD (b := 9) (p3 0 _ rfl) e10 (by show (0 : Int) + (1 * rr 7 + 0) = _; rw [e7]; omega) hin2
  simp only [List.forall_mem_cons, c_ev, c_evs, List.not_mem_nil, false_implies, implies_true, and_true, e11, er] at p4
  exact ⟨rr 13, j_back I1.1 hP2 I1.2.2.1 hT2 (hS1.2.2.1 2 (by omega)).2 rfl rfl hc, by omega⟩
theorem k_pourC7g32 {k : Nat} {v : Int} {y1 y2 y3 y4 y5 r9 : Int32} (I : k_In s D dA a1 a2 w H locs) (hS : k_S7 a1 a2 w rw nm r) (I1 : k_In s D dA a1 a2 w' H' locs') (hS1 : k_S7 a1 a2 w' rw nm r) (hj : j_Ex0 s D dA 128 w [.ref a1, .int y1, .int y2, .int y3, .int y4, .int y5] H' [.int r9]) (hy1 : y1.toInt = 3) (hy3 : y3.toInt = 2) (h4 : y4.toInt + y5.toInt ≤ (k : Int)) (hk : k < 60) (hf : k_fn w (r 2) 17 k v) : ∃ v', k_fn w' (r 2) 17 k v' ∧ v' = v := by
  have hpd := k_preD (ct := j_c128_58) (r := k_rv [(a1 : Int), (3 : Int), y2.toInt, (2 : Int), y4.toInt, y5.toInt, (k : Int), (rw : Int), (r 3 : Int), (r 2 : Int), v]) (vals := [.ref a1, .int y1, .int y2, .int y3, .int y4, .int y5]) (w := j_w w a1 rw r (j_g0 k 0 0 0 0)) (by decide +kernel) ⟨(by show (0 : Int) ≤ (0) + ((-1) * y4.toInt + ((-1) * y5.toInt + ((1) * (k : Int) + (0)))); omega), (by show (0 : Int) ≤ (3) + (0); omega), trivial⟩ ⟨k_aR (j_in_a1 hS _ I.2.2.2.2.1), ⟨_, rfl, hy1, Int.le_refl _, Int.le_refl _⟩, k_aI _, ⟨_, rfl, hy3, Int.le_refl _, Int.le_refl _⟩, k_aI _, k_aI _, trivial⟩ ⟨⟨40, rfl, c_gv_id40 (by show (0 : Int) ≤ (k : Int); omega) (by show (k : Int) ≤ 59; omega)⟩, k_fnC (b := 0) (j_fn hS (j_g0 k 0 0 0 0) hS.1 (j_in_a1 hS _ I.2.2.2.2.1)) rfl rfl, k_fnC (b := 7) (j_fn hS (j_g0 k 0 0 0 0) (hS.2.2.1 3 (by omega)).1 (j_in_rw hS _)) rfl (by show (0 : Int) + (1 * (3 : Int) + 0) = _; rfl), k_fnC (b := 7) (j_fn hS (j_g0 k 0 0 0 0) (hS.2.2.1 2 (by omega)).1 (j_in_rw hS _)) rfl (by show (0 : Int) + (1 * (2 : Int) + 0) = _; rfl), k_fnC (b := 9) (j_fn hS (j_g0 k 0 0 0 0) hf (j_in_row hS _ (t := 2) (by omega))) rfl (by show (0 : Int) + (1 * (k : Int) + 0) = _; omega), trivial⟩
  obtain ⟨rv2, res2, w2, hh, hr2, hp2, hP2, hD2, hT2⟩ := hj (j_c128_58, k_rv [(a1 : Int), (3 : Int), y2.toInt, (2 : Int), y4.toInt, y5.toInt, (k : Int), (rw : Int), (r 3 : Int), (r 2 : Int), v], j_tg w a1 rw r, j_g0 k 0 0 0 0) j_pm128_58 rfl rfl hpd.1 hpd.2 (j_TW (D := D) I.2.2.1 I.2.1 hS I.2.2.2.2.1 _)
  obtain ⟨x9, rfl, rfl, -, -⟩ := hr2
  have hx9 : x9 = r9 := by injection (Option.some.inj hh)
  subst hx9
  obtain ⟨he2, -, d, hd, rr, p1, p2, p3, p4, -⟩ := hp2
  have e1 : rr 1 = (a1 : Int) := p1 1 (by show 1 < c_entryN j_c128_58; decide)
  have e2 : rr 2 = (3 : Int) := p1 2 (by show 2 < c_entryN j_c128_58; decide)
  have e3 : rr 3 = y2.toInt := p1 3 (by show 3 < c_entryN j_c128_58; decide)
  have e4 : rr 4 = (2 : Int) := p1 4 (by show 4 < c_entryN j_c128_58; decide)
  have e5 : rr 5 = y4.toInt := p1 5 (by show 5 < c_entryN j_c128_58; decide)
  have e6 : rr 6 = y5.toInt := p1 6 (by show 6 < c_entryN j_c128_58; decide)
  have e7 : rr 7 = (k : Int) := p1 7 (by show 7 < c_entryN j_c128_58; decide)
  have e8 : rr 8 = (rw : Int) := p1 8 (by show 8 < c_entryN j_c128_58; decide)
  have e9 : rr 9 = (r 3 : Int) := p1 9 (by show 9 < c_entryN j_c128_58; decide)
  have e10 : rr 10 = (r 2 : Int) := p1 10 (by show 10 < c_entryN j_c128_58; decide)
  have e11 : rr 11 = v := p1 11 (by show 11 < c_entryN j_c128_58; decide)
  have er : rr 12 = x9.toInt := p2 0 _ rfl
  have hin2 := k_inK he2 (by show ((ct_pros j_c128_58).all fun t => Nat.ble 101 t) = true; decide +kernel) (by decide) (j_in_row hS (j_g0 k 0 0 0 0) (t := 2) (by omega))
  have hd : d ∈ ct_post j_c128_58 := hd
  simp only [ct_post, j_c128_58, List.mem_cons, List.not_mem_nil, or_false] at hd
  subst hd
  have hc : k_fn w2 (r 2) 92 k (rr 13) := k_fnD (b := 9) (p3 0 _ rfl) e10 (by show (0 : Int) + (1 * rr 7 + 0) = _; rw [e7]; omega) hin2
  simp only [List.forall_mem_cons, c_ev, c_evs, List.not_mem_nil, false_implies, implies_true, and_true, e11, er] at p4
  exact ⟨rr 13, j_back I1.1 hP2 I1.2.2.1 hT2 (hS1.2.2.1 2 (by omega)).2 rfl rfl hc, by omega⟩
theorem k_pourC7r32 {k : Nat} {v : Int} {y1 y2 y3 y4 y5 r9 : Int32} (I : k_In s D dA a1 a2 w H locs) (hS : k_S7 a1 a2 w rw nm r) (I1 : k_In s D dA a1 a2 w' H' locs') (hS1 : k_S7 a1 a2 w' rw nm r) (hj : j_Ex0 s D dA 128 w [.ref a1, .int y1, .int y2, .int y3, .int y4, .int y5] H' [.int r9]) (hy1 : y1.toInt = 3) (hy3 : y3.toInt = 2) (h0 : r9.toInt = 0) (hk : k < 60) (hf : k_fn w (r 2) 17 k v) : k_fn w' (r 2) 17 k v := by
  have hpd := k_preD (ct := j_c128_59) (r := k_rv [(a1 : Int), (3 : Int), y2.toInt, (2 : Int), y4.toInt, y5.toInt, (k : Int), (rw : Int), (r 3 : Int), (r 2 : Int), v]) (vals := [.ref a1, .int y1, .int y2, .int y3, .int y4, .int y5]) (w := j_w w a1 rw r (j_g0 k 0 0 0 0)) (by decide +kernel) ⟨(by show (0 : Int) ≤ (3) + (0); omega), trivial⟩ ⟨k_aR (j_in_a1 hS _ I.2.2.2.2.1), ⟨_, rfl, hy1, Int.le_refl _, Int.le_refl _⟩, k_aI _, ⟨_, rfl, hy3, Int.le_refl _, Int.le_refl _⟩, k_aI _, k_aI _, trivial⟩ ⟨⟨40, rfl, c_gv_id40 (by show (0 : Int) ≤ (k : Int); omega) (by show (k : Int) ≤ 59; omega)⟩, k_fnC (b := 0) (j_fn hS (j_g0 k 0 0 0 0) hS.1 (j_in_a1 hS _ I.2.2.2.2.1)) rfl rfl, k_fnC (b := 7) (j_fn hS (j_g0 k 0 0 0 0) (hS.2.2.1 3 (by omega)).1 (j_in_rw hS _)) rfl (by show (0 : Int) + (1 * (3 : Int) + 0) = _; rfl), k_fnC (b := 7) (j_fn hS (j_g0 k 0 0 0 0) (hS.2.2.1 2 (by omega)).1 (j_in_rw hS _)) rfl (by show (0 : Int) + (1 * (2 : Int) + 0) = _; rfl), k_fnC (b := 9) (j_fn hS (j_g0 k 0 0 0 0) hf (j_in_row hS _ (t := 2) (by omega))) rfl (by show (0 : Int) + (1 * (k : Int) + 0) = _; omega), trivial⟩
  obtain ⟨rv2, res2, w2, hh, hr2, hp2, hP2, hD2, hT2⟩ := hj (j_c128_59, k_rv [(a1 : Int), (3 : Int), y2.toInt, (2 : Int), y4.toInt, y5.toInt, (k : Int), (rw : Int), (r 3 : Int), (r 2 : Int), v], j_tg w a1 rw r, j_g0 k 0 0 0 0) j_pm128_59 rfl rfl hpd.1 hpd.2 (j_TW (D := D) I.2.2.1 I.2.1 hS I.2.2.2.2.1 _)
  obtain ⟨x9, rfl, rfl, -, -⟩ := hr2
  have hx9 : x9 = r9 := by injection (Option.some.inj hh)
  subst hx9
  obtain ⟨he2, -, d, hd, rr, p1, p2, p3, p4, -⟩ := hp2
  have e1 : rr 1 = (a1 : Int) := p1 1 (by show 1 < c_entryN j_c128_59; decide)
  have e2 : rr 2 = (3 : Int) := p1 2 (by show 2 < c_entryN j_c128_59; decide)
  have e3 : rr 3 = y2.toInt := p1 3 (by show 3 < c_entryN j_c128_59; decide)
  have e4 : rr 4 = (2 : Int) := p1 4 (by show 4 < c_entryN j_c128_59; decide)
  have e5 : rr 5 = y4.toInt := p1 5 (by show 5 < c_entryN j_c128_59; decide)
  have e6 : rr 6 = y5.toInt := p1 6 (by show 6 < c_entryN j_c128_59; decide)
  have e7 : rr 7 = (k : Int) := p1 7 (by show 7 < c_entryN j_c128_59; decide)
  have e8 : rr 8 = (rw : Int) := p1 8 (by show 8 < c_entryN j_c128_59; decide)
  have e9 : rr 9 = (r 3 : Int) := p1 9 (by show 9 < c_entryN j_c128_59; decide)
  have e10 : rr 10 = (r 2 : Int) := p1 10 (by show 10 < c_entryN j_c128_59; decide)
  have e11 : rr 11 = v := p1 11 (by show 11 < c_entryN j_c128_59; decide)
  have er : rr 12 = x9.toInt := p2 0 _ rfl
  have hin2 := k_inK he2 (by show ((ct_pros j_c128_59).all fun t => Nat.ble 101 t) = true; decide +kernel) (by decide) (j_in_row hS (j_g0 k 0 0 0 0) (t := 2) (by omega))
  have hd : d ∈ ct_post j_c128_59 := hd
  simp only [ct_post, j_c128_59, List.mem_cons, List.not_mem_nil, or_false] at hd
  rcases hd with rfl | rfl
  · have hc : k_fn w2 (r 2) 92 k (rr 13) := k_fnD (b := 9) (p3 0 _ rfl) e10 (by show (0 : Int) + (1 * rr 7 + 0) = _; rw [e7]; omega) hin2
    simp only [List.forall_mem_cons, c_ev, c_evs, List.not_mem_nil, false_implies, implies_true, and_true, e11, er] at p4
    have hv : rr 13 = v := by omega
    rw [hv] at hc
    exact j_back I1.1 hP2 I1.2.2.1 hT2 (hS1.2.2.1 2 (by omega)).2 rfl rfl hc
  · simp only [List.forall_mem_cons, c_ev, c_evs, List.not_mem_nil, false_implies, implies_true, and_true, er] at p4
    omega
theorem k_pourC7o32 {k t : Nat} {v v0 : Int} {y1 y2 y3 y4 y5 r9 : Int32} (I : k_In s D dA a1 a2 w H locs) (hS : k_S7 a1 a2 w rw nm r) (I1 : k_In s D dA a1 a2 w' H' locs') (hS1 : k_S7 a1 a2 w' rw nm r) (hj : j_Ex0 s D dA 128 w [.ref a1, .int y1, .int y2, .int y3, .int y4, .int y5] H' [.int r9]) (hy1 : y1.toInt = 3) (hy3 : y3.toInt = 2) (ht : t < 4) (hne : t ≠ 2) (hk : k < 60) (hf0 : k_fn w (r 2) 17 k v0) (hf : k_fn w (r t) 17 k v) : k_fn w' (r t) 17 k v := by
  have hpd := k_preD (ct := j_c128_59) (r := k_rv [(a1 : Int), (3 : Int), y2.toInt, (2 : Int), y4.toInt, y5.toInt, (k : Int), (rw : Int), (r 3 : Int), (r 2 : Int), v0]) (vals := [.ref a1, .int y1, .int y2, .int y3, .int y4, .int y5]) (w := j_w w a1 rw r (j_g0 k 0 0 0 0)) (by decide +kernel) ⟨(by show (0 : Int) ≤ (3) + (0); omega), trivial⟩ ⟨k_aR (j_in_a1 hS _ I.2.2.2.2.1), ⟨_, rfl, hy1, Int.le_refl _, Int.le_refl _⟩, k_aI _, ⟨_, rfl, hy3, Int.le_refl _, Int.le_refl _⟩, k_aI _, k_aI _, trivial⟩ ⟨⟨40, rfl, c_gv_id40 (by show (0 : Int) ≤ (k : Int); omega) (by show (k : Int) ≤ 59; omega)⟩, k_fnC (b := 0) (j_fn hS (j_g0 k 0 0 0 0) hS.1 (j_in_a1 hS _ I.2.2.2.2.1)) rfl rfl, k_fnC (b := 7) (j_fn hS (j_g0 k 0 0 0 0) (hS.2.2.1 3 (by omega)).1 (j_in_rw hS _)) rfl (by show (0 : Int) + (1 * (3 : Int) + 0) = _; rfl), k_fnC (b := 7) (j_fn hS (j_g0 k 0 0 0 0) (hS.2.2.1 2 (by omega)).1 (j_in_rw hS _)) rfl (by show (0 : Int) + (1 * (2 : Int) + 0) = _; rfl), k_fnC (b := 9) (j_fn hS (j_g0 k 0 0 0 0) hf0 (j_in_row hS _ (t := 2) (by omega))) rfl (by show (0 : Int) + (1 * (k : Int) + 0) = _; omega), trivial⟩
  obtain ⟨rv2, res2, w2, hh, hr2, hp2, hP2, hD2, hT2⟩ := hj (j_c128_59, k_rv [(a1 : Int), (3 : Int), y2.toInt, (2 : Int), y4.toInt, y5.toInt, (k : Int), (rw : Int), (r 3 : Int), (r 2 : Int), v0], j_tg w a1 rw r, j_g0 k 0 0 0 0) j_pm128_59 rfl rfl hpd.1 hpd.2 (j_TW (D := D) I.2.2.1 I.2.1 hS I.2.2.2.2.1 _)
  obtain ⟨he2, -⟩ := hp2
  exact j_rowK hS I1 hS1 he2 (by show ((ct_pros j_c128_59).all fun t => Nat.ble 101 t) = true; decide +kernel) hP2 hT2 ht (k_none_ok (by show k_none (ct_eff j_c128_59) (90 + t) = true; rcases (show t = 0 ∨ t = 1 ∨ t = 3 by omega) with rfl | rfl | rfl <;> decide +kernel) _ _) hf
theorem k_pourC7i33 {k k9 : Nat} {u v : Int} {y1 y2 y3 y4 y5 r9 : Int32} (I : k_In s D dA a1 a2 w H locs) (hS : k_S7 a1 a2 w rw nm r) (I1 : k_In s D dA a1 a2 w' H' locs') (hS1 : k_S7 a1 a2 w' rw nm r) (hj : j_Ex0 s D dA 128 w [.ref a1, .int y1, .int y2, .int y3, .int y4, .int y5] H' [.int r9]) (hy1 : y1.toInt = 3) (hy3 : y3.toInt = 3) (h4 : y4.toInt ≤ (k : Int)) (h5 : (k : Int) < y4.toInt + y5.toInt) (h9 : (k9 : Int) = y2.toInt - y4.toInt + (k : Int)) (hk9 : k9 < 60) (hk : k < 60) (hs9 : k_fn w (r 3) 17 k9 u) (hf : k_fn w (r 3) 17 k v) : ∃ v', k_fn w' (r 3) 17 k v' ∧ ((r9.toInt = 1 ∧ v' = u) ∨ (r9.toInt = 0 ∧ v' = v)) := by
  have hpd := k_preD (ct := j_c128_60) (r := k_rv [(a1 : Int), (3 : Int), y2.toInt, (3 : Int), y4.toInt, y5.toInt, (k : Int), (rw : Int), (r 3 : Int), (r 3 : Int), u, v]) (vals := [.ref a1, .int y1, .int y2, .int y3, .int y4, .int y5]) (w := j_w w a1 rw r (j_g0 k 0 0 0 0)) (by decide +kernel) ⟨(by show (0 : Int) ≤ (0) + ((-1) * y4.toInt + ((1) * (k : Int) + (0))); omega), (by show (0 : Int) ≤ (-1) + ((1) * y4.toInt + ((1) * y5.toInt + ((-1) * (k : Int) + (0)))); omega), (by show (0 : Int) ≤ (0) + ((1) * y2.toInt + ((-1) * y4.toInt + ((1) * (k : Int) + (0)))); omega), (by show (0 : Int) ≤ (59) + ((-1) * y2.toInt + ((1) * y4.toInt + ((-1) * (k : Int) + (0)))); omega), (by show (0 : Int) ≤ (3) + (0); omega), trivial⟩ ⟨k_aR (j_in_a1 hS _ I.2.2.2.2.1), ⟨_, rfl, hy1, Int.le_refl _, Int.le_refl _⟩, k_aI _, ⟨_, rfl, hy3, Int.le_refl _, Int.le_refl _⟩, k_aI _, k_aI _, trivial⟩ ⟨⟨40, rfl, c_gv_id40 (by show (0 : Int) ≤ (k : Int); omega) (by show (k : Int) ≤ 59; omega)⟩, k_fnC (b := 0) (j_fn hS (j_g0 k 0 0 0 0) hS.1 (j_in_a1 hS _ I.2.2.2.2.1)) rfl rfl, k_fnC (b := 7) (j_fn hS (j_g0 k 0 0 0 0) (hS.2.2.1 3 (by omega)).1 (j_in_rw hS _)) rfl (by show (0 : Int) + (1 * (3 : Int) + 0) = _; rfl), k_fnC (b := 7) (j_fn hS (j_g0 k 0 0 0 0) (hS.2.2.1 3 (by omega)).1 (j_in_rw hS _)) rfl (by show (0 : Int) + (1 * (3 : Int) + 0) = _; rfl), k_fnC (b := 8) (j_fn hS (j_g0 k 0 0 0 0) hs9 (j_in_row hS _ (t := 3) (by omega))) rfl (by show (0 : Int) + (1 * y2.toInt + ((-1) * y4.toInt + (1 * (k : Int) + 0))) = _; omega), k_fnC (b := 9) (j_fn hS (j_g0 k 0 0 0 0) hf (j_in_row hS _ (t := 3) (by omega))) rfl (by show (0 : Int) + (1 * (k : Int) + 0) = _; omega), trivial⟩
  obtain ⟨rv2, res2, w2, hh, hr2, hp2, hP2, hD2, hT2⟩ := hj (j_c128_60, k_rv [(a1 : Int), (3 : Int), y2.toInt, (3 : Int), y4.toInt, y5.toInt, (k : Int), (rw : Int), (r 3 : Int), (r 3 : Int), u, v], j_tg w a1 rw r, j_g0 k 0 0 0 0) j_pm128_60 rfl rfl hpd.1 hpd.2 (j_TW (D := D) I.2.2.1 I.2.1 hS I.2.2.2.2.1 _)
  obtain ⟨x9, rfl, rfl, -, -⟩ := hr2
  have hx9 : x9 = r9 := by injection (Option.some.inj hh)
  subst hx9
  obtain ⟨he2, -, d, hd, rr, p1, p2, p3, p4, -⟩ := hp2
  have e1 : rr 1 = (a1 : Int) := p1 1 (by show 1 < c_entryN j_c128_60; decide)
  have e2 : rr 2 = (3 : Int) := p1 2 (by show 2 < c_entryN j_c128_60; decide)
  have e3 : rr 3 = y2.toInt := p1 3 (by show 3 < c_entryN j_c128_60; decide)
  have e4 : rr 4 = (3 : Int) := p1 4 (by show 4 < c_entryN j_c128_60; decide)
  have e5 : rr 5 = y4.toInt := p1 5 (by show 5 < c_entryN j_c128_60; decide)
  have e6 : rr 6 = y5.toInt := p1 6 (by show 6 < c_entryN j_c128_60; decide)
  have e7 : rr 7 = (k : Int) := p1 7 (by show 7 < c_entryN j_c128_60; decide)
  have e8 : rr 8 = (rw : Int) := p1 8 (by show 8 < c_entryN j_c128_60; decide)
  have e9 : rr 9 = (r 3 : Int) := p1 9 (by show 9 < c_entryN j_c128_60; decide)
  have e10 : rr 10 = (r 3 : Int) := p1 10 (by show 10 < c_entryN j_c128_60; decide)
  have e11 : rr 11 = u := p1 11 (by show 11 < c_entryN j_c128_60; decide)
  have e12 : rr 12 = v := p1 12 (by show 12 < c_entryN j_c128_60; decide)
  have er : rr 13 = x9.toInt := p2 0 _ rfl
  have hin2 := k_inK he2 (by show ((ct_pros j_c128_60).all fun t => Nat.ble 101 t) = true; decide +kernel) (by decide) (j_in_row hS (j_g0 k 0 0 0 0) (t := 3) (by omega))
  have hd : d ∈ ct_post j_c128_60 := hd
  simp only [ct_post, j_c128_60, List.mem_cons, List.not_mem_nil, or_false] at hd
  rcases hd with rfl | rfl
  all_goals
    have hc : k_fn w2 (r 3) 93 k (rr 14) := k_fnD (b := 9) (p3 0 _ rfl) e10 (by show (0 : Int) + (1 * rr 7 + 0) = _; rw [e7]; omega) hin2
    simp only [List.forall_mem_cons, c_ev, c_evs, List.not_mem_nil, false_implies, implies_true, and_true, e11, e12, er] at p4
    exact ⟨rr 14, j_back I1.1 hP2 I1.2.2.1 hT2 (hS1.2.2.1 3 (by omega)).2 rfl rfl hc, by omega⟩
theorem k_pourC7l33 {k : Nat} {v : Int} {y1 y2 y3 y4 y5 r9 : Int32} (I : k_In s D dA a1 a2 w H locs) (hS : k_S7 a1 a2 w rw nm r) (I1 : k_In s D dA a1 a2 w' H' locs') (hS1 : k_S7 a1 a2 w' rw nm r) (hj : j_Ex0 s D dA 128 w [.ref a1, .int y1, .int y2, .int y3, .int y4, .int y5] H' [.int r9]) (hy1 : y1.toInt = 3) (hy3 : y3.toInt = 3) (h4 : (k : Int) < y4.toInt) (hk : k < 60) (hf : k_fn w (r 3) 17 k v) : ∃ v', k_fn w' (r 3) 17 k v' ∧ v' = v := by
  have hpd := k_preD (ct := j_c128_61) (r := k_rv [(a1 : Int), (3 : Int), y2.toInt, (3 : Int), y4.toInt, y5.toInt, (k : Int), (rw : Int), (r 3 : Int), (r 3 : Int), v]) (vals := [.ref a1, .int y1, .int y2, .int y3, .int y4, .int y5]) (w := j_w w a1 rw r (j_g0 k 0 0 0 0)) (by decide +kernel) ⟨(by show (0 : Int) ≤ (-1) + ((1) * y4.toInt + ((-1) * (k : Int) + (0))); omega), (by show (0 : Int) ≤ (3) + (0); omega), trivial⟩ ⟨k_aR (j_in_a1 hS _ I.2.2.2.2.1), ⟨_, rfl, hy1, Int.le_refl _, Int.le_refl _⟩, k_aI _, ⟨_, rfl, hy3, Int.le_refl _, Int.le_refl _⟩, k_aI _, k_aI _, trivial⟩ ⟨⟨40, rfl, c_gv_id40 (by show (0 : Int) ≤ (k : Int); omega) (by show (k : Int) ≤ 59; omega)⟩, k_fnC (b := 0) (j_fn hS (j_g0 k 0 0 0 0) hS.1 (j_in_a1 hS _ I.2.2.2.2.1)) rfl rfl, k_fnC (b := 7) (j_fn hS (j_g0 k 0 0 0 0) (hS.2.2.1 3 (by omega)).1 (j_in_rw hS _)) rfl (by show (0 : Int) + (1 * (3 : Int) + 0) = _; rfl), k_fnC (b := 7) (j_fn hS (j_g0 k 0 0 0 0) (hS.2.2.1 3 (by omega)).1 (j_in_rw hS _)) rfl (by show (0 : Int) + (1 * (3 : Int) + 0) = _; rfl), k_fnC (b := 9) (j_fn hS (j_g0 k 0 0 0 0) hf (j_in_row hS _ (t := 3) (by omega))) rfl (by show (0 : Int) + (1 * (k : Int) + 0) = _; omega), trivial⟩
  obtain ⟨rv2, res2, w2, hh, hr2, hp2, hP2, hD2, hT2⟩ := hj (j_c128_61, k_rv [(a1 : Int), (3 : Int), y2.toInt, (3 : Int), y4.toInt, y5.toInt, (k : Int), (rw : Int), (r 3 : Int), (r 3 : Int), v], j_tg w a1 rw r, j_g0 k 0 0 0 0) j_pm128_61 rfl rfl hpd.1 hpd.2 (j_TW (D := D) I.2.2.1 I.2.1 hS I.2.2.2.2.1 _)
  obtain ⟨x9, rfl, rfl, -, -⟩ := hr2
  have hx9 : x9 = r9 := by injection (Option.some.inj hh)
  subst hx9
  obtain ⟨he2, -, d, hd, rr, p1, p2, p3, p4, -⟩ := hp2
  have e1 : rr 1 = (a1 : Int) := p1 1 (by show 1 < c_entryN j_c128_61; decide)
  have e2 : rr 2 = (3 : Int) := p1 2 (by show 2 < c_entryN j_c128_61; decide)
  have e3 : rr 3 = y2.toInt := p1 3 (by show 3 < c_entryN j_c128_61; decide)
  have e4 : rr 4 = (3 : Int) := p1 4 (by show 4 < c_entryN j_c128_61; decide)
  have e5 : rr 5 = y4.toInt := p1 5 (by show 5 < c_entryN j_c128_61; decide)
  have e6 : rr 6 = y5.toInt := p1 6 (by show 6 < c_entryN j_c128_61; decide)
  have e7 : rr 7 = (k : Int) := p1 7 (by show 7 < c_entryN j_c128_61; decide)
  have e8 : rr 8 = (rw : Int) := p1 8 (by show 8 < c_entryN j_c128_61; decide)
  have e9 : rr 9 = (r 3 : Int) := p1 9 (by show 9 < c_entryN j_c128_61; decide)
  have e10 : rr 10 = (r 3 : Int) := p1 10 (by show 10 < c_entryN j_c128_61; decide)
  have e11 : rr 11 = v := p1 11 (by show 11 < c_entryN j_c128_61; decide)
  have er : rr 12 = x9.toInt := p2 0 _ rfl
  have hin2 := k_inK he2 (by show ((ct_pros j_c128_61).all fun t => Nat.ble 101 t) = true; decide +kernel) (by decide) (j_in_row hS (j_g0 k 0 0 0 0) (t := 3) (by omega))
  have hd : d ∈ ct_post j_c128_61 := hd
  simp only [ct_post, j_c128_61, List.mem_cons, List.not_mem_nil, or_false] at hd
  subst hd
  have hc : k_fn w2 (r 3) 93 k (rr 13) := k_fnD (b := 9) (p3 0 _ rfl) e10 (by show (0 : Int) + (1 * rr 7 + 0) = _; rw [e7]; omega) hin2
  simp only [List.forall_mem_cons, c_ev, c_evs, List.not_mem_nil, false_implies, implies_true, and_true, e11, er] at p4
  exact ⟨rr 13, j_back I1.1 hP2 I1.2.2.1 hT2 (hS1.2.2.1 3 (by omega)).2 rfl rfl hc, by omega⟩
theorem k_pourC7g33 {k : Nat} {v : Int} {y1 y2 y3 y4 y5 r9 : Int32} (I : k_In s D dA a1 a2 w H locs) (hS : k_S7 a1 a2 w rw nm r) (I1 : k_In s D dA a1 a2 w' H' locs') (hS1 : k_S7 a1 a2 w' rw nm r) (hj : j_Ex0 s D dA 128 w [.ref a1, .int y1, .int y2, .int y3, .int y4, .int y5] H' [.int r9]) (hy1 : y1.toInt = 3) (hy3 : y3.toInt = 3) (h4 : y4.toInt + y5.toInt ≤ (k : Int)) (hk : k < 60) (hf : k_fn w (r 3) 17 k v) : ∃ v', k_fn w' (r 3) 17 k v' ∧ v' = v := by
  have hpd := k_preD (ct := j_c128_62) (r := k_rv [(a1 : Int), (3 : Int), y2.toInt, (3 : Int), y4.toInt, y5.toInt, (k : Int), (rw : Int), (r 3 : Int), (r 3 : Int), v]) (vals := [.ref a1, .int y1, .int y2, .int y3, .int y4, .int y5]) (w := j_w w a1 rw r (j_g0 k 0 0 0 0)) (by decide +kernel) ⟨(by show (0 : Int) ≤ (0) + ((-1) * y4.toInt + ((-1) * y5.toInt + ((1) * (k : Int) + (0)))); omega), (by show (0 : Int) ≤ (3) + (0); omega), trivial⟩ ⟨k_aR (j_in_a1 hS _ I.2.2.2.2.1), ⟨_, rfl, hy1, Int.le_refl _, Int.le_refl _⟩, k_aI _, ⟨_, rfl, hy3, Int.le_refl _, Int.le_refl _⟩, k_aI _, k_aI _, trivial⟩ ⟨⟨40, rfl, c_gv_id40 (by show (0 : Int) ≤ (k : Int); omega) (by show (k : Int) ≤ 59; omega)⟩, k_fnC (b := 0) (j_fn hS (j_g0 k 0 0 0 0) hS.1 (j_in_a1 hS _ I.2.2.2.2.1)) rfl rfl, k_fnC (b := 7) (j_fn hS (j_g0 k 0 0 0 0) (hS.2.2.1 3 (by omega)).1 (j_in_rw hS _)) rfl (by show (0 : Int) + (1 * (3 : Int) + 0) = _; rfl), k_fnC (b := 7) (j_fn hS (j_g0 k 0 0 0 0) (hS.2.2.1 3 (by omega)).1 (j_in_rw hS _)) rfl (by show (0 : Int) + (1 * (3 : Int) + 0) = _; rfl), k_fnC (b := 9) (j_fn hS (j_g0 k 0 0 0 0) hf (j_in_row hS _ (t := 3) (by omega))) rfl (by show (0 : Int) + (1 * (k : Int) + 0) = _; omega), trivial⟩
  obtain ⟨rv2, res2, w2, hh, hr2, hp2, hP2, hD2, hT2⟩ := hj (j_c128_62, k_rv [(a1 : Int), (3 : Int), y2.toInt, (3 : Int), y4.toInt, y5.toInt, (k : Int), (rw : Int), (r 3 : Int), (r 3 : Int), v], j_tg w a1 rw r, j_g0 k 0 0 0 0) j_pm128_62 rfl rfl hpd.1 hpd.2 (j_TW (D := D) I.2.2.1 I.2.1 hS I.2.2.2.2.1 _)
  obtain ⟨x9, rfl, rfl, -, -⟩ := hr2
  have hx9 : x9 = r9 := by injection (Option.some.inj hh)
  subst hx9
  obtain ⟨he2, -, d, hd, rr, p1, p2, p3, p4, -⟩ := hp2
  have e1 : rr 1 = (a1 : Int) := p1 1 (by show 1 < c_entryN j_c128_62; decide)
  have e2 : rr 2 = (3 : Int) := p1 2 (by show 2 < c_entryN j_c128_62; decide)
  have e3 : rr 3 = y2.toInt := p1 3 (by show 3 < c_entryN j_c128_62; decide)
  have e4 : rr 4 = (3 : Int) := p1 4 (by show 4 < c_entryN j_c128_62; decide)
  have e5 : rr 5 = y4.toInt := p1 5 (by show 5 < c_entryN j_c128_62; decide)
  have e6 : rr 6 = y5.toInt := p1 6 (by show 6 < c_entryN j_c128_62; decide)
  have e7 : rr 7 = (k : Int) := p1 7 (by show 7 < c_entryN j_c128_62; decide)
  have e8 : rr 8 = (rw : Int) := p1 8 (by show 8 < c_entryN j_c128_62; decide)
  have e9 : rr 9 = (r 3 : Int) := p1 9 (by show 9 < c_entryN j_c128_62; decide)
  have e10 : rr 10 = (r 3 : Int) := p1 10 (by show 10 < c_entryN j_c128_62; decide)
  have e11 : rr 11 = v := p1 11 (by show 11 < c_entryN j_c128_62; decide)
  have er : rr 12 = x9.toInt := p2 0 _ rfl
  have hin2 := k_inK he2 (by show ((ct_pros j_c128_62).all fun t => Nat.ble 101 t) = true; decide +kernel) (by decide) (j_in_row hS (j_g0 k 0 0 0 0) (t := 3) (by omega))
  have hd : d ∈ ct_post j_c128_62 := hd
  simp only [ct_post, j_c128_62, List.mem_cons, List.not_mem_nil, or_false] at hd
  subst hd
  have hc : k_fn w2 (r 3) 93 k (rr 13) := k_fnD (b := 9) (p3 0 _ rfl) e10 (by show (0 : Int) + (1 * rr 7 + 0) = _; rw [e7]; omega) hin2
  simp only [List.forall_mem_cons, c_ev, c_evs, List.not_mem_nil, false_implies, implies_true, and_true, e11, er] at p4
  exact ⟨rr 13, j_back I1.1 hP2 I1.2.2.1 hT2 (hS1.2.2.1 3 (by omega)).2 rfl rfl hc, by omega⟩
theorem k_pourC7r33 {k : Nat} {v : Int} {y1 y2 y3 y4 y5 r9 : Int32} (I : k_In s D dA a1 a2 w H locs) (hS : k_S7 a1 a2 w rw nm r) (I1 : k_In s D dA a1 a2 w' H' locs') (hS1 : k_S7 a1 a2 w' rw nm r) (hj : j_Ex0 s D dA 128 w [.ref a1, .int y1, .int y2, .int y3, .int y4, .int y5] H' [.int r9]) (hy1 : y1.toInt = 3) (hy3 : y3.toInt = 3) (h0 : r9.toInt = 0) (hk : k < 60) (hf : k_fn w (r 3) 17 k v) : k_fn w' (r 3) 17 k v := by
  have hpd := k_preD (ct := j_c128_63) (r := k_rv [(a1 : Int), (3 : Int), y2.toInt, (3 : Int), y4.toInt, y5.toInt, (k : Int), (rw : Int), (r 3 : Int), (r 3 : Int), v]) (vals := [.ref a1, .int y1, .int y2, .int y3, .int y4, .int y5]) (w := j_w w a1 rw r (j_g0 k 0 0 0 0)) (by decide +kernel) ⟨(by show (0 : Int) ≤ (3) + (0); omega), trivial⟩ ⟨k_aR (j_in_a1 hS _ I.2.2.2.2.1), ⟨_, rfl, hy1, Int.le_refl _, Int.le_refl _⟩, k_aI _, ⟨_, rfl, hy3, Int.le_refl _, Int.le_refl _⟩, k_aI _, k_aI _, trivial⟩ ⟨⟨40, rfl, c_gv_id40 (by show (0 : Int) ≤ (k : Int); omega) (by show (k : Int) ≤ 59; omega)⟩, k_fnC (b := 0) (j_fn hS (j_g0 k 0 0 0 0) hS.1 (j_in_a1 hS _ I.2.2.2.2.1)) rfl rfl, k_fnC (b := 7) (j_fn hS (j_g0 k 0 0 0 0) (hS.2.2.1 3 (by omega)).1 (j_in_rw hS _)) rfl (by show (0 : Int) + (1 * (3 : Int) + 0) = _; rfl), k_fnC (b := 7) (j_fn hS (j_g0 k 0 0 0 0) (hS.2.2.1 3 (by omega)).1 (j_in_rw hS _)) rfl (by show (0 : Int) + (1 * (3 : Int) + 0) = _; rfl), k_fnC (b := 9) (j_fn hS (j_g0 k 0 0 0 0) hf (j_in_row hS _ (t := 3) (by omega))) rfl (by show (0 : Int) + (1 * (k : Int) + 0) = _; omega), trivial⟩
  obtain ⟨rv2, res2, w2, hh, hr2, hp2, hP2, hD2, hT2⟩ := hj (j_c128_63, k_rv [(a1 : Int), (3 : Int), y2.toInt, (3 : Int), y4.toInt, y5.toInt, (k : Int), (rw : Int), (r 3 : Int), (r 3 : Int), v], j_tg w a1 rw r, j_g0 k 0 0 0 0) j_pm128_63 rfl rfl hpd.1 hpd.2 (j_TW (D := D) I.2.2.1 I.2.1 hS I.2.2.2.2.1 _)
  obtain ⟨x9, rfl, rfl, -, -⟩ := hr2
  have hx9 : x9 = r9 := by injection (Option.some.inj hh)
  subst hx9
  obtain ⟨he2, -, d, hd, rr, p1, p2, p3, p4, -⟩ := hp2
  have e1 : rr 1 = (a1 : Int) := p1 1 (by show 1 < c_entryN j_c128_63; decide)
  have e2 : rr 2 = (3 : Int) := p1 2 (by show 2 < c_entryN j_c128_63; decide)
  have e3 : rr 3 = y2.toInt := p1 3 (by show 3 < c_entryN j_c128_63; decide)
  have e4 : rr 4 = (3 : Int) := p1 4 (by show 4 < c_entryN j_c128_63; decide)
  have e5 : rr 5 = y4.toInt := p1 5 (by show 5 < c_entryN j_c128_63; decide)
  have e6 : rr 6 = y5.toInt := p1 6 (by show 6 < c_entryN j_c128_63; decide)
  have e7 : rr 7 = (k : Int) := p1 7 (by show 7 < c_entryN j_c128_63; decide)
  have e8 : rr 8 = (rw : Int) := p1 8 (by show 8 < c_entryN j_c128_63; decide)
  have e9 : rr 9 = (r 3 : Int) := p1 9 (by show 9 < c_entryN j_c128_63; decide)
  have e10 : rr 10 = (r 3 : Int) := p1 10 (by show 10 < c_entryN j_c128_63; decide)
  have e11 : rr 11 = v := p1 11 (by show 11 < c_entryN j_c128_63; decide)
  have er : rr 12 = x9.toInt := p2 0 _ rfl
  have hin2 := k_inK he2 (by show ((ct_pros j_c128_63).all fun t => Nat.ble 101 t) = true; decide +kernel) (by decide) (j_in_row hS (j_g0 k 0 0 0 0) (t := 3) (by omega))
  have hd : d ∈ ct_post j_c128_63 := hd
  simp only [ct_post, j_c128_63, List.mem_cons, List.not_mem_nil, or_false] at hd
  rcases hd with rfl | rfl
  · have hc : k_fn w2 (r 3) 93 k (rr 13) := k_fnD (b := 9) (p3 0 _ rfl) e10 (by show (0 : Int) + (1 * rr 7 + 0) = _; rw [e7]; omega) hin2
    simp only [List.forall_mem_cons, c_ev, c_evs, List.not_mem_nil, false_implies, implies_true, and_true, e11, er] at p4
    have hv : rr 13 = v := by omega
    rw [hv] at hc
    exact j_back I1.1 hP2 I1.2.2.1 hT2 (hS1.2.2.1 3 (by omega)).2 rfl rfl hc
  · simp only [List.forall_mem_cons, c_ev, c_evs, List.not_mem_nil, false_implies, implies_true, and_true, er] at p4
    omega
theorem k_pourC7o33 {k t : Nat} {v v0 : Int} {y1 y2 y3 y4 y5 r9 : Int32} (I : k_In s D dA a1 a2 w H locs) (hS : k_S7 a1 a2 w rw nm r) (I1 : k_In s D dA a1 a2 w' H' locs') (hS1 : k_S7 a1 a2 w' rw nm r) (hj : j_Ex0 s D dA 128 w [.ref a1, .int y1, .int y2, .int y3, .int y4, .int y5] H' [.int r9]) (hy1 : y1.toInt = 3) (hy3 : y3.toInt = 3) (ht : t < 4) (hne : t ≠ 3) (hk : k < 60) (hf0 : k_fn w (r 3) 17 k v0) (hf : k_fn w (r t) 17 k v) : k_fn w' (r t) 17 k v := by
  have hpd := k_preD (ct := j_c128_63) (r := k_rv [(a1 : Int), (3 : Int), y2.toInt, (3 : Int), y4.toInt, y5.toInt, (k : Int), (rw : Int), (r 3 : Int), (r 3 : Int), v0]) (vals := [.ref a1, .int y1, .int y2, .int y3, .int y4, .int y5]) (w := j_w w a1 rw r (j_g0 k 0 0 0 0)) (by decide +kernel) ⟨(by show (0 : Int) ≤ (3) + (0); omega), trivial⟩ ⟨k_aR (j_in_a1 hS _ I.2.2.2.2.1), ⟨_, rfl, hy1, Int.le_refl _, Int.le_refl _⟩, k_aI _, ⟨_, rfl, hy3, Int.le_refl _, Int.le_refl _⟩, k_aI _, k_aI _, trivial⟩ ⟨⟨40, rfl, c_gv_id40 (by show (0 : Int) ≤ (k : Int); omega) (by show (k : Int) ≤ 59; omega)⟩, k_fnC (b := 0) (j_fn hS (j_g0 k 0 0 0 0) hS.1 (j_in_a1 hS _ I.2.2.2.2.1)) rfl rfl, k_fnC (b := 7) (j_fn hS (j_g0 k 0 0 0 0) (hS.2.2.1 3 (by omega)).1 (j_in_rw hS _)) rfl (by show (0 : Int) + (1 * (3 : Int) + 0) = _; rfl), k_fnC (b := 7) (j_fn hS (j_g0 k 0 0 0 0) (hS.2.2.1 3 (by omega)).1 (j_in_rw hS _)) rfl (by show (0 : Int) + (1 * (3 : Int) + 0) = _; rfl), k_fnC (b := 9) (j_fn hS (j_g0 k 0 0 0 0) hf0 (j_in_row hS _ (t := 3) (by omega))) rfl (by show (0 : Int) + (1 * (k : Int) + 0) = _; omega), trivial⟩
  obtain ⟨rv2, res2, w2, hh, hr2, hp2, hP2, hD2, hT2⟩ := hj (j_c128_63, k_rv [(a1 : Int), (3 : Int), y2.toInt, (3 : Int), y4.toInt, y5.toInt, (k : Int), (rw : Int), (r 3 : Int), (r 3 : Int), v0], j_tg w a1 rw r, j_g0 k 0 0 0 0) j_pm128_63 rfl rfl hpd.1 hpd.2 (j_TW (D := D) I.2.2.1 I.2.1 hS I.2.2.2.2.1 _)
  obtain ⟨he2, -⟩ := hp2
  exact j_rowK hS I1 hS1 he2 (by show ((ct_pros j_c128_63).all fun t => Nat.ble 101 t) = true; decide +kernel) hP2 hT2 ht (k_none_ok (by show k_none (ct_eff j_c128_63) (90 + t) = true; rcases (show t = 0 ∨ t = 1 ∨ t = 2 by omega) with rfl | rfl | rfl <;> decide +kernel) _ _) hf
theorem k_pourM7is {k k9 t t9 : Nat} {u v : Int} {y1 y2 y3 y4 y5 r9 : Int32} (I : k_In s D dA a1 a2 w H locs) (hS : k_S7 a1 a2 w rw nm r) (I1 : k_In s D dA a1 a2 w' H' locs') (hS1 : k_S7 a1 a2 w' rw nm r) (hj : j_Ex0 s D dA 215 w [.ref a2, .int y1, .int y2, .int y3, .int y4, .int y5] H' [.int r9]) (h0 : 0 ≤ y1.toInt) (h3 : y1.toInt ≤ 3) (g0 : 0 ≤ y3.toInt) (g3 : y3.toInt ≤ 3) (hq : y1.toInt = y3.toInt) (hy1 : y1.toInt = (t9 : Int)) (hy3 : y3.toInt = (t : Int)) (h4 : y4.toInt ≤ (k : Int)) (h5 : (k : Int) < y4.toInt + y5.toInt) (h9 : (k9 : Int) = y2.toInt - y4.toInt + (k : Int)) (hk9 : k9 < 60) (hk : k < 60) (hs9 : k_fn w nm 61 (60 * t9 + k9) u) (hf : k_fn w nm 61 (60 * t + k) v) : ∃ v', k_fn w' nm 61 (60 * t + k) v' ∧ ((r9.toInt = 1 ∧ v' = u) ∨ (r9.toInt = 0 ∧ v' = v)) := by
  have hpd := k_preD (ct := j_c215_0) (r := k_rv [(a2 : Int), y1.toInt, y2.toInt, y3.toInt, y4.toInt, y5.toInt, (k : Int), (nm : Int), u, v]) (vals := [.ref a2, .int y1, .int y2, .int y3, .int y4, .int y5]) (w := j_w w a1 rw r (j_g0 k 0 0 0 0)) (by decide +kernel) ⟨(by show (0 : Int) ≤ (0) + ((-1) * y4.toInt + ((1) * (k : Int) + (0))); omega), (by show (0 : Int) ≤ (-1) + ((1) * y4.toInt + ((1) * y5.toInt + ((-1) * (k : Int) + (0)))); omega), (by show (0 : Int) ≤ (0) + ((1) * y2.toInt + ((-1) * y4.toInt + ((1) * (k : Int) + (0)))); omega), (by show (0 : Int) ≤ (59) + ((-1) * y2.toInt + ((1) * y4.toInt + ((-1) * (k : Int) + (0)))); omega), (by show (0 : Int) ≤ (0) + ((1) * y1.toInt + ((-1) * y3.toInt + (0))); omega), (by show (0 : Int) ≤ (0) + ((-1) * y1.toInt + ((1) * y3.toInt + (0))); omega), (by show (0 : Int) ≤ (3) + (0); omega), trivial⟩ ⟨k_aR (j_in_keep hS _ (by decide) (by decide) (by decide) (by decide) I.2.2.2.2.2.1), ⟨_, rfl, rfl, (by show (0 : Int) ≤ y1.toInt; omega), (by show y1.toInt ≤ (3 : Int); omega)⟩, k_aI _, ⟨_, rfl, rfl, (by show (0 : Int) ≤ y3.toInt; omega), (by show y3.toInt ≤ (3 : Int); omega)⟩, k_aI _, k_aI _, trivial⟩ ⟨⟨40, rfl, c_gv_id40 (by show (0 : Int) ≤ (k : Int); omega) (by show (k : Int) ≤ 59; omega)⟩, k_fnC (b := 0) (j_fn hS (j_g0 k 0 0 0 0) hS.2.2.2.2.1 (j_in_keep hS _ (by decide) (by decide) (by decide) (by decide) I.2.2.2.2.2.1)) rfl rfl, k_fnC (b := 7) (j_fn hS (j_g0 k 0 0 0 0) hs9 (j_in_keep hS _ (by decide) (by decide) (by decide) (by decide) hS.2.2.2.2.2)) rfl (by show (0 : Int) + (60 * y1.toInt + (1 * y2.toInt + ((-1) * y4.toInt + (1 * (k : Int) + 0)))) = _; omega), k_fnC (b := 7) (j_fn hS (j_g0 k 0 0 0 0) hf (j_in_keep hS _ (by decide) (by decide) (by decide) (by decide) hS.2.2.2.2.2)) rfl (by show (0 : Int) + (60 * y3.toInt + (1 * (k : Int) + 0)) = _; omega), trivial⟩
  obtain ⟨rv2, res2, w2, hh, hr2, hp2, hP2, hD2, hT2⟩ := hj (j_c215_0, k_rv [(a2 : Int), y1.toInt, y2.toInt, y3.toInt, y4.toInt, y5.toInt, (k : Int), (nm : Int), u, v], j_tg w a1 rw r, j_g0 k 0 0 0 0) j_pm215_0 rfl rfl hpd.1 hpd.2 (j_TW (D := D) I.2.2.1 I.2.1 hS I.2.2.2.2.1 _)
  obtain ⟨x9, rfl, rfl, -, -⟩ := hr2
  have hx9 : x9 = r9 := by injection (Option.some.inj hh)
  subst hx9
  obtain ⟨he2, -, d, hd, rr, p1, p2, p3, p4, -⟩ := hp2
  have e1 : rr 1 = (a2 : Int) := p1 1 (by show 1 < c_entryN j_c215_0; decide)
  have e2 : rr 2 = y1.toInt := p1 2 (by show 2 < c_entryN j_c215_0; decide)
  have e3 : rr 3 = y2.toInt := p1 3 (by show 3 < c_entryN j_c215_0; decide)
  have e4 : rr 4 = y3.toInt := p1 4 (by show 4 < c_entryN j_c215_0; decide)
  have e5 : rr 5 = y4.toInt := p1 5 (by show 5 < c_entryN j_c215_0; decide)
  have e6 : rr 6 = y5.toInt := p1 6 (by show 6 < c_entryN j_c215_0; decide)
  have e7 : rr 7 = (k : Int) := p1 7 (by show 7 < c_entryN j_c215_0; decide)
  have e8 : rr 8 = (nm : Int) := p1 8 (by show 8 < c_entryN j_c215_0; decide)
  have e9 : rr 9 = u := p1 9 (by show 9 < c_entryN j_c215_0; decide)
  have e10 : rr 10 = v := p1 10 (by show 10 < c_entryN j_c215_0; decide)
  have er : rr 11 = x9.toInt := p2 0 _ rfl
  have hin2 := k_inK he2 (by show ((ct_pros j_c215_0).all fun t => Nat.ble 101 t) = true; decide +kernel) (by decide) (j_in_keep hS (j_g0 k 0 0 0 0) (by decide) (by decide) (by decide) (by decide) hS.2.2.2.2.2)
  have hd : d ∈ ct_post j_c215_0 := hd
  simp only [ct_post, j_c215_0, List.mem_cons, List.not_mem_nil, or_false] at hd
  rcases hd with rfl | rfl
  all_goals
    have hc : k_fn w2 nm 61 (60 * t + k) (rr 12) := k_fnD (b := 7) (p3 0 _ rfl) e8 (by show (0 : Int) + (60 * rr 4 + (1 * rr 7 + 0)) = _; rw [e4, e7]; omega) hin2
    simp only [List.forall_mem_cons, c_ev, c_evs, List.not_mem_nil, false_implies, implies_true, and_true, e9, e10, er] at p4
    exact ⟨rr 12, j_back I1.1 hP2 I1.2.2.1 hT2 hS1.2.2.2.2.2 (by decide +kernel) (by decide +kernel) hc, by omega⟩
theorem k_pourM7il {k k9 t t9 : Nat} {u v : Int} {y1 y2 y3 y4 y5 r9 : Int32} (I : k_In s D dA a1 a2 w H locs) (hS : k_S7 a1 a2 w rw nm r) (I1 : k_In s D dA a1 a2 w' H' locs') (hS1 : k_S7 a1 a2 w' rw nm r) (hj : j_Ex0 s D dA 215 w [.ref a2, .int y1, .int y2, .int y3, .int y4, .int y5] H' [.int r9]) (h0 : 0 ≤ y1.toInt) (h3 : y1.toInt ≤ 3) (g0 : 0 ≤ y3.toInt) (g3 : y3.toInt ≤ 3) (hq : y1.toInt < y3.toInt) (hy1 : y1.toInt = (t9 : Int)) (hy3 : y3.toInt = (t : Int)) (h4 : y4.toInt ≤ (k : Int)) (h5 : (k : Int) < y4.toInt + y5.toInt) (h9 : (k9 : Int) = y2.toInt - y4.toInt + (k : Int)) (hk9 : k9 < 60) (hk : k < 60) (hs9 : k_fn w nm 61 (60 * t9 + k9) u) (hf : k_fn w nm 61 (60 * t + k) v) : ∃ v', k_fn w' nm 61 (60 * t + k) v' ∧ ((r9.toInt = 1 ∧ v' = u) ∨ (r9.toInt = 0 ∧ v' = v)) := by
  have hpd := k_preD (ct := j_c215_1) (r := k_rv [(a2 : Int), y1.toInt, y2.toInt, y3.toInt, y4.toInt, y5.toInt, (k : Int), (nm : Int), u, v]) (vals := [.ref a2, .int y1, .int y2, .int y3, .int y4, .int y5]) (w := j_w w a1 rw r (j_g0 k 0 0 0 0)) (by decide +kernel) ⟨(by show (0 : Int) ≤ (0) + ((-1) * y4.toInt + ((1) * (k : Int) + (0))); omega), (by show (0 : Int) ≤ (-1) + ((1) * y4.toInt + ((1) * y5.toInt + ((-1) * (k : Int) + (0)))); omega), (by show (0 : Int) ≤ (0) + ((1) * y2.toInt + ((-1) * y4.toInt + ((1) * (k : Int) + (0)))); omega), (by show (0 : Int) ≤ (59) + ((-1) * y2.toInt + ((1) * y4.toInt + ((-1) * (k : Int) + (0)))); omega), (by show (0 : Int) ≤ (-1) + ((-1) * y1.toInt + ((1) * y3.toInt + (0))); omega), (by show (0 : Int) ≤ (3) + (0); omega), trivial⟩ ⟨k_aR (j_in_keep hS _ (by decide) (by decide) (by decide) (by decide) I.2.2.2.2.2.1), ⟨_, rfl, rfl, (by show (0 : Int) ≤ y1.toInt; omega), (by show y1.toInt ≤ (3 : Int); omega)⟩, k_aI _, ⟨_, rfl, rfl, (by show (0 : Int) ≤ y3.toInt; omega), (by show y3.toInt ≤ (3 : Int); omega)⟩, k_aI _, k_aI _, trivial⟩ ⟨⟨40, rfl, c_gv_id40 (by show (0 : Int) ≤ (k : Int); omega) (by show (k : Int) ≤ 59; omega)⟩, k_fnC (b := 0) (j_fn hS (j_g0 k 0 0 0 0) hS.2.2.2.2.1 (j_in_keep hS _ (by decide) (by decide) (by decide) (by decide) I.2.2.2.2.2.1)) rfl rfl, k_fnC (b := 7) (j_fn hS (j_g0 k 0 0 0 0) hs9 (j_in_keep hS _ (by decide) (by decide) (by decide) (by decide) hS.2.2.2.2.2)) rfl (by show (0 : Int) + (60 * y1.toInt + (1 * y2.toInt + ((-1) * y4.toInt + (1 * (k : Int) + 0)))) = _; omega), k_fnC (b := 7) (j_fn hS (j_g0 k 0 0 0 0) hf (j_in_keep hS _ (by decide) (by decide) (by decide) (by decide) hS.2.2.2.2.2)) rfl (by show (0 : Int) + (60 * y3.toInt + (1 * (k : Int) + 0)) = _; omega), trivial⟩
  obtain ⟨rv2, res2, w2, hh, hr2, hp2, hP2, hD2, hT2⟩ := hj (j_c215_1, k_rv [(a2 : Int), y1.toInt, y2.toInt, y3.toInt, y4.toInt, y5.toInt, (k : Int), (nm : Int), u, v], j_tg w a1 rw r, j_g0 k 0 0 0 0) j_pm215_1 rfl rfl hpd.1 hpd.2 (j_TW (D := D) I.2.2.1 I.2.1 hS I.2.2.2.2.1 _)
  obtain ⟨x9, rfl, rfl, -, -⟩ := hr2
  have hx9 : x9 = r9 := by injection (Option.some.inj hh)
  subst hx9
  obtain ⟨he2, -, d, hd, rr, p1, p2, p3, p4, -⟩ := hp2
  have e1 : rr 1 = (a2 : Int) := p1 1 (by show 1 < c_entryN j_c215_1; decide)
  have e2 : rr 2 = y1.toInt := p1 2 (by show 2 < c_entryN j_c215_1; decide)
  have e3 : rr 3 = y2.toInt := p1 3 (by show 3 < c_entryN j_c215_1; decide)
  have e4 : rr 4 = y3.toInt := p1 4 (by show 4 < c_entryN j_c215_1; decide)
  have e5 : rr 5 = y4.toInt := p1 5 (by show 5 < c_entryN j_c215_1; decide)
  have e6 : rr 6 = y5.toInt := p1 6 (by show 6 < c_entryN j_c215_1; decide)
  have e7 : rr 7 = (k : Int) := p1 7 (by show 7 < c_entryN j_c215_1; decide)
  have e8 : rr 8 = (nm : Int) := p1 8 (by show 8 < c_entryN j_c215_1; decide)
  have e9 : rr 9 = u := p1 9 (by show 9 < c_entryN j_c215_1; decide)
  have e10 : rr 10 = v := p1 10 (by show 10 < c_entryN j_c215_1; decide)
  have er : rr 11 = x9.toInt := p2 0 _ rfl
  have hin2 := k_inK he2 (by show ((ct_pros j_c215_1).all fun t => Nat.ble 101 t) = true; decide +kernel) (by decide) (j_in_keep hS (j_g0 k 0 0 0 0) (by decide) (by decide) (by decide) (by decide) hS.2.2.2.2.2)
  have hd : d ∈ ct_post j_c215_1 := hd
  simp only [ct_post, j_c215_1, List.mem_cons, List.not_mem_nil, or_false] at hd
  rcases hd with rfl | rfl
  all_goals
    have hc : k_fn w2 nm 61 (60 * t + k) (rr 12) := k_fnD (b := 7) (p3 0 _ rfl) e8 (by show (0 : Int) + (60 * rr 4 + (1 * rr 7 + 0)) = _; rw [e4, e7]; omega) hin2
    simp only [List.forall_mem_cons, c_ev, c_evs, List.not_mem_nil, false_implies, implies_true, and_true, e9, e10, er] at p4
    exact ⟨rr 12, j_back I1.1 hP2 I1.2.2.1 hT2 hS1.2.2.2.2.2 (by decide +kernel) (by decide +kernel) hc, by omega⟩
theorem k_pourM7ig {k k9 t t9 : Nat} {u v : Int} {y1 y2 y3 y4 y5 r9 : Int32} (I : k_In s D dA a1 a2 w H locs) (hS : k_S7 a1 a2 w rw nm r) (I1 : k_In s D dA a1 a2 w' H' locs') (hS1 : k_S7 a1 a2 w' rw nm r) (hj : j_Ex0 s D dA 215 w [.ref a2, .int y1, .int y2, .int y3, .int y4, .int y5] H' [.int r9]) (h0 : 0 ≤ y1.toInt) (h3 : y1.toInt ≤ 3) (g0 : 0 ≤ y3.toInt) (g3 : y3.toInt ≤ 3) (hq : y3.toInt < y1.toInt) (hy1 : y1.toInt = (t9 : Int)) (hy3 : y3.toInt = (t : Int)) (h4 : y4.toInt ≤ (k : Int)) (h5 : (k : Int) < y4.toInt + y5.toInt) (h9 : (k9 : Int) = y2.toInt - y4.toInt + (k : Int)) (hk9 : k9 < 60) (hk : k < 60) (hs9 : k_fn w nm 61 (60 * t9 + k9) u) (hf : k_fn w nm 61 (60 * t + k) v) : ∃ v', k_fn w' nm 61 (60 * t + k) v' ∧ ((r9.toInt = 1 ∧ v' = u) ∨ (r9.toInt = 0 ∧ v' = v)) := by
  have hpd := k_preD (ct := j_c215_2) (r := k_rv [(a2 : Int), y1.toInt, y2.toInt, y3.toInt, y4.toInt, y5.toInt, (k : Int), (nm : Int), u, v]) (vals := [.ref a2, .int y1, .int y2, .int y3, .int y4, .int y5]) (w := j_w w a1 rw r (j_g0 k 0 0 0 0)) (by decide +kernel) ⟨(by show (0 : Int) ≤ (0) + ((-1) * y4.toInt + ((1) * (k : Int) + (0))); omega), (by show (0 : Int) ≤ (-1) + ((1) * y4.toInt + ((1) * y5.toInt + ((-1) * (k : Int) + (0)))); omega), (by show (0 : Int) ≤ (0) + ((1) * y2.toInt + ((-1) * y4.toInt + ((1) * (k : Int) + (0)))); omega), (by show (0 : Int) ≤ (59) + ((-1) * y2.toInt + ((1) * y4.toInt + ((-1) * (k : Int) + (0)))); omega), (by show (0 : Int) ≤ (-1) + ((1) * y1.toInt + ((-1) * y3.toInt + (0))); omega), (by show (0 : Int) ≤ (3) + (0); omega), trivial⟩ ⟨k_aR (j_in_keep hS _ (by decide) (by decide) (by decide) (by decide) I.2.2.2.2.2.1), ⟨_, rfl, rfl, (by show (0 : Int) ≤ y1.toInt; omega), (by show y1.toInt ≤ (3 : Int); omega)⟩, k_aI _, ⟨_, rfl, rfl, (by show (0 : Int) ≤ y3.toInt; omega), (by show y3.toInt ≤ (3 : Int); omega)⟩, k_aI _, k_aI _, trivial⟩ ⟨⟨40, rfl, c_gv_id40 (by show (0 : Int) ≤ (k : Int); omega) (by show (k : Int) ≤ 59; omega)⟩, k_fnC (b := 0) (j_fn hS (j_g0 k 0 0 0 0) hS.2.2.2.2.1 (j_in_keep hS _ (by decide) (by decide) (by decide) (by decide) I.2.2.2.2.2.1)) rfl rfl, k_fnC (b := 7) (j_fn hS (j_g0 k 0 0 0 0) hs9 (j_in_keep hS _ (by decide) (by decide) (by decide) (by decide) hS.2.2.2.2.2)) rfl (by show (0 : Int) + (60 * y1.toInt + (1 * y2.toInt + ((-1) * y4.toInt + (1 * (k : Int) + 0)))) = _; omega), k_fnC (b := 7) (j_fn hS (j_g0 k 0 0 0 0) hf (j_in_keep hS _ (by decide) (by decide) (by decide) (by decide) hS.2.2.2.2.2)) rfl (by show (0 : Int) + (60 * y3.toInt + (1 * (k : Int) + 0)) = _; omega), trivial⟩
  obtain ⟨rv2, res2, w2, hh, hr2, hp2, hP2, hD2, hT2⟩ := hj (j_c215_2, k_rv [(a2 : Int), y1.toInt, y2.toInt, y3.toInt, y4.toInt, y5.toInt, (k : Int), (nm : Int), u, v], j_tg w a1 rw r, j_g0 k 0 0 0 0) j_pm215_2 rfl rfl hpd.1 hpd.2 (j_TW (D := D) I.2.2.1 I.2.1 hS I.2.2.2.2.1 _)
  obtain ⟨x9, rfl, rfl, -, -⟩ := hr2
  have hx9 : x9 = r9 := by injection (Option.some.inj hh)
  subst hx9
  obtain ⟨he2, -, d, hd, rr, p1, p2, p3, p4, -⟩ := hp2
  have e1 : rr 1 = (a2 : Int) := p1 1 (by show 1 < c_entryN j_c215_2; decide)
  have e2 : rr 2 = y1.toInt := p1 2 (by show 2 < c_entryN j_c215_2; decide)
  have e3 : rr 3 = y2.toInt := p1 3 (by show 3 < c_entryN j_c215_2; decide)
  have e4 : rr 4 = y3.toInt := p1 4 (by show 4 < c_entryN j_c215_2; decide)
  have e5 : rr 5 = y4.toInt := p1 5 (by show 5 < c_entryN j_c215_2; decide)
  have e6 : rr 6 = y5.toInt := p1 6 (by show 6 < c_entryN j_c215_2; decide)
  have e7 : rr 7 = (k : Int) := p1 7 (by show 7 < c_entryN j_c215_2; decide)
  have e8 : rr 8 = (nm : Int) := p1 8 (by show 8 < c_entryN j_c215_2; decide)
  have e9 : rr 9 = u := p1 9 (by show 9 < c_entryN j_c215_2; decide)
  have e10 : rr 10 = v := p1 10 (by show 10 < c_entryN j_c215_2; decide)
  have er : rr 11 = x9.toInt := p2 0 _ rfl
  have hin2 := k_inK he2 (by show ((ct_pros j_c215_2).all fun t => Nat.ble 101 t) = true; decide +kernel) (by decide) (j_in_keep hS (j_g0 k 0 0 0 0) (by decide) (by decide) (by decide) (by decide) hS.2.2.2.2.2)
  have hd : d ∈ ct_post j_c215_2 := hd
  simp only [ct_post, j_c215_2, List.mem_cons, List.not_mem_nil, or_false] at hd
  rcases hd with rfl | rfl
  all_goals
    have hc : k_fn w2 nm 61 (60 * t + k) (rr 12) := k_fnD (b := 7) (p3 0 _ rfl) e8 (by show (0 : Int) + (60 * rr 4 + (1 * rr 7 + 0)) = _; rw [e4, e7]; omega) hin2
    simp only [List.forall_mem_cons, c_ev, c_evs, List.not_mem_nil, false_implies, implies_true, and_true, e9, e10, er] at p4
    exact ⟨rr 12, j_back I1.1 hP2 I1.2.2.1 hT2 hS1.2.2.2.2.2 (by decide +kernel) (by decide +kernel) hc, by omega⟩
theorem k_pourM7l {k t : Nat} {v : Int} {y1 y2 y3 y4 y5 r9 : Int32} (I : k_In s D dA a1 a2 w H locs) (hS : k_S7 a1 a2 w rw nm r) (I1 : k_In s D dA a1 a2 w' H' locs') (hS1 : k_S7 a1 a2 w' rw nm r) (hj : j_Ex0 s D dA 215 w [.ref a2, .int y1, .int y2, .int y3, .int y4, .int y5] H' [.int r9]) (h0 : 0 ≤ y1.toInt) (h3 : y1.toInt ≤ 3) (g0 : 0 ≤ y3.toInt) (g3 : y3.toInt ≤ 3) (hq : 60 * (t : Int) + (k : Int) < 60 * y3.toInt + y4.toInt) (ht : t < 4) (hk : k < 60) (hf : k_fn w nm 61 (60 * t + k) v) : ∃ v', k_fn w' nm 61 (60 * t + k) v' ∧ v' = v := by
  have hpd := k_preD (ct := j_c215_3) (r := k_rv [(a2 : Int), y1.toInt, y2.toInt, y3.toInt, y4.toInt, y5.toInt, (k : Int), (t : Int), (nm : Int), v]) (vals := [.ref a2, .int y1, .int y2, .int y3, .int y4, .int y5]) (w := j_w w a1 rw r (j_g0 k t 0 0 0)) (by decide +kernel) ⟨(by show (0 : Int) ≤ (-1) + ((60) * y3.toInt + ((1) * y4.toInt + ((-1) * (k : Int) + ((-60) * (t : Int) + (0))))); omega), (by show (0 : Int) ≤ (0) + ((1) * (t : Int) + (0)); omega), (by show (0 : Int) ≤ (3) + ((-1) * (t : Int) + (0)); omega), (by show (0 : Int) ≤ (3) + (0); omega), trivial⟩ ⟨k_aR (j_in_keep hS _ (by decide) (by decide) (by decide) (by decide) I.2.2.2.2.2.1), ⟨_, rfl, rfl, (by show (0 : Int) ≤ y1.toInt; omega), (by show y1.toInt ≤ (3 : Int); omega)⟩, k_aI _, ⟨_, rfl, rfl, (by show (0 : Int) ≤ y3.toInt; omega), (by show y3.toInt ≤ (3 : Int); omega)⟩, k_aI _, k_aI _, trivial⟩ ⟨⟨40, rfl, c_gv_id40 (by show (0 : Int) ≤ (k : Int); omega) (by show (k : Int) ≤ 59; omega)⟩, ⟨41, rfl, c_gv_id (by decide) (by show (-1099511627776 : Int) ≤ (t : Int); omega) (by show (t : Int) ≤ 1099511627776; omega)⟩, k_fnC (b := 0) (j_fn hS (j_g0 k t 0 0 0) hS.2.2.2.2.1 (j_in_keep hS _ (by decide) (by decide) (by decide) (by decide) I.2.2.2.2.2.1)) rfl rfl, k_fnC (b := 8) (j_fn hS (j_g0 k t 0 0 0) hf (j_in_keep hS _ (by decide) (by decide) (by decide) (by decide) hS.2.2.2.2.2)) rfl (by show (0 : Int) + (1 * (k : Int) + (60 * (t : Int) + 0)) = _; omega), trivial⟩
  obtain ⟨rv2, res2, w2, hh, hr2, hp2, hP2, hD2, hT2⟩ := hj (j_c215_3, k_rv [(a2 : Int), y1.toInt, y2.toInt, y3.toInt, y4.toInt, y5.toInt, (k : Int), (t : Int), (nm : Int), v], j_tg w a1 rw r, j_g0 k t 0 0 0) j_pm215_3 rfl rfl hpd.1 hpd.2 (j_TW (D := D) I.2.2.1 I.2.1 hS I.2.2.2.2.1 _)
  obtain ⟨x9, rfl, rfl, -, -⟩ := hr2
  have hx9 : x9 = r9 := by injection (Option.some.inj hh)
  subst hx9
  obtain ⟨he2, -, d, hd, rr, p1, p2, p3, p4, -⟩ := hp2
  have e1 : rr 1 = (a2 : Int) := p1 1 (by show 1 < c_entryN j_c215_3; decide)
  have e2 : rr 2 = y1.toInt := p1 2 (by show 2 < c_entryN j_c215_3; decide)
  have e3 : rr 3 = y2.toInt := p1 3 (by show 3 < c_entryN j_c215_3; decide)
  have e4 : rr 4 = y3.toInt := p1 4 (by show 4 < c_entryN j_c215_3; decide)
  have e5 : rr 5 = y4.toInt := p1 5 (by show 5 < c_entryN j_c215_3; decide)
  have e6 : rr 6 = y5.toInt := p1 6 (by show 6 < c_entryN j_c215_3; decide)
  have e7 : rr 7 = (k : Int) := p1 7 (by show 7 < c_entryN j_c215_3; decide)
  have e8 : rr 8 = (t : Int) := p1 8 (by show 8 < c_entryN j_c215_3; decide)
  have e9 : rr 9 = (nm : Int) := p1 9 (by show 9 < c_entryN j_c215_3; decide)
  have e10 : rr 10 = v := p1 10 (by show 10 < c_entryN j_c215_3; decide)
  have er : rr 11 = x9.toInt := p2 0 _ rfl
  have hin2 := k_inK he2 (by show ((ct_pros j_c215_3).all fun t => Nat.ble 101 t) = true; decide +kernel) (by decide) (j_in_keep hS (j_g0 k t 0 0 0) (by decide) (by decide) (by decide) (by decide) hS.2.2.2.2.2)
  have hd : d ∈ ct_post j_c215_3 := hd
  simp only [ct_post, j_c215_3, List.mem_cons, List.not_mem_nil, or_false] at hd
  subst hd
  have hc : k_fn w2 nm 61 (60 * t + k) (rr 12) := k_fnD (b := 8) (p3 0 _ rfl) e9 (by show (0 : Int) + (1 * rr 7 + (60 * rr 8 + 0)) = _; rw [e7, e8]; omega) hin2
  simp only [List.forall_mem_cons, c_ev, c_evs, List.not_mem_nil, false_implies, implies_true, and_true, e10, er] at p4
  exact ⟨rr 12, j_back I1.1 hP2 I1.2.2.1 hT2 hS1.2.2.2.2.2 (by decide +kernel) (by decide +kernel) hc, by omega⟩
theorem k_pourM7g {k t : Nat} {v : Int} {y1 y2 y3 y4 y5 r9 : Int32} (I : k_In s D dA a1 a2 w H locs) (hS : k_S7 a1 a2 w rw nm r) (I1 : k_In s D dA a1 a2 w' H' locs') (hS1 : k_S7 a1 a2 w' rw nm r) (hj : j_Ex0 s D dA 215 w [.ref a2, .int y1, .int y2, .int y3, .int y4, .int y5] H' [.int r9]) (h0 : 0 ≤ y1.toInt) (h3 : y1.toInt ≤ 3) (g0 : 0 ≤ y3.toInt) (g3 : y3.toInt ≤ 3) (hq : 60 * y3.toInt + y4.toInt + y5.toInt ≤ 60 * (t : Int) + (k : Int)) (ht : t < 4) (hk : k < 60) (hf : k_fn w nm 61 (60 * t + k) v) : ∃ v', k_fn w' nm 61 (60 * t + k) v' ∧ v' = v := by
  have hpd := k_preD (ct := j_c215_4) (r := k_rv [(a2 : Int), y1.toInt, y2.toInt, y3.toInt, y4.toInt, y5.toInt, (k : Int), (t : Int), (nm : Int), v]) (vals := [.ref a2, .int y1, .int y2, .int y3, .int y4, .int y5]) (w := j_w w a1 rw r (j_g0 k t 0 0 0)) (by decide +kernel) ⟨(by show (0 : Int) ≤ (0) + ((-60) * y3.toInt + ((-1) * y4.toInt + ((-1) * y5.toInt + ((1) * (k : Int) + ((60) * (t : Int) + (0)))))); omega), (by show (0 : Int) ≤ (0) + ((1) * (t : Int) + (0)); omega), (by show (0 : Int) ≤ (3) + ((-1) * (t : Int) + (0)); omega), (by show (0 : Int) ≤ (3) + (0); omega), trivial⟩ ⟨k_aR (j_in_keep hS _ (by decide) (by decide) (by decide) (by decide) I.2.2.2.2.2.1), ⟨_, rfl, rfl, (by show (0 : Int) ≤ y1.toInt; omega), (by show y1.toInt ≤ (3 : Int); omega)⟩, k_aI _, ⟨_, rfl, rfl, (by show (0 : Int) ≤ y3.toInt; omega), (by show y3.toInt ≤ (3 : Int); omega)⟩, k_aI _, k_aI _, trivial⟩ ⟨⟨40, rfl, c_gv_id40 (by show (0 : Int) ≤ (k : Int); omega) (by show (k : Int) ≤ 59; omega)⟩, ⟨41, rfl, c_gv_id (by decide) (by show (-1099511627776 : Int) ≤ (t : Int); omega) (by show (t : Int) ≤ 1099511627776; omega)⟩, k_fnC (b := 0) (j_fn hS (j_g0 k t 0 0 0) hS.2.2.2.2.1 (j_in_keep hS _ (by decide) (by decide) (by decide) (by decide) I.2.2.2.2.2.1)) rfl rfl, k_fnC (b := 8) (j_fn hS (j_g0 k t 0 0 0) hf (j_in_keep hS _ (by decide) (by decide) (by decide) (by decide) hS.2.2.2.2.2)) rfl (by show (0 : Int) + (1 * (k : Int) + (60 * (t : Int) + 0)) = _; omega), trivial⟩
  obtain ⟨rv2, res2, w2, hh, hr2, hp2, hP2, hD2, hT2⟩ := hj (j_c215_4, k_rv [(a2 : Int), y1.toInt, y2.toInt, y3.toInt, y4.toInt, y5.toInt, (k : Int), (t : Int), (nm : Int), v], j_tg w a1 rw r, j_g0 k t 0 0 0) j_pm215_4 rfl rfl hpd.1 hpd.2 (j_TW (D := D) I.2.2.1 I.2.1 hS I.2.2.2.2.1 _)
  obtain ⟨x9, rfl, rfl, -, -⟩ := hr2
  have hx9 : x9 = r9 := by injection (Option.some.inj hh)
  subst hx9
  obtain ⟨he2, -, d, hd, rr, p1, p2, p3, p4, -⟩ := hp2
  have e1 : rr 1 = (a2 : Int) := p1 1 (by show 1 < c_entryN j_c215_4; decide)
  have e2 : rr 2 = y1.toInt := p1 2 (by show 2 < c_entryN j_c215_4; decide)
  have e3 : rr 3 = y2.toInt := p1 3 (by show 3 < c_entryN j_c215_4; decide)
  have e4 : rr 4 = y3.toInt := p1 4 (by show 4 < c_entryN j_c215_4; decide)
  have e5 : rr 5 = y4.toInt := p1 5 (by show 5 < c_entryN j_c215_4; decide)
  have e6 : rr 6 = y5.toInt := p1 6 (by show 6 < c_entryN j_c215_4; decide)
  have e7 : rr 7 = (k : Int) := p1 7 (by show 7 < c_entryN j_c215_4; decide)
  have e8 : rr 8 = (t : Int) := p1 8 (by show 8 < c_entryN j_c215_4; decide)
  have e9 : rr 9 = (nm : Int) := p1 9 (by show 9 < c_entryN j_c215_4; decide)
  have e10 : rr 10 = v := p1 10 (by show 10 < c_entryN j_c215_4; decide)
  have er : rr 11 = x9.toInt := p2 0 _ rfl
  have hin2 := k_inK he2 (by show ((ct_pros j_c215_4).all fun t => Nat.ble 101 t) = true; decide +kernel) (by decide) (j_in_keep hS (j_g0 k t 0 0 0) (by decide) (by decide) (by decide) (by decide) hS.2.2.2.2.2)
  have hd : d ∈ ct_post j_c215_4 := hd
  simp only [ct_post, j_c215_4, List.mem_cons, List.not_mem_nil, or_false] at hd
  subst hd
  have hc : k_fn w2 nm 61 (60 * t + k) (rr 12) := k_fnD (b := 8) (p3 0 _ rfl) e9 (by show (0 : Int) + (1 * rr 7 + (60 * rr 8 + 0)) = _; rw [e7, e8]; omega) hin2
  simp only [List.forall_mem_cons, c_ev, c_evs, List.not_mem_nil, false_implies, implies_true, and_true, e10, er] at p4
  exact ⟨rr 12, j_back I1.1 hP2 I1.2.2.1 hT2 hS1.2.2.2.2.2 (by decide +kernel) (by decide +kernel) hc, by omega⟩
theorem k_pourM7r {k t : Nat} {v : Int} {y1 y2 y3 y4 y5 r9 : Int32} (I : k_In s D dA a1 a2 w H locs) (hS : k_S7 a1 a2 w rw nm r) (I1 : k_In s D dA a1 a2 w' H' locs') (hS1 : k_S7 a1 a2 w' rw nm r) (hj : j_Ex0 s D dA 215 w [.ref a2, .int y1, .int y2, .int y3, .int y4, .int y5] H' [.int r9]) (h0 : 0 ≤ y1.toInt) (h3 : y1.toInt ≤ 3) (g0 : 0 ≤ y3.toInt) (g3 : y3.toInt ≤ 3) (hq : r9.toInt = 0) (ht : t < 4) (hk : k < 60) (hf : k_fn w nm 61 (60 * t + k) v) : ∃ v', k_fn w' nm 61 (60 * t + k) v' ∧ v' = v := by
  have hpd := k_preD (ct := j_c215_5) (r := k_rv [(a2 : Int), y1.toInt, y2.toInt, y3.toInt, y4.toInt, y5.toInt, (k : Int), (t : Int), (nm : Int), v]) (vals := [.ref a2, .int y1, .int y2, .int y3, .int y4, .int y5]) (w := j_w w a1 rw r (j_g0 k t 0 0 0)) (by decide +kernel) ⟨(by show (0 : Int) ≤ (0) + ((1) * (t : Int) + (0)); omega), (by show (0 : Int) ≤ (3) + ((-1) * (t : Int) + (0)); omega), (by show (0 : Int) ≤ (3) + (0); omega), trivial⟩ ⟨k_aR (j_in_keep hS _ (by decide) (by decide) (by decide) (by decide) I.2.2.2.2.2.1), ⟨_, rfl, rfl, (by show (0 : Int) ≤ y1.toInt; omega), (by show y1.toInt ≤ (3 : Int); omega)⟩, k_aI _, ⟨_, rfl, rfl, (by show (0 : Int) ≤ y3.toInt; omega), (by show y3.toInt ≤ (3 : Int); omega)⟩, k_aI _, k_aI _, trivial⟩ ⟨⟨40, rfl, c_gv_id40 (by show (0 : Int) ≤ (k : Int); omega) (by show (k : Int) ≤ 59; omega)⟩, ⟨41, rfl, c_gv_id (by decide) (by show (-1099511627776 : Int) ≤ (t : Int); omega) (by show (t : Int) ≤ 1099511627776; omega)⟩, k_fnC (b := 0) (j_fn hS (j_g0 k t 0 0 0) hS.2.2.2.2.1 (j_in_keep hS _ (by decide) (by decide) (by decide) (by decide) I.2.2.2.2.2.1)) rfl rfl, k_fnC (b := 8) (j_fn hS (j_g0 k t 0 0 0) hf (j_in_keep hS _ (by decide) (by decide) (by decide) (by decide) hS.2.2.2.2.2)) rfl (by show (0 : Int) + (1 * (k : Int) + (60 * (t : Int) + 0)) = _; omega), trivial⟩
  obtain ⟨rv2, res2, w2, hh, hr2, hp2, hP2, hD2, hT2⟩ := hj (j_c215_5, k_rv [(a2 : Int), y1.toInt, y2.toInt, y3.toInt, y4.toInt, y5.toInt, (k : Int), (t : Int), (nm : Int), v], j_tg w a1 rw r, j_g0 k t 0 0 0) j_pm215_5 rfl rfl hpd.1 hpd.2 (j_TW (D := D) I.2.2.1 I.2.1 hS I.2.2.2.2.1 _)
  obtain ⟨x9, rfl, rfl, -, -⟩ := hr2
  have hx9 : x9 = r9 := by injection (Option.some.inj hh)
  subst hx9
  obtain ⟨he2, -, d, hd, rr, p1, p2, p3, p4, -⟩ := hp2
  have e1 : rr 1 = (a2 : Int) := p1 1 (by show 1 < c_entryN j_c215_5; decide)
  have e2 : rr 2 = y1.toInt := p1 2 (by show 2 < c_entryN j_c215_5; decide)
  have e3 : rr 3 = y2.toInt := p1 3 (by show 3 < c_entryN j_c215_5; decide)
  have e4 : rr 4 = y3.toInt := p1 4 (by show 4 < c_entryN j_c215_5; decide)
  have e5 : rr 5 = y4.toInt := p1 5 (by show 5 < c_entryN j_c215_5; decide)
  have e6 : rr 6 = y5.toInt := p1 6 (by show 6 < c_entryN j_c215_5; decide)
  have e7 : rr 7 = (k : Int) := p1 7 (by show 7 < c_entryN j_c215_5; decide)
  have e8 : rr 8 = (t : Int) := p1 8 (by show 8 < c_entryN j_c215_5; decide)
  have e9 : rr 9 = (nm : Int) := p1 9 (by show 9 < c_entryN j_c215_5; decide)
  have e10 : rr 10 = v := p1 10 (by show 10 < c_entryN j_c215_5; decide)
  have er : rr 11 = x9.toInt := p2 0 _ rfl
  have hin2 := k_inK he2 (by show ((ct_pros j_c215_5).all fun t => Nat.ble 101 t) = true; decide +kernel) (by decide) (j_in_keep hS (j_g0 k t 0 0 0) (by decide) (by decide) (by decide) (by decide) hS.2.2.2.2.2)
  have hd : d ∈ ct_post j_c215_5 := hd
  simp only [ct_post, j_c215_5, List.mem_cons, List.not_mem_nil, or_false] at hd
  rcases hd with rfl | rfl
  · have hc : k_fn w2 nm 61 (60 * t + k) (rr 12) := k_fnD (b := 8) (p3 0 _ rfl) e9 (by show (0 : Int) + (1 * rr 7 + (60 * rr 8 + 0)) = _; rw [e7, e8]; omega) hin2
    simp only [List.forall_mem_cons, c_ev, c_evs, List.not_mem_nil, false_implies, implies_true, and_true, e10, er] at p4
    exact ⟨rr 12, j_back I1.1 hP2 I1.2.2.1 hT2 hS1.2.2.2.2.2 (by decide +kernel) (by decide +kernel) hc, by omega⟩
  · simp only [List.forall_mem_cons, c_ev, c_evs, List.not_mem_nil, false_implies, implies_true, and_true, er] at p4
    omega
theorem k_readC7o0 {k so si : Nat} {v s0 z0 : Int} {y1 y2 : Int32} {r9 : Int64} (I : k_In s D dA a1 a2 w H locs) (hS : k_S7 a1 a2 w rw nm r) (I1 : k_In s D dA a1 a2 w' H' locs') (hS1 : k_S7 a1 a2 w' rw nm r) (hj : j_Ex0 s D dA 127 w [.ref a1, .int y1, .int y2] H' [.long r9]) (hso : k_fn w a1 12 4 (so : Int)) (hsoi : c_in w so 14) (hsi : k_fn w a1 12 5 (si : Int)) (hsii : c_in w si 15) (hs0 : k_fn w so 14 0 s0) (hz0 : k_fn w si 15 0 z0) (hy1 : y1.toInt = 0) (hy2 : y2.toInt = (k : Int)) (hk : k < 60) (hf : k_fn w (r 0) 17 k v) : (r9.toInt = v ∧ 0 ≤ s0 ∧ y2.toInt < z0) ∨ (r9.toInt = -1 ∧ (s0 = -1 ∨ z0 ≤ y2.toInt)) := by
  have hpd := k_preD (ct := j_c127_0) (r := k_rv [(a1 : Int), (0 : Int), y2.toInt, (rw : Int), (r 0 : Int), v, (so : Int), (si : Int), s0, z0]) (vals := [.ref a1, .int y1, .int y2]) (w := j_w w a1 rw r (fun _ => (0 : Int))) (by decide +kernel) ⟨(by show (0 : Int) ≤ (4) + (0); omega), trivial⟩ ⟨k_aR (j_in_a1 hS _ I.2.2.2.2.1), ⟨_, rfl, hy1, Int.le_refl _, Int.le_refl _⟩, ⟨_, rfl, rfl, (by show (0 : Int) ≤ y2.toInt; omega), (by show y2.toInt ≤ (59 : Int); omega)⟩, trivial⟩ ⟨k_fnC (b := 0) (j_fn hS (fun _ => (0 : Int)) hS.1 (j_in_a1 hS _ I.2.2.2.2.1)) rfl rfl, k_fnC (b := 3) (j_fn hS (fun _ => (0 : Int)) (hS.2.2.1 0 (by omega)).1 (j_in_rw hS _)) rfl (by show (0 : Int) + (1 * (0 : Int) + 0) = _; rfl), k_fnC (b := 4) (j_fn hS (fun _ => (0 : Int)) hf (j_in_row hS _ (t := 0) (by omega))) rfl (by show (0 : Int) + (1 * y2.toInt + 0) = _; omega), k_fnC (b := 0) (j_fn hS (fun _ => (0 : Int)) hso (j_in_a1 hS _ I.2.2.2.2.1)) rfl rfl, k_fnC (b := 0) (j_fn hS (fun _ => (0 : Int)) hsi (j_in_a1 hS _ I.2.2.2.2.1)) rfl rfl, k_fnC (b := 6) (j_fn hS (fun _ => (0 : Int)) hs0 (j_in_keep hS _ (by decide) (by decide) (by decide) (by decide) hsoi)) rfl (by show (0 : Int) + (1 * (0 : Int) + 0) = _; omega), k_fnC (b := 7) (j_fn hS (fun _ => (0 : Int)) hz0 (j_in_keep hS _ (by decide) (by decide) (by decide) (by decide) hsii)) rfl (by show (0 : Int) + (1 * (0 : Int) + 0) = _; omega), trivial⟩
  obtain ⟨rv2, res2, w2, hh, hr2, hp2, hP2, hD2, hT2⟩ := hj (j_c127_0, k_rv [(a1 : Int), (0 : Int), y2.toInt, (rw : Int), (r 0 : Int), v, (so : Int), (si : Int), s0, z0], j_tg w a1 rw r, fun _ => (0 : Int)) j_pm127_0 rfl rfl hpd.1 hpd.2 (j_TW (D := D) I.2.2.1 I.2.1 hS I.2.2.2.2.1 _)
  obtain ⟨x9, rfl, rfl⟩ := hr2
  have hx9 : x9 = r9 := by injection (Option.some.inj hh)
  subst hx9
  obtain ⟨he2, -, d, hd, rr, p1, p2, p3, p4, -⟩ := hp2
  have e1 : rr 1 = (a1 : Int) := p1 1 (by show 1 < c_entryN j_c127_0; decide)
  have e2 : rr 2 = (0 : Int) := p1 2 (by show 2 < c_entryN j_c127_0; decide)
  have e3 : rr 3 = y2.toInt := p1 3 (by show 3 < c_entryN j_c127_0; decide)
  have e4 : rr 4 = (rw : Int) := p1 4 (by show 4 < c_entryN j_c127_0; decide)
  have e5 : rr 5 = (r 0 : Int) := p1 5 (by show 5 < c_entryN j_c127_0; decide)
  have e6 : rr 6 = v := p1 6 (by show 6 < c_entryN j_c127_0; decide)
  have e7 : rr 7 = (so : Int) := p1 7 (by show 7 < c_entryN j_c127_0; decide)
  have e8 : rr 8 = (si : Int) := p1 8 (by show 8 < c_entryN j_c127_0; decide)
  have e9 : rr 9 = s0 := p1 9 (by show 9 < c_entryN j_c127_0; decide)
  have e10 : rr 10 = z0 := p1 10 (by show 10 < c_entryN j_c127_0; decide)
  have er : rr 11 = x9.toInt := p2 0 _ rfl
  have hd : d ∈ ct_post j_c127_0 := hd
  simp only [ct_post, j_c127_0, List.mem_cons, List.not_mem_nil, or_false] at hd
  rcases hd with rfl | rfl | rfl
  all_goals
    simp only [List.forall_mem_cons, c_ev, c_evs, List.not_mem_nil, false_implies, implies_true, and_true, e3, e6, e9, e10, er] at p4
    omega
theorem k_readC7o1 {k so si : Nat} {v s0 z0 : Int} {y1 y2 : Int32} {r9 : Int64} (I : k_In s D dA a1 a2 w H locs) (hS : k_S7 a1 a2 w rw nm r) (I1 : k_In s D dA a1 a2 w' H' locs') (hS1 : k_S7 a1 a2 w' rw nm r) (hj : j_Ex0 s D dA 127 w [.ref a1, .int y1, .int y2] H' [.long r9]) (hso : k_fn w a1 12 4 (so : Int)) (hsoi : c_in w so 14) (hsi : k_fn w a1 12 5 (si : Int)) (hsii : c_in w si 15) (hs0 : k_fn w so 14 1 s0) (hz0 : k_fn w si 15 1 z0) (hy1 : y1.toInt = 1) (hy2 : y2.toInt = (k : Int)) (hk : k < 60) (hf : k_fn w (r 1) 17 k v) : (r9.toInt = v ∧ 0 ≤ s0 ∧ y2.toInt < z0) ∨ (r9.toInt = -1 ∧ (s0 = -1 ∨ z0 ≤ y2.toInt)) := by
  have hpd := k_preD (ct := j_c127_3) (r := k_rv [(a1 : Int), (1 : Int), y2.toInt, (rw : Int), (r 1 : Int), v, (so : Int), (si : Int), s0, z0]) (vals := [.ref a1, .int y1, .int y2]) (w := j_w w a1 rw r (fun _ => (0 : Int))) (by decide +kernel) ⟨(by show (0 : Int) ≤ (4) + (0); omega), trivial⟩ ⟨k_aR (j_in_a1 hS _ I.2.2.2.2.1), ⟨_, rfl, hy1, Int.le_refl _, Int.le_refl _⟩, ⟨_, rfl, rfl, (by show (0 : Int) ≤ y2.toInt; omega), (by show y2.toInt ≤ (59 : Int); omega)⟩, trivial⟩ ⟨k_fnC (b := 0) (j_fn hS (fun _ => (0 : Int)) hS.1 (j_in_a1 hS _ I.2.2.2.2.1)) rfl rfl, k_fnC (b := 3) (j_fn hS (fun _ => (0 : Int)) (hS.2.2.1 1 (by omega)).1 (j_in_rw hS _)) rfl (by show (0 : Int) + (1 * (1 : Int) + 0) = _; rfl), k_fnC (b := 4) (j_fn hS (fun _ => (0 : Int)) hf (j_in_row hS _ (t := 1) (by omega))) rfl (by show (0 : Int) + (1 * y2.toInt + 0) = _; omega), k_fnC (b := 0) (j_fn hS (fun _ => (0 : Int)) hso (j_in_a1 hS _ I.2.2.2.2.1)) rfl rfl, k_fnC (b := 0) (j_fn hS (fun _ => (0 : Int)) hsi (j_in_a1 hS _ I.2.2.2.2.1)) rfl rfl, k_fnC (b := 6) (j_fn hS (fun _ => (0 : Int)) hs0 (j_in_keep hS _ (by decide) (by decide) (by decide) (by decide) hsoi)) rfl (by show (0 : Int) + (1 * (1 : Int) + 0) = _; omega), k_fnC (b := 7) (j_fn hS (fun _ => (0 : Int)) hz0 (j_in_keep hS _ (by decide) (by decide) (by decide) (by decide) hsii)) rfl (by show (0 : Int) + (1 * (1 : Int) + 0) = _; omega), trivial⟩
  obtain ⟨rv2, res2, w2, hh, hr2, hp2, hP2, hD2, hT2⟩ := hj (j_c127_3, k_rv [(a1 : Int), (1 : Int), y2.toInt, (rw : Int), (r 1 : Int), v, (so : Int), (si : Int), s0, z0], j_tg w a1 rw r, fun _ => (0 : Int)) j_pm127_3 rfl rfl hpd.1 hpd.2 (j_TW (D := D) I.2.2.1 I.2.1 hS I.2.2.2.2.1 _)
  obtain ⟨x9, rfl, rfl⟩ := hr2
  have hx9 : x9 = r9 := by injection (Option.some.inj hh)
  subst hx9
  obtain ⟨he2, -, d, hd, rr, p1, p2, p3, p4, -⟩ := hp2
  have e1 : rr 1 = (a1 : Int) := p1 1 (by show 1 < c_entryN j_c127_3; decide)
  have e2 : rr 2 = (1 : Int) := p1 2 (by show 2 < c_entryN j_c127_3; decide)
  have e3 : rr 3 = y2.toInt := p1 3 (by show 3 < c_entryN j_c127_3; decide)
  have e4 : rr 4 = (rw : Int) := p1 4 (by show 4 < c_entryN j_c127_3; decide)
  have e5 : rr 5 = (r 1 : Int) := p1 5 (by show 5 < c_entryN j_c127_3; decide)
  have e6 : rr 6 = v := p1 6 (by show 6 < c_entryN j_c127_3; decide)
  have e7 : rr 7 = (so : Int) := p1 7 (by show 7 < c_entryN j_c127_3; decide)
  have e8 : rr 8 = (si : Int) := p1 8 (by show 8 < c_entryN j_c127_3; decide)
  have e9 : rr 9 = s0 := p1 9 (by show 9 < c_entryN j_c127_3; decide)
  have e10 : rr 10 = z0 := p1 10 (by show 10 < c_entryN j_c127_3; decide)
  have er : rr 11 = x9.toInt := p2 0 _ rfl
  have hd : d ∈ ct_post j_c127_3 := hd
  simp only [ct_post, j_c127_3, List.mem_cons, List.not_mem_nil, or_false] at hd
  rcases hd with rfl | rfl | rfl
  all_goals
    simp only [List.forall_mem_cons, c_ev, c_evs, List.not_mem_nil, false_implies, implies_true, and_true, e3, e6, e9, e10, er] at p4
    omega
theorem k_readC7o2 {k so si : Nat} {v s0 z0 : Int} {y1 y2 : Int32} {r9 : Int64} (I : k_In s D dA a1 a2 w H locs) (hS : k_S7 a1 a2 w rw nm r) (I1 : k_In s D dA a1 a2 w' H' locs') (hS1 : k_S7 a1 a2 w' rw nm r) (hj : j_Ex0 s D dA 127 w [.ref a1, .int y1, .int y2] H' [.long r9]) (hso : k_fn w a1 12 4 (so : Int)) (hsoi : c_in w so 14) (hsi : k_fn w a1 12 5 (si : Int)) (hsii : c_in w si 15) (hs0 : k_fn w so 14 2 s0) (hz0 : k_fn w si 15 2 z0) (hy1 : y1.toInt = 2) (hy2 : y2.toInt = (k : Int)) (hk : k < 60) (hf : k_fn w (r 2) 17 k v) : (r9.toInt = v ∧ 0 ≤ s0 ∧ y2.toInt < z0) ∨ (r9.toInt = -1 ∧ (s0 = -1 ∨ z0 ≤ y2.toInt)) := by
  have hpd := k_preD (ct := j_c127_6) (r := k_rv [(a1 : Int), (2 : Int), y2.toInt, (rw : Int), (r 2 : Int), v, (so : Int), (si : Int), s0, z0]) (vals := [.ref a1, .int y1, .int y2]) (w := j_w w a1 rw r (fun _ => (0 : Int))) (by decide +kernel) ⟨(by show (0 : Int) ≤ (4) + (0); omega), trivial⟩ ⟨k_aR (j_in_a1 hS _ I.2.2.2.2.1), ⟨_, rfl, hy1, Int.le_refl _, Int.le_refl _⟩, ⟨_, rfl, rfl, (by show (0 : Int) ≤ y2.toInt; omega), (by show y2.toInt ≤ (59 : Int); omega)⟩, trivial⟩ ⟨k_fnC (b := 0) (j_fn hS (fun _ => (0 : Int)) hS.1 (j_in_a1 hS _ I.2.2.2.2.1)) rfl rfl, k_fnC (b := 3) (j_fn hS (fun _ => (0 : Int)) (hS.2.2.1 2 (by omega)).1 (j_in_rw hS _)) rfl (by show (0 : Int) + (1 * (2 : Int) + 0) = _; rfl), k_fnC (b := 4) (j_fn hS (fun _ => (0 : Int)) hf (j_in_row hS _ (t := 2) (by omega))) rfl (by show (0 : Int) + (1 * y2.toInt + 0) = _; omega), k_fnC (b := 0) (j_fn hS (fun _ => (0 : Int)) hso (j_in_a1 hS _ I.2.2.2.2.1)) rfl rfl, k_fnC (b := 0) (j_fn hS (fun _ => (0 : Int)) hsi (j_in_a1 hS _ I.2.2.2.2.1)) rfl rfl, k_fnC (b := 6) (j_fn hS (fun _ => (0 : Int)) hs0 (j_in_keep hS _ (by decide) (by decide) (by decide) (by decide) hsoi)) rfl (by show (0 : Int) + (1 * (2 : Int) + 0) = _; omega), k_fnC (b := 7) (j_fn hS (fun _ => (0 : Int)) hz0 (j_in_keep hS _ (by decide) (by decide) (by decide) (by decide) hsii)) rfl (by show (0 : Int) + (1 * (2 : Int) + 0) = _; omega), trivial⟩
  obtain ⟨rv2, res2, w2, hh, hr2, hp2, hP2, hD2, hT2⟩ := hj (j_c127_6, k_rv [(a1 : Int), (2 : Int), y2.toInt, (rw : Int), (r 2 : Int), v, (so : Int), (si : Int), s0, z0], j_tg w a1 rw r, fun _ => (0 : Int)) j_pm127_6 rfl rfl hpd.1 hpd.2 (j_TW (D := D) I.2.2.1 I.2.1 hS I.2.2.2.2.1 _)
  obtain ⟨x9, rfl, rfl⟩ := hr2
  have hx9 : x9 = r9 := by injection (Option.some.inj hh)
  subst hx9
  obtain ⟨he2, -, d, hd, rr, p1, p2, p3, p4, -⟩ := hp2
  have e1 : rr 1 = (a1 : Int) := p1 1 (by show 1 < c_entryN j_c127_6; decide)
  have e2 : rr 2 = (2 : Int) := p1 2 (by show 2 < c_entryN j_c127_6; decide)
  have e3 : rr 3 = y2.toInt := p1 3 (by show 3 < c_entryN j_c127_6; decide)
  have e4 : rr 4 = (rw : Int) := p1 4 (by show 4 < c_entryN j_c127_6; decide)
  have e5 : rr 5 = (r 2 : Int) := p1 5 (by show 5 < c_entryN j_c127_6; decide)
  have e6 : rr 6 = v := p1 6 (by show 6 < c_entryN j_c127_6; decide)
  have e7 : rr 7 = (so : Int) := p1 7 (by show 7 < c_entryN j_c127_6; decide)
  have e8 : rr 8 = (si : Int) := p1 8 (by show 8 < c_entryN j_c127_6; decide)
  have e9 : rr 9 = s0 := p1 9 (by show 9 < c_entryN j_c127_6; decide)
  have e10 : rr 10 = z0 := p1 10 (by show 10 < c_entryN j_c127_6; decide)
  have er : rr 11 = x9.toInt := p2 0 _ rfl
  have hd : d ∈ ct_post j_c127_6 := hd
  simp only [ct_post, j_c127_6, List.mem_cons, List.not_mem_nil, or_false] at hd
  rcases hd with rfl | rfl | rfl
  all_goals
    simp only [List.forall_mem_cons, c_ev, c_evs, List.not_mem_nil, false_implies, implies_true, and_true, e3, e6, e9, e10, er] at p4
    omega
theorem k_readC7o3 {k so si : Nat} {v s0 z0 : Int} {y1 y2 : Int32} {r9 : Int64} (I : k_In s D dA a1 a2 w H locs) (hS : k_S7 a1 a2 w rw nm r) (I1 : k_In s D dA a1 a2 w' H' locs') (hS1 : k_S7 a1 a2 w' rw nm r) (hj : j_Ex0 s D dA 127 w [.ref a1, .int y1, .int y2] H' [.long r9]) (hso : k_fn w a1 12 4 (so : Int)) (hsoi : c_in w so 14) (hsi : k_fn w a1 12 5 (si : Int)) (hsii : c_in w si 15) (hs0 : k_fn w so 14 3 s0) (hz0 : k_fn w si 15 3 z0) (hy1 : y1.toInt = 3) (hy2 : y2.toInt = (k : Int)) (hk : k < 60) (hf : k_fn w (r 3) 17 k v) : (r9.toInt = v ∧ 0 ≤ s0 ∧ y2.toInt < z0) ∨ (r9.toInt = -1 ∧ (s0 = -1 ∨ z0 ≤ y2.toInt)) := by
  have hpd := k_preD (ct := j_c127_9) (r := k_rv [(a1 : Int), (3 : Int), y2.toInt, (rw : Int), (r 3 : Int), v, (so : Int), (si : Int), s0, z0]) (vals := [.ref a1, .int y1, .int y2]) (w := j_w w a1 rw r (fun _ => (0 : Int))) (by decide +kernel) ⟨(by show (0 : Int) ≤ (4) + (0); omega), trivial⟩ ⟨k_aR (j_in_a1 hS _ I.2.2.2.2.1), ⟨_, rfl, hy1, Int.le_refl _, Int.le_refl _⟩, ⟨_, rfl, rfl, (by show (0 : Int) ≤ y2.toInt; omega), (by show y2.toInt ≤ (59 : Int); omega)⟩, trivial⟩ ⟨k_fnC (b := 0) (j_fn hS (fun _ => (0 : Int)) hS.1 (j_in_a1 hS _ I.2.2.2.2.1)) rfl rfl, k_fnC (b := 3) (j_fn hS (fun _ => (0 : Int)) (hS.2.2.1 3 (by omega)).1 (j_in_rw hS _)) rfl (by show (0 : Int) + (1 * (3 : Int) + 0) = _; rfl), k_fnC (b := 4) (j_fn hS (fun _ => (0 : Int)) hf (j_in_row hS _ (t := 3) (by omega))) rfl (by show (0 : Int) + (1 * y2.toInt + 0) = _; omega), k_fnC (b := 0) (j_fn hS (fun _ => (0 : Int)) hso (j_in_a1 hS _ I.2.2.2.2.1)) rfl rfl, k_fnC (b := 0) (j_fn hS (fun _ => (0 : Int)) hsi (j_in_a1 hS _ I.2.2.2.2.1)) rfl rfl, k_fnC (b := 6) (j_fn hS (fun _ => (0 : Int)) hs0 (j_in_keep hS _ (by decide) (by decide) (by decide) (by decide) hsoi)) rfl (by show (0 : Int) + (1 * (3 : Int) + 0) = _; omega), k_fnC (b := 7) (j_fn hS (fun _ => (0 : Int)) hz0 (j_in_keep hS _ (by decide) (by decide) (by decide) (by decide) hsii)) rfl (by show (0 : Int) + (1 * (3 : Int) + 0) = _; omega), trivial⟩
  obtain ⟨rv2, res2, w2, hh, hr2, hp2, hP2, hD2, hT2⟩ := hj (j_c127_9, k_rv [(a1 : Int), (3 : Int), y2.toInt, (rw : Int), (r 3 : Int), v, (so : Int), (si : Int), s0, z0], j_tg w a1 rw r, fun _ => (0 : Int)) j_pm127_9 rfl rfl hpd.1 hpd.2 (j_TW (D := D) I.2.2.1 I.2.1 hS I.2.2.2.2.1 _)
  obtain ⟨x9, rfl, rfl⟩ := hr2
  have hx9 : x9 = r9 := by injection (Option.some.inj hh)
  subst hx9
  obtain ⟨he2, -, d, hd, rr, p1, p2, p3, p4, -⟩ := hp2
  have e1 : rr 1 = (a1 : Int) := p1 1 (by show 1 < c_entryN j_c127_9; decide)
  have e2 : rr 2 = (3 : Int) := p1 2 (by show 2 < c_entryN j_c127_9; decide)
  have e3 : rr 3 = y2.toInt := p1 3 (by show 3 < c_entryN j_c127_9; decide)
  have e4 : rr 4 = (rw : Int) := p1 4 (by show 4 < c_entryN j_c127_9; decide)
  have e5 : rr 5 = (r 3 : Int) := p1 5 (by show 5 < c_entryN j_c127_9; decide)
  have e6 : rr 6 = v := p1 6 (by show 6 < c_entryN j_c127_9; decide)
  have e7 : rr 7 = (so : Int) := p1 7 (by show 7 < c_entryN j_c127_9; decide)
  have e8 : rr 8 = (si : Int) := p1 8 (by show 8 < c_entryN j_c127_9; decide)
  have e9 : rr 9 = s0 := p1 9 (by show 9 < c_entryN j_c127_9; decide)
  have e10 : rr 10 = z0 := p1 10 (by show 10 < c_entryN j_c127_9; decide)
  have er : rr 11 = x9.toInt := p2 0 _ rfl
  have hd : d ∈ ct_post j_c127_9 := hd
  simp only [ct_post, j_c127_9, List.mem_cons, List.not_mem_nil, or_false] at hd
  rcases hd with rfl | rfl | rfl
  all_goals
    simp only [List.forall_mem_cons, c_ev, c_evs, List.not_mem_nil, false_implies, implies_true, and_true, e3, e6, e9, e10, er] at p4
    omega
theorem k_readM7o {k t tm : Nat} {v m0 : Int} {y1 y2 : Int32} {r9 : Int64} (I : k_In s D dA a1 a2 w H locs) (hS : k_S7 a1 a2 w rw nm r) (I1 : k_In s D dA a1 a2 w' H' locs') (hS1 : k_S7 a1 a2 w' rw nm r) (hj : j_Ex0 s D dA 214 w [.ref a2, .int y1, .int y2] H' [.long r9]) (htm : k_fn w a2 13 5 (tm : Int)) (htmi : c_in w tm 60) (hm0 : k_fn w tm 60 t m0) (hy1 : y1.toInt = (t : Int)) (ht : t < 4) (hy2 : y2.toInt = (k : Int)) (hk : k < 60) (hf : k_fn w nm 61 (60 * t + k) v) : (r9.toInt = v ∧ y2.toInt < m0) ∨ (r9.toInt = -1 ∧ m0 ≤ y2.toInt) := by
  have hpd := k_preD (ct := j_c214_2) (r := k_rv [(a2 : Int), y1.toInt, y2.toInt, (nm : Int), v, (tm : Int), m0]) (vals := [.ref a2, .int y1, .int y2]) (w := j_w w a1 rw r (fun _ => (0 : Int))) (by decide +kernel) ⟨(by show (0 : Int) ≤ (4) + (0); omega), trivial⟩ ⟨k_aR (j_in_keep hS _ (by decide) (by decide) (by decide) (by decide) I.2.2.2.2.2.1), ⟨_, rfl, rfl, (by show (0 : Int) ≤ y1.toInt; omega), (by show y1.toInt ≤ (3 : Int); omega)⟩, ⟨_, rfl, rfl, (by show (0 : Int) ≤ y2.toInt; omega), (by show y2.toInt ≤ (59 : Int); omega)⟩, trivial⟩ ⟨k_fnC (b := 0) (j_fn hS (fun _ => (0 : Int)) hS.2.2.2.2.1 (j_in_keep hS _ (by decide) (by decide) (by decide) (by decide) I.2.2.2.2.2.1)) rfl rfl, k_fnC (b := 3) (j_fn hS (fun _ => (0 : Int)) hf (j_in_keep hS _ (by decide) (by decide) (by decide) (by decide) hS.2.2.2.2.2)) rfl (by show (0 : Int) + (60 * y1.toInt + (1 * y2.toInt + 0)) = _; omega), k_fnC (b := 0) (j_fn hS (fun _ => (0 : Int)) htm (j_in_keep hS _ (by decide) (by decide) (by decide) (by decide) I.2.2.2.2.2.1)) rfl rfl, k_fnC (b := 5) (j_fn hS (fun _ => (0 : Int)) hm0 (j_in_keep hS _ (by decide) (by decide) (by decide) (by decide) htmi)) rfl (by show (0 : Int) + (1 * y1.toInt + 0) = _; omega), trivial⟩
  obtain ⟨rv2, res2, w2, hh, hr2, hp2, hP2, hD2, hT2⟩ := hj (j_c214_2, k_rv [(a2 : Int), y1.toInt, y2.toInt, (nm : Int), v, (tm : Int), m0], j_tg w a1 rw r, fun _ => (0 : Int)) j_pm214_2 rfl rfl hpd.1 hpd.2 (j_TW (D := D) I.2.2.1 I.2.1 hS I.2.2.2.2.1 _)
  obtain ⟨x9, rfl, rfl⟩ := hr2
  have hx9 : x9 = r9 := by injection (Option.some.inj hh)
  subst hx9
  obtain ⟨he2, -, d, hd, rr, p1, p2, p3, p4, -⟩ := hp2
  have e1 : rr 1 = (a2 : Int) := p1 1 (by show 1 < c_entryN j_c214_2; decide)
  have e2 : rr 2 = y1.toInt := p1 2 (by show 2 < c_entryN j_c214_2; decide)
  have e3 : rr 3 = y2.toInt := p1 3 (by show 3 < c_entryN j_c214_2; decide)
  have e4 : rr 4 = (nm : Int) := p1 4 (by show 4 < c_entryN j_c214_2; decide)
  have e5 : rr 5 = v := p1 5 (by show 5 < c_entryN j_c214_2; decide)
  have e6 : rr 6 = (tm : Int) := p1 6 (by show 6 < c_entryN j_c214_2; decide)
  have e7 : rr 7 = m0 := p1 7 (by show 7 < c_entryN j_c214_2; decide)
  have er : rr 8 = x9.toInt := p2 0 _ rfl
  have hd : d ∈ ct_post j_c214_2 := hd
  simp only [ct_post, j_c214_2, List.mem_cons, List.not_mem_nil, or_false] at hd
  rcases hd with rfl | rfl
  all_goals
    simp only [List.forall_mem_cons, c_ev, c_evs, List.not_mem_nil, false_implies, implies_true, and_true, e3, e5, e7, er] at p4
    omega
theorem k_readC7L {y1 y2 : Int32} {r9 : Int64} (I : k_In s D dA a1 a2 w H locs) (hS : k_S7 a1 a2 w rw nm r) (I1 : k_In s D dA a1 a2 w' H' locs') (hS1 : k_S7 a1 a2 w' rw nm r) (hj : j_Ex0 s D dA 127 w [.ref a1, .int y1, .int y2] H' [.long r9]) (hy : y1.toInt < 0) : r9.toInt = -1 := by
  have hpd := k_preD (ct := j_c127_12) (r := k_rv [(a1 : Int), y1.toInt, y2.toInt]) (vals := [.ref a1, .int y1, .int y2]) (w := j_w w a1 rw r (fun _ => (0 : Int))) (by decide +kernel) ⟨(by show (0 : Int) ≤ (4) + (0); omega), trivial⟩ ⟨k_aR (j_in_a1 hS _ I.2.2.2.2.1), ⟨_, rfl, rfl, y1.le_toInt, (by show y1.toInt ≤ (-1 : Int); omega)⟩, k_aI _, trivial⟩ trivial
  obtain ⟨rv2, res2, w2, hh, hr2, hp2, hP2, hD2, hT2⟩ := hj (j_c127_12, k_rv [(a1 : Int), y1.toInt, y2.toInt], j_tg w a1 rw r, fun _ => (0 : Int)) j_pm127_12 rfl rfl hpd.1 hpd.2 (j_TW (D := D) I.2.2.1 I.2.1 hS I.2.2.2.2.1 _)
  obtain ⟨x9, rfl, rfl⟩ := hr2
  have hx9 : x9 = r9 := by injection (Option.some.inj hh)
  subst hx9
  obtain ⟨he2, -, d, hd, rr, p1, p2, p3, p4, -⟩ := hp2
  have e1 : rr 1 = (a1 : Int) := p1 1 (by show 1 < c_entryN j_c127_12; decide)
  have e2 : rr 2 = y1.toInt := p1 2 (by show 2 < c_entryN j_c127_12; decide)
  have e3 : rr 3 = y2.toInt := p1 3 (by show 3 < c_entryN j_c127_12; decide)
  have er : rr 4 = x9.toInt := p2 0 _ rfl
  have hd : d ∈ ct_post j_c127_12 := hd
  simp only [ct_post, j_c127_12, List.mem_cons, List.not_mem_nil, or_false] at hd
  subst hd
  simp only [List.forall_mem_cons, c_ev, c_evs, List.not_mem_nil, false_implies, implies_true, and_true, er] at p4
  omega
theorem k_readC7H {y1 y2 : Int32} {r9 : Int64} (I : k_In s D dA a1 a2 w H locs) (hS : k_S7 a1 a2 w rw nm r) (I1 : k_In s D dA a1 a2 w' H' locs') (hS1 : k_S7 a1 a2 w' rw nm r) (hj : j_Ex0 s D dA 127 w [.ref a1, .int y1, .int y2] H' [.long r9]) (hy : 4 ≤ y1.toInt) : r9.toInt = -1 := by
  have hpd := k_preD (ct := j_c127_13) (r := k_rv [(a1 : Int), y1.toInt, y2.toInt]) (vals := [.ref a1, .int y1, .int y2]) (w := j_w w a1 rw r (fun _ => (0 : Int))) (by decide +kernel) ⟨(by show (0 : Int) ≤ (4) + (0); omega), trivial⟩ ⟨k_aR (j_in_a1 hS _ I.2.2.2.2.1), ⟨_, rfl, rfl, (by show (4 : Int) ≤ y1.toInt; omega), (by have := y1.toInt_lt; show y1.toInt ≤ (2147483647 : Int); omega)⟩, k_aI _, trivial⟩ trivial
  obtain ⟨rv2, res2, w2, hh, hr2, hp2, hP2, hD2, hT2⟩ := hj (j_c127_13, k_rv [(a1 : Int), y1.toInt, y2.toInt], j_tg w a1 rw r, fun _ => (0 : Int)) j_pm127_13 rfl rfl hpd.1 hpd.2 (j_TW (D := D) I.2.2.1 I.2.1 hS I.2.2.2.2.1 _)
  obtain ⟨x9, rfl, rfl⟩ := hr2
  have hx9 : x9 = r9 := by injection (Option.some.inj hh)
  subst hx9
  obtain ⟨he2, -, d, hd, rr, p1, p2, p3, p4, -⟩ := hp2
  have e1 : rr 1 = (a1 : Int) := p1 1 (by show 1 < c_entryN j_c127_13; decide)
  have e2 : rr 2 = y1.toInt := p1 2 (by show 2 < c_entryN j_c127_13; decide)
  have e3 : rr 3 = y2.toInt := p1 3 (by show 3 < c_entryN j_c127_13; decide)
  have er : rr 4 = x9.toInt := p2 0 _ rfl
  have hd : d ∈ ct_post j_c127_13 := hd
  simp only [ct_post, j_c127_13, List.mem_cons, List.not_mem_nil, or_false] at hd
  subst hd
  simp only [List.forall_mem_cons, c_ev, c_evs, List.not_mem_nil, false_implies, implies_true, and_true, er] at p4
  omega
theorem k_readM7L {y1 y2 : Int32} {r9 : Int64} (I : k_In s D dA a1 a2 w H locs) (hS : k_S7 a1 a2 w rw nm r) (I1 : k_In s D dA a1 a2 w' H' locs') (hS1 : k_S7 a1 a2 w' rw nm r) (hj : j_Ex0 s D dA 214 w [.ref a2, .int y1, .int y2] H' [.long r9]) (hy : y1.toInt < 0) : r9.toInt = -1 := by
  have hpd := k_preD (ct := j_c214_0) (r := k_rv [(a2 : Int), y1.toInt, y2.toInt]) (vals := [.ref a2, .int y1, .int y2]) (w := j_w w a1 rw r (fun _ => (0 : Int))) (by decide +kernel) ⟨(by show (0 : Int) ≤ (4) + (0); omega), trivial⟩ ⟨k_aR (j_in_keep hS _ (by decide) (by decide) (by decide) (by decide) I.2.2.2.2.2.1), ⟨_, rfl, rfl, y1.le_toInt, (by show y1.toInt ≤ (-1 : Int); omega)⟩, k_aI _, trivial⟩ trivial
  obtain ⟨rv2, res2, w2, hh, hr2, hp2, hP2, hD2, hT2⟩ := hj (j_c214_0, k_rv [(a2 : Int), y1.toInt, y2.toInt], j_tg w a1 rw r, fun _ => (0 : Int)) j_pm214_0 rfl rfl hpd.1 hpd.2 (j_TW (D := D) I.2.2.1 I.2.1 hS I.2.2.2.2.1 _)
  obtain ⟨x9, rfl, rfl⟩ := hr2
  have hx9 : x9 = r9 := by injection (Option.some.inj hh)
  subst hx9
  obtain ⟨he2, -, d, hd, rr, p1, p2, p3, p4, -⟩ := hp2
  have e1 : rr 1 = (a2 : Int) := p1 1 (by show 1 < c_entryN j_c214_0; decide)
  have e2 : rr 2 = y1.toInt := p1 2 (by show 2 < c_entryN j_c214_0; decide)
  have e3 : rr 3 = y2.toInt := p1 3 (by show 3 < c_entryN j_c214_0; decide)
  have er : rr 4 = x9.toInt := p2 0 _ rfl
  have hd : d ∈ ct_post j_c214_0 := hd
  simp only [ct_post, j_c214_0, List.mem_cons, List.not_mem_nil, or_false] at hd
  subst hd
  simp only [List.forall_mem_cons, c_ev, c_evs, List.not_mem_nil, false_implies, implies_true, and_true, er] at p4
  omega
theorem k_readM7H {y1 y2 : Int32} {r9 : Int64} (I : k_In s D dA a1 a2 w H locs) (hS : k_S7 a1 a2 w rw nm r) (I1 : k_In s D dA a1 a2 w' H' locs') (hS1 : k_S7 a1 a2 w' rw nm r) (hj : j_Ex0 s D dA 214 w [.ref a2, .int y1, .int y2] H' [.long r9]) (hy : 4 ≤ y1.toInt) : r9.toInt = -1 := by
  have hpd := k_preD (ct := j_c214_1) (r := k_rv [(a2 : Int), y1.toInt, y2.toInt]) (vals := [.ref a2, .int y1, .int y2]) (w := j_w w a1 rw r (fun _ => (0 : Int))) (by decide +kernel) ⟨(by show (0 : Int) ≤ (4) + (0); omega), trivial⟩ ⟨k_aR (j_in_keep hS _ (by decide) (by decide) (by decide) (by decide) I.2.2.2.2.2.1), ⟨_, rfl, rfl, (by show (4 : Int) ≤ y1.toInt; omega), (by have := y1.toInt_lt; show y1.toInt ≤ (2147483647 : Int); omega)⟩, k_aI _, trivial⟩ trivial
  obtain ⟨rv2, res2, w2, hh, hr2, hp2, hP2, hD2, hT2⟩ := hj (j_c214_1, k_rv [(a2 : Int), y1.toInt, y2.toInt], j_tg w a1 rw r, fun _ => (0 : Int)) j_pm214_1 rfl rfl hpd.1 hpd.2 (j_TW (D := D) I.2.2.1 I.2.1 hS I.2.2.2.2.1 _)
  obtain ⟨x9, rfl, rfl⟩ := hr2
  have hx9 : x9 = r9 := by injection (Option.some.inj hh)
  subst hx9
  obtain ⟨he2, -, d, hd, rr, p1, p2, p3, p4, -⟩ := hp2
  have e1 : rr 1 = (a2 : Int) := p1 1 (by show 1 < c_entryN j_c214_1; decide)
  have e2 : rr 2 = y1.toInt := p1 2 (by show 2 < c_entryN j_c214_1; decide)
  have e3 : rr 3 = y2.toInt := p1 3 (by show 3 < c_entryN j_c214_1; decide)
  have er : rr 4 = x9.toInt := p2 0 _ rfl
  have hd : d ∈ ct_post j_c214_1 := hd
  simp only [ct_post, j_c214_1, List.mem_cons, List.not_mem_nil, or_false] at hd
  subst hd
  simp only [List.forall_mem_cons, c_ev, c_evs, List.not_mem_nil, false_implies, implies_true, and_true, er] at p4
  omega
theorem k_readM7n {y1 y2 : Int32} {r9 : Int64} (I : k_In s D dA a1 a2 w H locs) (hS : k_S7 a1 a2 w rw nm r) (I1 : k_In s D dA a1 a2 w' H' locs') (hS1 : k_S7 a1 a2 w' rw nm r) (hj : j_Ex0 s D dA 214 w [.ref a2, .int y1, .int y2] H' [.long r9]) (h0 : 0 ≤ y1.toInt) (h3 : y1.toInt ≤ 3) (hy : y2.toInt < 0) : r9.toInt = -1 := by
  have hpd := k_preD (ct := j_c214_3) (r := k_rv [(a2 : Int), y1.toInt, y2.toInt]) (vals := [.ref a2, .int y1, .int y2]) (w := j_w w a1 rw r (fun _ => (0 : Int))) (by decide +kernel) ⟨(by show (0 : Int) ≤ (4) + (0); omega), trivial⟩ ⟨k_aR (j_in_keep hS _ (by decide) (by decide) (by decide) (by decide) I.2.2.2.2.2.1), ⟨_, rfl, rfl, (by show (0 : Int) ≤ y1.toInt; omega), (by show y1.toInt ≤ (3 : Int); omega)⟩, ⟨_, rfl, rfl, y2.le_toInt, (by show y2.toInt ≤ (-1 : Int); omega)⟩, trivial⟩ trivial
  obtain ⟨rv2, res2, w2, hh, hr2, hp2, hP2, hD2, hT2⟩ := hj (j_c214_3, k_rv [(a2 : Int), y1.toInt, y2.toInt], j_tg w a1 rw r, fun _ => (0 : Int)) j_pm214_3 rfl rfl hpd.1 hpd.2 (j_TW (D := D) I.2.2.1 I.2.1 hS I.2.2.2.2.1 _)
  obtain ⟨x9, rfl, rfl⟩ := hr2
  have hx9 : x9 = r9 := by injection (Option.some.inj hh)
  subst hx9
  obtain ⟨he2, -, d, hd, rr, p1, p2, p3, p4, -⟩ := hp2
  have e1 : rr 1 = (a2 : Int) := p1 1 (by show 1 < c_entryN j_c214_3; decide)
  have e2 : rr 2 = y1.toInt := p1 2 (by show 2 < c_entryN j_c214_3; decide)
  have e3 : rr 3 = y2.toInt := p1 3 (by show 3 < c_entryN j_c214_3; decide)
  have er : rr 4 = x9.toInt := p2 0 _ rfl
  have hd : d ∈ ct_post j_c214_3 := hd
  simp only [ct_post, j_c214_3, List.mem_cons, List.not_mem_nil, or_false] at hd
  subst hd
  simp only [List.forall_mem_cons, c_ev, c_evs, List.not_mem_nil, false_implies, implies_true, and_true, er] at p4
  omega
theorem k_readM7p {y1 y2 : Int32} {r9 : Int64} (I : k_In s D dA a1 a2 w H locs) (hS : k_S7 a1 a2 w rw nm r) (I1 : k_In s D dA a1 a2 w' H' locs') (hS1 : k_S7 a1 a2 w' rw nm r) (hj : j_Ex0 s D dA 214 w [.ref a2, .int y1, .int y2] H' [.long r9]) (h0 : 0 ≤ y1.toInt) (h3 : y1.toInt ≤ 3) (hy : 60 ≤ y2.toInt) : r9.toInt = -1 := by
  have hpd := k_preD (ct := j_c214_4) (r := k_rv [(a2 : Int), y1.toInt, y2.toInt]) (vals := [.ref a2, .int y1, .int y2]) (w := j_w w a1 rw r (fun _ => (0 : Int))) (by decide +kernel) ⟨(by show (0 : Int) ≤ (4) + (0); omega), trivial⟩ ⟨k_aR (j_in_keep hS _ (by decide) (by decide) (by decide) (by decide) I.2.2.2.2.2.1), ⟨_, rfl, rfl, (by show (0 : Int) ≤ y1.toInt; omega), (by show y1.toInt ≤ (3 : Int); omega)⟩, ⟨_, rfl, rfl, (by show (60 : Int) ≤ y2.toInt; omega), (by have := y2.toInt_lt; show y2.toInt ≤ (2147483647 : Int); omega)⟩, trivial⟩ trivial
  obtain ⟨rv2, res2, w2, hh, hr2, hp2, hP2, hD2, hT2⟩ := hj (j_c214_4, k_rv [(a2 : Int), y1.toInt, y2.toInt], j_tg w a1 rw r, fun _ => (0 : Int)) j_pm214_4 rfl rfl hpd.1 hpd.2 (j_TW (D := D) I.2.2.1 I.2.1 hS I.2.2.2.2.1 _)
  obtain ⟨x9, rfl, rfl⟩ := hr2
  have hx9 : x9 = r9 := by injection (Option.some.inj hh)
  subst hx9
  obtain ⟨he2, -, d, hd, rr, p1, p2, p3, p4, -⟩ := hp2
  have e1 : rr 1 = (a2 : Int) := p1 1 (by show 1 < c_entryN j_c214_4; decide)
  have e2 : rr 2 = y1.toInt := p1 2 (by show 2 < c_entryN j_c214_4; decide)
  have e3 : rr 3 = y2.toInt := p1 3 (by show 3 < c_entryN j_c214_4; decide)
  have er : rr 4 = x9.toInt := p2 0 _ rfl
  have hd : d ∈ ct_post j_c214_4 := hd
  simp only [ct_post, j_c214_4, List.mem_cons, List.not_mem_nil, or_false] at hd
  subst hd
  simp only [List.forall_mem_cons, c_ev, c_evs, List.not_mem_nil, false_implies, implies_true, and_true, er] at p4
  omega
theorem k_readC7n0 {y1 y2 : Int32} {r9 : Int64} (I : k_In s D dA a1 a2 w H locs) (hS : k_S7 a1 a2 w rw nm r) (I1 : k_In s D dA a1 a2 w' H' locs') (hS1 : k_S7 a1 a2 w' rw nm r) (hj : j_Ex0 s D dA 127 w [.ref a1, .int y1, .int y2] H' [.long r9]) (hy1 : y1.toInt = 0) (hy : y2.toInt < 0) : r9.toInt = -1 := by
  have hpd := k_preD (ct := j_c127_1) (r := k_rv [(a1 : Int), (0 : Int), y2.toInt]) (vals := [.ref a1, .int y1, .int y2]) (w := j_w w a1 rw r (fun _ => (0 : Int))) (by decide +kernel) ⟨(by show (0 : Int) ≤ (4) + (0); omega), trivial⟩ ⟨k_aR (j_in_a1 hS _ I.2.2.2.2.1), ⟨_, rfl, hy1, Int.le_refl _, Int.le_refl _⟩, ⟨_, rfl, rfl, y2.le_toInt, (by show y2.toInt ≤ (-1 : Int); omega)⟩, trivial⟩ trivial
  obtain ⟨rv2, res2, w2, hh, hr2, hp2, hP2, hD2, hT2⟩ := hj (j_c127_1, k_rv [(a1 : Int), (0 : Int), y2.toInt], j_tg w a1 rw r, fun _ => (0 : Int)) j_pm127_1 rfl rfl hpd.1 hpd.2 (j_TW (D := D) I.2.2.1 I.2.1 hS I.2.2.2.2.1 _)
  obtain ⟨x9, rfl, rfl⟩ := hr2
  have hx9 : x9 = r9 := by injection (Option.some.inj hh)
  subst hx9
  obtain ⟨he2, -, d, hd, rr, p1, p2, p3, p4, -⟩ := hp2
  have e1 : rr 1 = (a1 : Int) := p1 1 (by show 1 < c_entryN j_c127_1; decide)
  have e2 : rr 2 = (0 : Int) := p1 2 (by show 2 < c_entryN j_c127_1; decide)
  have e3 : rr 3 = y2.toInt := p1 3 (by show 3 < c_entryN j_c127_1; decide)
  have er : rr 4 = x9.toInt := p2 0 _ rfl
  have hd : d ∈ ct_post j_c127_1 := hd
  simp only [ct_post, j_c127_1, List.mem_cons, List.not_mem_nil, or_false] at hd
  subst hd
  simp only [List.forall_mem_cons, c_ev, c_evs, List.not_mem_nil, false_implies, implies_true, and_true, er] at p4
  omega
theorem k_readC7p0 {y1 y2 : Int32} {r9 : Int64} (I : k_In s D dA a1 a2 w H locs) (hS : k_S7 a1 a2 w rw nm r) (I1 : k_In s D dA a1 a2 w' H' locs') (hS1 : k_S7 a1 a2 w' rw nm r) (hj : j_Ex0 s D dA 127 w [.ref a1, .int y1, .int y2] H' [.long r9]) (hy1 : y1.toInt = 0) (hy : 60 ≤ y2.toInt) : r9.toInt = -1 := by
  have hpd := k_preD (ct := j_c127_2) (r := k_rv [(a1 : Int), (0 : Int), y2.toInt]) (vals := [.ref a1, .int y1, .int y2]) (w := j_w w a1 rw r (fun _ => (0 : Int))) (by decide +kernel) ⟨(by show (0 : Int) ≤ (4) + (0); omega), trivial⟩ ⟨k_aR (j_in_a1 hS _ I.2.2.2.2.1), ⟨_, rfl, hy1, Int.le_refl _, Int.le_refl _⟩, ⟨_, rfl, rfl, (by show (60 : Int) ≤ y2.toInt; omega), (by have := y2.toInt_lt; show y2.toInt ≤ (2147483647 : Int); omega)⟩, trivial⟩ trivial
  obtain ⟨rv2, res2, w2, hh, hr2, hp2, hP2, hD2, hT2⟩ := hj (j_c127_2, k_rv [(a1 : Int), (0 : Int), y2.toInt], j_tg w a1 rw r, fun _ => (0 : Int)) j_pm127_2 rfl rfl hpd.1 hpd.2 (j_TW (D := D) I.2.2.1 I.2.1 hS I.2.2.2.2.1 _)
  obtain ⟨x9, rfl, rfl⟩ := hr2
  have hx9 : x9 = r9 := by injection (Option.some.inj hh)
  subst hx9
  obtain ⟨he2, -, d, hd, rr, p1, p2, p3, p4, -⟩ := hp2
  have e1 : rr 1 = (a1 : Int) := p1 1 (by show 1 < c_entryN j_c127_2; decide)
  have e2 : rr 2 = (0 : Int) := p1 2 (by show 2 < c_entryN j_c127_2; decide)
  have e3 : rr 3 = y2.toInt := p1 3 (by show 3 < c_entryN j_c127_2; decide)
  have er : rr 4 = x9.toInt := p2 0 _ rfl
  have hd : d ∈ ct_post j_c127_2 := hd
  simp only [ct_post, j_c127_2, List.mem_cons, List.not_mem_nil, or_false] at hd
  subst hd
  simp only [List.forall_mem_cons, c_ev, c_evs, List.not_mem_nil, false_implies, implies_true, and_true, er] at p4
  omega
theorem k_readC7n1 {y1 y2 : Int32} {r9 : Int64} (I : k_In s D dA a1 a2 w H locs) (hS : k_S7 a1 a2 w rw nm r) (I1 : k_In s D dA a1 a2 w' H' locs') (hS1 : k_S7 a1 a2 w' rw nm r) (hj : j_Ex0 s D dA 127 w [.ref a1, .int y1, .int y2] H' [.long r9]) (hy1 : y1.toInt = 1) (hy : y2.toInt < 0) : r9.toInt = -1 := by
  have hpd := k_preD (ct := j_c127_4) (r := k_rv [(a1 : Int), (1 : Int), y2.toInt]) (vals := [.ref a1, .int y1, .int y2]) (w := j_w w a1 rw r (fun _ => (0 : Int))) (by decide +kernel) ⟨(by show (0 : Int) ≤ (4) + (0); omega), trivial⟩ ⟨k_aR (j_in_a1 hS _ I.2.2.2.2.1), ⟨_, rfl, hy1, Int.le_refl _, Int.le_refl _⟩, ⟨_, rfl, rfl, y2.le_toInt, (by show y2.toInt ≤ (-1 : Int); omega)⟩, trivial⟩ trivial
  obtain ⟨rv2, res2, w2, hh, hr2, hp2, hP2, hD2, hT2⟩ := hj (j_c127_4, k_rv [(a1 : Int), (1 : Int), y2.toInt], j_tg w a1 rw r, fun _ => (0 : Int)) j_pm127_4 rfl rfl hpd.1 hpd.2 (j_TW (D := D) I.2.2.1 I.2.1 hS I.2.2.2.2.1 _)
  obtain ⟨x9, rfl, rfl⟩ := hr2
  have hx9 : x9 = r9 := by injection (Option.some.inj hh)
  subst hx9
  obtain ⟨he2, -, d, hd, rr, p1, p2, p3, p4, -⟩ := hp2
  have e1 : rr 1 = (a1 : Int) := p1 1 (by show 1 < c_entryN j_c127_4; decide)
  have e2 : rr 2 = (1 : Int) := p1 2 (by show 2 < c_entryN j_c127_4; decide)
  have e3 : rr 3 = y2.toInt := p1 3 (by show 3 < c_entryN j_c127_4; decide)
  have er : rr 4 = x9.toInt := p2 0 _ rfl
  have hd : d ∈ ct_post j_c127_4 := hd
  simp only [ct_post, j_c127_4, List.mem_cons, List.not_mem_nil, or_false] at hd
  subst hd
  simp only [List.forall_mem_cons, c_ev, c_evs, List.not_mem_nil, false_implies, implies_true, and_true, er] at p4
  omega
theorem k_readC7p1 {y1 y2 : Int32} {r9 : Int64} (I : k_In s D dA a1 a2 w H locs) (hS : k_S7 a1 a2 w rw nm r) (I1 : k_In s D dA a1 a2 w' H' locs') (hS1 : k_S7 a1 a2 w' rw nm r) (hj : j_Ex0 s D dA 127 w [.ref a1, .int y1, .int y2] H' [.long r9]) (hy1 : y1.toInt = 1) (hy : 60 ≤ y2.toInt) : r9.toInt = -1 := by
  have hpd := k_preD (ct := j_c127_5) (r := k_rv [(a1 : Int), (1 : Int), y2.toInt]) (vals := [.ref a1, .int y1, .int y2]) (w := j_w w a1 rw r (fun _ => (0 : Int))) (by decide +kernel) ⟨(by show (0 : Int) ≤ (4) + (0); omega), trivial⟩ ⟨k_aR (j_in_a1 hS _ I.2.2.2.2.1), ⟨_, rfl, hy1, Int.le_refl _, Int.le_refl _⟩, ⟨_, rfl, rfl, (by show (60 : Int) ≤ y2.toInt; omega), (by have := y2.toInt_lt; show y2.toInt ≤ (2147483647 : Int); omega)⟩, trivial⟩ trivial
  obtain ⟨rv2, res2, w2, hh, hr2, hp2, hP2, hD2, hT2⟩ := hj (j_c127_5, k_rv [(a1 : Int), (1 : Int), y2.toInt], j_tg w a1 rw r, fun _ => (0 : Int)) j_pm127_5 rfl rfl hpd.1 hpd.2 (j_TW (D := D) I.2.2.1 I.2.1 hS I.2.2.2.2.1 _)
  obtain ⟨x9, rfl, rfl⟩ := hr2
  have hx9 : x9 = r9 := by injection (Option.some.inj hh)
  subst hx9
  obtain ⟨he2, -, d, hd, rr, p1, p2, p3, p4, -⟩ := hp2
  have e1 : rr 1 = (a1 : Int) := p1 1 (by show 1 < c_entryN j_c127_5; decide)
  have e2 : rr 2 = (1 : Int) := p1 2 (by show 2 < c_entryN j_c127_5; decide)
  have e3 : rr 3 = y2.toInt := p1 3 (by show 3 < c_entryN j_c127_5; decide)
  have er : rr 4 = x9.toInt := p2 0 _ rfl
  have hd : d ∈ ct_post j_c127_5 := hd
  simp only [ct_post, j_c127_5, List.mem_cons, List.not_mem_nil, or_false] at hd
  subst hd
  simp only [List.forall_mem_cons, c_ev, c_evs, List.not_mem_nil, false_implies, implies_true, and_true, er] at p4
  omega
theorem k_readC7n2 {y1 y2 : Int32} {r9 : Int64} (I : k_In s D dA a1 a2 w H locs) (hS : k_S7 a1 a2 w rw nm r) (I1 : k_In s D dA a1 a2 w' H' locs') (hS1 : k_S7 a1 a2 w' rw nm r) (hj : j_Ex0 s D dA 127 w [.ref a1, .int y1, .int y2] H' [.long r9]) (hy1 : y1.toInt = 2) (hy : y2.toInt < 0) : r9.toInt = -1 := by
  have hpd := k_preD (ct := j_c127_7) (r := k_rv [(a1 : Int), (2 : Int), y2.toInt]) (vals := [.ref a1, .int y1, .int y2]) (w := j_w w a1 rw r (fun _ => (0 : Int))) (by decide +kernel) ⟨(by show (0 : Int) ≤ (4) + (0); omega), trivial⟩ ⟨k_aR (j_in_a1 hS _ I.2.2.2.2.1), ⟨_, rfl, hy1, Int.le_refl _, Int.le_refl _⟩, ⟨_, rfl, rfl, y2.le_toInt, (by show y2.toInt ≤ (-1 : Int); omega)⟩, trivial⟩ trivial
  obtain ⟨rv2, res2, w2, hh, hr2, hp2, hP2, hD2, hT2⟩ := hj (j_c127_7, k_rv [(a1 : Int), (2 : Int), y2.toInt], j_tg w a1 rw r, fun _ => (0 : Int)) j_pm127_7 rfl rfl hpd.1 hpd.2 (j_TW (D := D) I.2.2.1 I.2.1 hS I.2.2.2.2.1 _)
  obtain ⟨x9, rfl, rfl⟩ := hr2
  have hx9 : x9 = r9 := by injection (Option.some.inj hh)
  subst hx9
  obtain ⟨he2, -, d, hd, rr, p1, p2, p3, p4, -⟩ := hp2
  have e1 : rr 1 = (a1 : Int) := p1 1 (by show 1 < c_entryN j_c127_7; decide)
  have e2 : rr 2 = (2 : Int) := p1 2 (by show 2 < c_entryN j_c127_7; decide)
  have e3 : rr 3 = y2.toInt := p1 3 (by show 3 < c_entryN j_c127_7; decide)
  have er : rr 4 = x9.toInt := p2 0 _ rfl
  have hd : d ∈ ct_post j_c127_7 := hd
  simp only [ct_post, j_c127_7, List.mem_cons, List.not_mem_nil, or_false] at hd
  subst hd
  simp only [List.forall_mem_cons, c_ev, c_evs, List.not_mem_nil, false_implies, implies_true, and_true, er] at p4
  omega
theorem k_readC7p2 {y1 y2 : Int32} {r9 : Int64} (I : k_In s D dA a1 a2 w H locs) (hS : k_S7 a1 a2 w rw nm r) (I1 : k_In s D dA a1 a2 w' H' locs') (hS1 : k_S7 a1 a2 w' rw nm r) (hj : j_Ex0 s D dA 127 w [.ref a1, .int y1, .int y2] H' [.long r9]) (hy1 : y1.toInt = 2) (hy : 60 ≤ y2.toInt) : r9.toInt = -1 := by
  have hpd := k_preD (ct := j_c127_8) (r := k_rv [(a1 : Int), (2 : Int), y2.toInt]) (vals := [.ref a1, .int y1, .int y2]) (w := j_w w a1 rw r (fun _ => (0 : Int))) (by decide +kernel) ⟨(by show (0 : Int) ≤ (4) + (0); omega), trivial⟩ ⟨k_aR (j_in_a1 hS _ I.2.2.2.2.1), ⟨_, rfl, hy1, Int.le_refl _, Int.le_refl _⟩, ⟨_, rfl, rfl, (by show (60 : Int) ≤ y2.toInt; omega), (by have := y2.toInt_lt; show y2.toInt ≤ (2147483647 : Int); omega)⟩, trivial⟩ trivial
  obtain ⟨rv2, res2, w2, hh, hr2, hp2, hP2, hD2, hT2⟩ := hj (j_c127_8, k_rv [(a1 : Int), (2 : Int), y2.toInt], j_tg w a1 rw r, fun _ => (0 : Int)) j_pm127_8 rfl rfl hpd.1 hpd.2 (j_TW (D := D) I.2.2.1 I.2.1 hS I.2.2.2.2.1 _)
  obtain ⟨x9, rfl, rfl⟩ := hr2
  have hx9 : x9 = r9 := by injection (Option.some.inj hh)
  subst hx9
  obtain ⟨he2, -, d, hd, rr, p1, p2, p3, p4, -⟩ := hp2
  have e1 : rr 1 = (a1 : Int) := p1 1 (by show 1 < c_entryN j_c127_8; decide)
  have e2 : rr 2 = (2 : Int) := p1 2 (by show 2 < c_entryN j_c127_8; decide)
  have e3 : rr 3 = y2.toInt := p1 3 (by show 3 < c_entryN j_c127_8; decide)
  have er : rr 4 = x9.toInt := p2 0 _ rfl
  have hd : d ∈ ct_post j_c127_8 := hd
  simp only [ct_post, j_c127_8, List.mem_cons, List.not_mem_nil, or_false] at hd
  subst hd
  simp only [List.forall_mem_cons, c_ev, c_evs, List.not_mem_nil, false_implies, implies_true, and_true, er] at p4
  omega
theorem k_readC7n3 {y1 y2 : Int32} {r9 : Int64} (I : k_In s D dA a1 a2 w H locs) (hS : k_S7 a1 a2 w rw nm r) (I1 : k_In s D dA a1 a2 w' H' locs') (hS1 : k_S7 a1 a2 w' rw nm r) (hj : j_Ex0 s D dA 127 w [.ref a1, .int y1, .int y2] H' [.long r9]) (hy1 : y1.toInt = 3) (hy : y2.toInt < 0) : r9.toInt = -1 := by
  have hpd := k_preD (ct := j_c127_10) (r := k_rv [(a1 : Int), (3 : Int), y2.toInt]) (vals := [.ref a1, .int y1, .int y2]) (w := j_w w a1 rw r (fun _ => (0 : Int))) (by decide +kernel) ⟨(by show (0 : Int) ≤ (4) + (0); omega), trivial⟩ ⟨k_aR (j_in_a1 hS _ I.2.2.2.2.1), ⟨_, rfl, hy1, Int.le_refl _, Int.le_refl _⟩, ⟨_, rfl, rfl, y2.le_toInt, (by show y2.toInt ≤ (-1 : Int); omega)⟩, trivial⟩ trivial
  obtain ⟨rv2, res2, w2, hh, hr2, hp2, hP2, hD2, hT2⟩ := hj (j_c127_10, k_rv [(a1 : Int), (3 : Int), y2.toInt], j_tg w a1 rw r, fun _ => (0 : Int)) j_pm127_10 rfl rfl hpd.1 hpd.2 (j_TW (D := D) I.2.2.1 I.2.1 hS I.2.2.2.2.1 _)
  obtain ⟨x9, rfl, rfl⟩ := hr2
  have hx9 : x9 = r9 := by injection (Option.some.inj hh)
  subst hx9
  obtain ⟨he2, -, d, hd, rr, p1, p2, p3, p4, -⟩ := hp2
  have e1 : rr 1 = (a1 : Int) := p1 1 (by show 1 < c_entryN j_c127_10; decide)
  have e2 : rr 2 = (3 : Int) := p1 2 (by show 2 < c_entryN j_c127_10; decide)
  have e3 : rr 3 = y2.toInt := p1 3 (by show 3 < c_entryN j_c127_10; decide)
  have er : rr 4 = x9.toInt := p2 0 _ rfl
  have hd : d ∈ ct_post j_c127_10 := hd
  simp only [ct_post, j_c127_10, List.mem_cons, List.not_mem_nil, or_false] at hd
  subst hd
  simp only [List.forall_mem_cons, c_ev, c_evs, List.not_mem_nil, false_implies, implies_true, and_true, er] at p4
  omega
theorem k_readC7p3 {y1 y2 : Int32} {r9 : Int64} (I : k_In s D dA a1 a2 w H locs) (hS : k_S7 a1 a2 w rw nm r) (I1 : k_In s D dA a1 a2 w' H' locs') (hS1 : k_S7 a1 a2 w' rw nm r) (hj : j_Ex0 s D dA 127 w [.ref a1, .int y1, .int y2] H' [.long r9]) (hy1 : y1.toInt = 3) (hy : 60 ≤ y2.toInt) : r9.toInt = -1 := by
  have hpd := k_preD (ct := j_c127_11) (r := k_rv [(a1 : Int), (3 : Int), y2.toInt]) (vals := [.ref a1, .int y1, .int y2]) (w := j_w w a1 rw r (fun _ => (0 : Int))) (by decide +kernel) ⟨(by show (0 : Int) ≤ (4) + (0); omega), trivial⟩ ⟨k_aR (j_in_a1 hS _ I.2.2.2.2.1), ⟨_, rfl, hy1, Int.le_refl _, Int.le_refl _⟩, ⟨_, rfl, rfl, (by show (60 : Int) ≤ y2.toInt; omega), (by have := y2.toInt_lt; show y2.toInt ≤ (2147483647 : Int); omega)⟩, trivial⟩ trivial
  obtain ⟨rv2, res2, w2, hh, hr2, hp2, hP2, hD2, hT2⟩ := hj (j_c127_11, k_rv [(a1 : Int), (3 : Int), y2.toInt], j_tg w a1 rw r, fun _ => (0 : Int)) j_pm127_11 rfl rfl hpd.1 hpd.2 (j_TW (D := D) I.2.2.1 I.2.1 hS I.2.2.2.2.1 _)
  obtain ⟨x9, rfl, rfl⟩ := hr2
  have hx9 : x9 = r9 := by injection (Option.some.inj hh)
  subst hx9
  obtain ⟨he2, -, d, hd, rr, p1, p2, p3, p4, -⟩ := hp2
  have e1 : rr 1 = (a1 : Int) := p1 1 (by show 1 < c_entryN j_c127_11; decide)
  have e2 : rr 2 = (3 : Int) := p1 2 (by show 2 < c_entryN j_c127_11; decide)
  have e3 : rr 3 = y2.toInt := p1 3 (by show 3 < c_entryN j_c127_11; decide)
  have er : rr 4 = x9.toInt := p2 0 _ rfl
  have hd : d ∈ ct_post j_c127_11 := hd
  simp only [ct_post, j_c127_11, List.mem_cons, List.not_mem_nil, or_false] at hd
  subst hd
  simp only [List.forall_mem_cons, c_ev, c_evs, List.not_mem_nil, false_implies, implies_true, and_true, er] at p4
  omega
def k_tr7 (w : cWld) (so si tm ts rt nm t : Nat) : Prop := ∃ s z m u : Int, k_fn w so 14 t s ∧ k_fn w si 15 t z ∧ k_fn w tm 60 t m ∧ k_fn w ts 59 t u ∧ k_tq s z m u ∧ ∀ k : Nat, k < 60 → (k : Int) < m → ∃ v : Int, k_fn w rt 17 k v ∧ k_fn w nm 61 (60 * t + k) v
def k_R (a1 a2 : Nat) (w : cWld) : Prop := ∃ (so si tm ts rw nm : Nat) (r : Nat → Nat), k_T a1 a2 w so si tm ts ∧ k_S7 a1 a2 w rw nm r ∧ ∀ t, t < 4 → k_tr7 w so si tm ts (r t) nm t
def k_off7 (E : cEff) : Bool := c_off E 12 3 3 && k_none E 18 && c_off E 13 6 6
def k_offR (E : cEff) : Bool := k_off6 E && k_off7 E && k_none E 17 && k_none E 61
theorem k_S7K {E : cEff} {pros : List Nat} (h : c_ext E pros w w') (hp : pros.all (fun t => Nat.ble 101 t) = true) (hE : k_off7 E = true) (hS : k_S7 a1 a2 w rw nm r) : k_S7 a1 a2 w' rw nm r := by
  unfold k_off7 at hE
  rw [Bool.and_eq_true, Bool.and_eq_true] at hE
  obtain ⟨⟨e1, e2⟩, e3⟩ := hE
  obtain ⟨h1, h2, h3, h4, h5, h6⟩ := hS
  exact ⟨k_fnK h hp (by decide) e1 h1, k_inK h hp (by decide) h2, fun t ht => ⟨k_fnK h hp (by decide) (k_none_ok e2 _ _) (h3 t ht).1, k_inK h hp (by decide) (h3 t ht).2⟩, h4, k_fnK h hp (by decide) e3 h5, k_inK h hp (by decide) h6⟩
theorem k_RK {E : cEff} {pros : List Nat} (h : c_ext E pros w w') (hp : pros.all (fun t => Nat.ble 101 t) = true) (hE : k_offR E = true) (hR : k_R a1 a2 w) : k_R a1 a2 w' := by
  unfold k_offR at hE
  rw [Bool.and_eq_true, Bool.and_eq_true, Bool.and_eq_true] at hE
  obtain ⟨⟨⟨e0, e7⟩, e1⟩, e2⟩ := hE
  unfold k_off6 at e0
  rw [Bool.and_eq_true, Bool.and_eq_true, Bool.and_eq_true, Bool.and_eq_true] at e0
  obtain ⟨⟨⟨⟨f0, f1⟩, f2⟩, f3⟩, f4⟩ := e0
  obtain ⟨so, si, tm, ts, rw, nm, r, hT, hS, hq⟩ := hR
  refine ⟨so, si, tm, ts, rw, nm, r, k_TK h hp f0 hT, k_S7K h hp e7 hS, fun t ht => ?_⟩
  obtain ⟨s, z, m, u, h1, h2, h3, h4, h5, h6⟩ := hq t ht
  refine ⟨s, z, m, u, k_fnK h hp (by decide) (k_none_ok f1 _ _) h1, k_fnK h hp (by decide) (k_none_ok f2 _ _) h2, k_fnK h hp (by decide) (k_none_ok f4 _ _) h3, k_fnK h hp (by decide) (k_none_ok f3 _ _) h4, h5, fun k hk hm => ?_⟩
  obtain ⟨v, v1, v2⟩ := h6 k hk hm
  exact ⟨v, k_fnK h hp (by decide) (k_none_ok e1 _ _) v1, k_fnK h hp (by decide) (k_none_ok e2 _ _) v2⟩
theorem k_cutEx (x : Int64) : ∃ q1 q2 q3 : Int, (-1099511627776 ≤ q1 ∧ q1 ≤ 1099511627776) ∧ (-1099511627776 ≤ q2 ∧ q2 ≤ 1099511627776) ∧ (-1099511627776 ≤ q3 ∧ q3 ≤ 1099511627776) ∧ (-2147483648 ≤ x.toInt - 4294967296 * q1 ∧ x.toInt - 4294967296 * q1 ≤ 2147483647) ∧ (-128 ≤ x.toInt - 4294967296 * q1 - 256 * q2 ∧ x.toInt - 4294967296 * q1 - 256 * q2 ≤ 127) ∧ (-32768 ≤ x.toInt - 4294967296 * q1 - 65536 * q3 ∧ x.toInt - 4294967296 * q1 - 65536 * q3 ≤ 32767) := by
  have h1 := x.le_toInt
  have h2 := x.toInt_lt
  refine ⟨(x.toInt + 2147483648) / 4294967296, (x.toInt - 4294967296 * ((x.toInt + 2147483648) / 4294967296) + 128) / 256, (x.toInt - 4294967296 * ((x.toInt + 2147483648) / 4294967296) + 32768) / 65536, ?_⟩
  omega
theorem k_trayF0s {w2 : cWld} {H2 : Heap} {locs2 : List Loc} {E1 E2 : cEff} {p1 p2 : List Nat} {k : Nat} {m m1 : Int} {y1 y2 y3 r9 p9 : Int32} (I : k_In s D dA a1 a2 w H locs) (hS : k_S7 a1 a2 w rw nm r) (I1 : k_In s D dA a1 a2 w' H' locs') (hS1 : k_S7 a1 a2 w' rw nm r) (I2 : k_In s D dA a1 a2 w2 H2 locs2) (hS2 : k_S7 a1 a2 w2 rw nm r) (x1 : c_ext E1 p1 w w') (g1 : p1.all (fun t => Nat.ble 101 t) = true) (o1 : k_none E1 61 = true) (x2 : c_ext E2 p2 w' w2) (g2 : p2.all (fun t => Nat.ble 101 t) = true) (o2 : k_none E2 17 = true) (hj1 : j_Ex0 s D dA 123 w [.ref a1, .int y1, .int y2, .int y3] H' [.int r9]) (hj2 : j_Ex0 s D dA 210 w' [.ref a2, .int y1, .int y2, .int y3] H2 [.int p9]) (hy1 : y1.toInt = 0) (hk : k < 60) (hold : (k : Int) < m → ∃ v : Int, k_fn w (r 0) 17 k v ∧ k_fn w nm 61 (60 * 0 + k) v) (hq : (r9.toInt = 1 ∧ p9.toInt = 1 ∧ m1 = y3.toInt) ∨ (r9.toInt = 0 ∧ p9.toInt = 0 ∧ m1 = m)) (hm : (k : Int) < m1) : ∃ v : Int, k_fn w2 (r 0) 17 k v ∧ k_fn w2 nm 61 (60 * 0 + k) v := by
  rcases hq with ⟨q1, q2, q3⟩ | ⟨q1, q2, q3⟩
  · obtain ⟨vc, hvc⟩ := k_fnL (i := k) I.2.2.1 (hS.2.2.1 0 (by omega)).2 (show k_K.2.1 17 = (2, 60, 0) by decide +kernel) hk
    obtain ⟨vm, hvm⟩ := k_fnL (i := 60 * 0 + k) I.2.2.1 hS.2.2.2.2.2 (show k_K.2.1 61 = (2, 240, 0) by decide +kernel) (by omega)
    obtain ⟨v1, f1, f2⟩ := k_trayC7s0 I hS I1 hS1 hj1 hy1 hk hvc
    obtain ⟨v2, f3, f4⟩ := k_trayM7e (t := 0) I1 hS1 I2 hS2 hj2 hy1 (by decide) hk (k_fnK x1 g1 (by decide) (k_none_ok o1 _ _) hvm)
    have e1 : v1 = 0 := by omega
    have e2 : v2 = 0 := by omega
    subst e1; subst e2
    exact ⟨0, k_fnK x2 g2 (by decide) (k_none_ok o2 _ _) f1, f3⟩
  · obtain ⟨v, o9, o8⟩ := hold (by omega)
    obtain ⟨v1, f1, f2⟩ := k_trayC7s0 I hS I1 hS1 hj1 hy1 hk o9
    obtain ⟨v2, f3, f4⟩ := k_trayM7e (t := 0) I1 hS1 I2 hS2 hj2 hy1 (by decide) hk (k_fnK x1 g1 (by decide) (k_none_ok o1 _ _) o8)
    have e1 : v1 = v := by omega
    have e2 : v2 = v := by omega
    subst e1; subst e2
    exact ⟨v2, k_fnK x2 g2 (by decide) (k_none_ok o2 _ _) f1, f3⟩
theorem k_trayF0o {w2 : cWld} {H2 : Heap} {locs2 : List Loc} {E1 E2 : cEff} {p1 p2 : List Nat} {k t : Nat} {m : Int} {y1 y2 y3 r9 p9 : Int32} (I : k_In s D dA a1 a2 w H locs) (hS : k_S7 a1 a2 w rw nm r) (I1 : k_In s D dA a1 a2 w' H' locs') (hS1 : k_S7 a1 a2 w' rw nm r) (I2 : k_In s D dA a1 a2 w2 H2 locs2) (hS2 : k_S7 a1 a2 w2 rw nm r) (x1 : c_ext E1 p1 w w') (g1 : p1.all (fun t => Nat.ble 101 t) = true) (o1 : k_none E1 61 = true) (x2 : c_ext E2 p2 w' w2) (g2 : p2.all (fun t => Nat.ble 101 t) = true) (o2 : k_none E2 17 = true) (hj1 : j_Ex0 s D dA 123 w [.ref a1, .int y1, .int y2, .int y3] H' [.int r9]) (hj2 : j_Ex0 s D dA 210 w' [.ref a2, .int y1, .int y2, .int y3] H2 [.int p9]) (hy1 : y1.toInt = 0) (hk : k < 60) (ht : t < 4) (hne : t ≠ 0) (hold : (k : Int) < m → ∃ v : Int, k_fn w (r t) 17 k v ∧ k_fn w nm 61 (60 * t + k) v) (hm : (k : Int) < m) : ∃ v : Int, k_fn w2 (r t) 17 k v ∧ k_fn w2 nm 61 (60 * t + k) v := by
  obtain ⟨v, o9, o8⟩ := hold hm
  obtain ⟨vc, hvc⟩ := k_fnL (i := k) I.2.2.1 (hS.2.2.1 0 (by omega)).2 (show k_K.2.1 17 = (2, 60, 0) by decide +kernel) hk
  have f1 := k_trayC7o0 I hS I1 hS1 hj1 hy1 hk ht hne hvc o9
  have hv2 : ∃ v2, k_fn w2 nm 61 (60 * t + k) v2 ∧ v2 = v := by
    rcases Nat.lt_or_gt_of_ne hne with h | h
    · exact k_trayM7g I1 hS1 I2 hS2 hj2 (by omega) (by omega) (by omega) ht hk (k_fnK x1 g1 (by decide) (k_none_ok o1 _ _) o8)
    · exact k_trayM7l I1 hS1 I2 hS2 hj2 (by omega) (by omega) (by omega) ht hk (k_fnK x1 g1 (by decide) (k_none_ok o1 _ _) o8)
  obtain ⟨v2, f3, f4⟩ := hv2
  subst f4
  exact ⟨v2, k_fnK x2 g2 (by decide) (k_none_ok o2 _ _) f1, f3⟩
theorem k_trayF1s {w2 : cWld} {H2 : Heap} {locs2 : List Loc} {E1 E2 : cEff} {p1 p2 : List Nat} {k : Nat} {m m1 : Int} {y1 y2 y3 r9 p9 : Int32} (I : k_In s D dA a1 a2 w H locs) (hS : k_S7 a1 a2 w rw nm r) (I1 : k_In s D dA a1 a2 w' H' locs') (hS1 : k_S7 a1 a2 w' rw nm r) (I2 : k_In s D dA a1 a2 w2 H2 locs2) (hS2 : k_S7 a1 a2 w2 rw nm r) (x1 : c_ext E1 p1 w w') (g1 : p1.all (fun t => Nat.ble 101 t) = true) (o1 : k_none E1 61 = true) (x2 : c_ext E2 p2 w' w2) (g2 : p2.all (fun t => Nat.ble 101 t) = true) (o2 : k_none E2 17 = true) (hj1 : j_Ex0 s D dA 123 w [.ref a1, .int y1, .int y2, .int y3] H' [.int r9]) (hj2 : j_Ex0 s D dA 210 w' [.ref a2, .int y1, .int y2, .int y3] H2 [.int p9]) (hy1 : y1.toInt = 1) (hk : k < 60) (hold : (k : Int) < m → ∃ v : Int, k_fn w (r 1) 17 k v ∧ k_fn w nm 61 (60 * 1 + k) v) (hq : (r9.toInt = 1 ∧ p9.toInt = 1 ∧ m1 = y3.toInt) ∨ (r9.toInt = 0 ∧ p9.toInt = 0 ∧ m1 = m)) (hm : (k : Int) < m1) : ∃ v : Int, k_fn w2 (r 1) 17 k v ∧ k_fn w2 nm 61 (60 * 1 + k) v := by
  rcases hq with ⟨q1, q2, q3⟩ | ⟨q1, q2, q3⟩
  · obtain ⟨vc, hvc⟩ := k_fnL (i := k) I.2.2.1 (hS.2.2.1 1 (by omega)).2 (show k_K.2.1 17 = (2, 60, 0) by decide +kernel) hk
    obtain ⟨vm, hvm⟩ := k_fnL (i := 60 * 1 + k) I.2.2.1 hS.2.2.2.2.2 (show k_K.2.1 61 = (2, 240, 0) by decide +kernel) (by omega)
    obtain ⟨v1, f1, f2⟩ := k_trayC7s1 I hS I1 hS1 hj1 hy1 hk hvc
    obtain ⟨v2, f3, f4⟩ := k_trayM7e (t := 1) I1 hS1 I2 hS2 hj2 hy1 (by decide) hk (k_fnK x1 g1 (by decide) (k_none_ok o1 _ _) hvm)
    have e1 : v1 = 0 := by omega
    have e2 : v2 = 0 := by omega
    subst e1; subst e2
    exact ⟨0, k_fnK x2 g2 (by decide) (k_none_ok o2 _ _) f1, f3⟩
  · obtain ⟨v, o9, o8⟩ := hold (by omega)
    obtain ⟨v1, f1, f2⟩ := k_trayC7s1 I hS I1 hS1 hj1 hy1 hk o9
    obtain ⟨v2, f3, f4⟩ := k_trayM7e (t := 1) I1 hS1 I2 hS2 hj2 hy1 (by decide) hk (k_fnK x1 g1 (by decide) (k_none_ok o1 _ _) o8)
    have e1 : v1 = v := by omega
    have e2 : v2 = v := by omega
    subst e1; subst e2
    exact ⟨v2, k_fnK x2 g2 (by decide) (k_none_ok o2 _ _) f1, f3⟩
theorem k_trayF1o {w2 : cWld} {H2 : Heap} {locs2 : List Loc} {E1 E2 : cEff} {p1 p2 : List Nat} {k t : Nat} {m : Int} {y1 y2 y3 r9 p9 : Int32} (I : k_In s D dA a1 a2 w H locs) (hS : k_S7 a1 a2 w rw nm r) (I1 : k_In s D dA a1 a2 w' H' locs') (hS1 : k_S7 a1 a2 w' rw nm r) (I2 : k_In s D dA a1 a2 w2 H2 locs2) (hS2 : k_S7 a1 a2 w2 rw nm r) (x1 : c_ext E1 p1 w w') (g1 : p1.all (fun t => Nat.ble 101 t) = true) (o1 : k_none E1 61 = true) (x2 : c_ext E2 p2 w' w2) (g2 : p2.all (fun t => Nat.ble 101 t) = true) (o2 : k_none E2 17 = true) (hj1 : j_Ex0 s D dA 123 w [.ref a1, .int y1, .int y2, .int y3] H' [.int r9]) (hj2 : j_Ex0 s D dA 210 w' [.ref a2, .int y1, .int y2, .int y3] H2 [.int p9]) (hy1 : y1.toInt = 1) (hk : k < 60) (ht : t < 4) (hne : t ≠ 1) (hold : (k : Int) < m → ∃ v : Int, k_fn w (r t) 17 k v ∧ k_fn w nm 61 (60 * t + k) v) (hm : (k : Int) < m) : ∃ v : Int, k_fn w2 (r t) 17 k v ∧ k_fn w2 nm 61 (60 * t + k) v := by
  obtain ⟨v, o9, o8⟩ := hold hm
  obtain ⟨vc, hvc⟩ := k_fnL (i := k) I.2.2.1 (hS.2.2.1 1 (by omega)).2 (show k_K.2.1 17 = (2, 60, 0) by decide +kernel) hk
  have f1 := k_trayC7o1 I hS I1 hS1 hj1 hy1 hk ht hne hvc o9
  have hv2 : ∃ v2, k_fn w2 nm 61 (60 * t + k) v2 ∧ v2 = v := by
    rcases Nat.lt_or_gt_of_ne hne with h | h
    · exact k_trayM7g I1 hS1 I2 hS2 hj2 (by omega) (by omega) (by omega) ht hk (k_fnK x1 g1 (by decide) (k_none_ok o1 _ _) o8)
    · exact k_trayM7l I1 hS1 I2 hS2 hj2 (by omega) (by omega) (by omega) ht hk (k_fnK x1 g1 (by decide) (k_none_ok o1 _ _) o8)
  obtain ⟨v2, f3, f4⟩ := hv2
  subst f4
  exact ⟨v2, k_fnK x2 g2 (by decide) (k_none_ok o2 _ _) f1, f3⟩
theorem k_trayF2s {w2 : cWld} {H2 : Heap} {locs2 : List Loc} {E1 E2 : cEff} {p1 p2 : List Nat} {k : Nat} {m m1 : Int} {y1 y2 y3 r9 p9 : Int32} (I : k_In s D dA a1 a2 w H locs) (hS : k_S7 a1 a2 w rw nm r) (I1 : k_In s D dA a1 a2 w' H' locs') (hS1 : k_S7 a1 a2 w' rw nm r) (I2 : k_In s D dA a1 a2 w2 H2 locs2) (hS2 : k_S7 a1 a2 w2 rw nm r) (x1 : c_ext E1 p1 w w') (g1 : p1.all (fun t => Nat.ble 101 t) = true) (o1 : k_none E1 61 = true) (x2 : c_ext E2 p2 w' w2) (g2 : p2.all (fun t => Nat.ble 101 t) = true) (o2 : k_none E2 17 = true) (hj1 : j_Ex0 s D dA 123 w [.ref a1, .int y1, .int y2, .int y3] H' [.int r9]) (hj2 : j_Ex0 s D dA 210 w' [.ref a2, .int y1, .int y2, .int y3] H2 [.int p9]) (hy1 : y1.toInt = 2) (hk : k < 60) (hold : (k : Int) < m → ∃ v : Int, k_fn w (r 2) 17 k v ∧ k_fn w nm 61 (60 * 2 + k) v) (hq : (r9.toInt = 1 ∧ p9.toInt = 1 ∧ m1 = y3.toInt) ∨ (r9.toInt = 0 ∧ p9.toInt = 0 ∧ m1 = m)) (hm : (k : Int) < m1) : ∃ v : Int, k_fn w2 (r 2) 17 k v ∧ k_fn w2 nm 61 (60 * 2 + k) v := by
  rcases hq with ⟨q1, q2, q3⟩ | ⟨q1, q2, q3⟩
  · obtain ⟨vc, hvc⟩ := k_fnL (i := k) I.2.2.1 (hS.2.2.1 2 (by omega)).2 (show k_K.2.1 17 = (2, 60, 0) by decide +kernel) hk
    obtain ⟨vm, hvm⟩ := k_fnL (i := 60 * 2 + k) I.2.2.1 hS.2.2.2.2.2 (show k_K.2.1 61 = (2, 240, 0) by decide +kernel) (by omega)
    obtain ⟨v1, f1, f2⟩ := k_trayC7s2 I hS I1 hS1 hj1 hy1 hk hvc
    obtain ⟨v2, f3, f4⟩ := k_trayM7e (t := 2) I1 hS1 I2 hS2 hj2 hy1 (by decide) hk (k_fnK x1 g1 (by decide) (k_none_ok o1 _ _) hvm)
    have e1 : v1 = 0 := by omega
    have e2 : v2 = 0 := by omega
    subst e1; subst e2
    exact ⟨0, k_fnK x2 g2 (by decide) (k_none_ok o2 _ _) f1, f3⟩
  · obtain ⟨v, o9, o8⟩ := hold (by omega)
    obtain ⟨v1, f1, f2⟩ := k_trayC7s2 I hS I1 hS1 hj1 hy1 hk o9
    obtain ⟨v2, f3, f4⟩ := k_trayM7e (t := 2) I1 hS1 I2 hS2 hj2 hy1 (by decide) hk (k_fnK x1 g1 (by decide) (k_none_ok o1 _ _) o8)
    have e1 : v1 = v := by omega
    have e2 : v2 = v := by omega
    subst e1; subst e2
    exact ⟨v2, k_fnK x2 g2 (by decide) (k_none_ok o2 _ _) f1, f3⟩
theorem k_trayF2o {w2 : cWld} {H2 : Heap} {locs2 : List Loc} {E1 E2 : cEff} {p1 p2 : List Nat} {k t : Nat} {m : Int} {y1 y2 y3 r9 p9 : Int32} (I : k_In s D dA a1 a2 w H locs) (hS : k_S7 a1 a2 w rw nm r) (I1 : k_In s D dA a1 a2 w' H' locs') (hS1 : k_S7 a1 a2 w' rw nm r) (I2 : k_In s D dA a1 a2 w2 H2 locs2) (hS2 : k_S7 a1 a2 w2 rw nm r) (x1 : c_ext E1 p1 w w') (g1 : p1.all (fun t => Nat.ble 101 t) = true) (o1 : k_none E1 61 = true) (x2 : c_ext E2 p2 w' w2) (g2 : p2.all (fun t => Nat.ble 101 t) = true) (o2 : k_none E2 17 = true) (hj1 : j_Ex0 s D dA 123 w [.ref a1, .int y1, .int y2, .int y3] H' [.int r9]) (hj2 : j_Ex0 s D dA 210 w' [.ref a2, .int y1, .int y2, .int y3] H2 [.int p9]) (hy1 : y1.toInt = 2) (hk : k < 60) (ht : t < 4) (hne : t ≠ 2) (hold : (k : Int) < m → ∃ v : Int, k_fn w (r t) 17 k v ∧ k_fn w nm 61 (60 * t + k) v) (hm : (k : Int) < m) : ∃ v : Int, k_fn w2 (r t) 17 k v ∧ k_fn w2 nm 61 (60 * t + k) v := by
  obtain ⟨v, o9, o8⟩ := hold hm
  obtain ⟨vc, hvc⟩ := k_fnL (i := k) I.2.2.1 (hS.2.2.1 2 (by omega)).2 (show k_K.2.1 17 = (2, 60, 0) by decide +kernel) hk
  have f1 := k_trayC7o2 I hS I1 hS1 hj1 hy1 hk ht hne hvc o9
  have hv2 : ∃ v2, k_fn w2 nm 61 (60 * t + k) v2 ∧ v2 = v := by
    rcases Nat.lt_or_gt_of_ne hne with h | h
    · exact k_trayM7g I1 hS1 I2 hS2 hj2 (by omega) (by omega) (by omega) ht hk (k_fnK x1 g1 (by decide) (k_none_ok o1 _ _) o8)
    · exact k_trayM7l I1 hS1 I2 hS2 hj2 (by omega) (by omega) (by omega) ht hk (k_fnK x1 g1 (by decide) (k_none_ok o1 _ _) o8)
  obtain ⟨v2, f3, f4⟩ := hv2
  subst f4
  exact ⟨v2, k_fnK x2 g2 (by decide) (k_none_ok o2 _ _) f1, f3⟩
theorem k_trayF3s {w2 : cWld} {H2 : Heap} {locs2 : List Loc} {E1 E2 : cEff} {p1 p2 : List Nat} {k : Nat} {m m1 : Int} {y1 y2 y3 r9 p9 : Int32} (I : k_In s D dA a1 a2 w H locs) (hS : k_S7 a1 a2 w rw nm r) (I1 : k_In s D dA a1 a2 w' H' locs') (hS1 : k_S7 a1 a2 w' rw nm r) (I2 : k_In s D dA a1 a2 w2 H2 locs2) (hS2 : k_S7 a1 a2 w2 rw nm r) (x1 : c_ext E1 p1 w w') (g1 : p1.all (fun t => Nat.ble 101 t) = true) (o1 : k_none E1 61 = true) (x2 : c_ext E2 p2 w' w2) (g2 : p2.all (fun t => Nat.ble 101 t) = true) (o2 : k_none E2 17 = true) (hj1 : j_Ex0 s D dA 123 w [.ref a1, .int y1, .int y2, .int y3] H' [.int r9]) (hj2 : j_Ex0 s D dA 210 w' [.ref a2, .int y1, .int y2, .int y3] H2 [.int p9]) (hy1 : y1.toInt = 3) (hk : k < 60) (hold : (k : Int) < m → ∃ v : Int, k_fn w (r 3) 17 k v ∧ k_fn w nm 61 (60 * 3 + k) v) (hq : (r9.toInt = 1 ∧ p9.toInt = 1 ∧ m1 = y3.toInt) ∨ (r9.toInt = 0 ∧ p9.toInt = 0 ∧ m1 = m)) (hm : (k : Int) < m1) : ∃ v : Int, k_fn w2 (r 3) 17 k v ∧ k_fn w2 nm 61 (60 * 3 + k) v := by
  rcases hq with ⟨q1, q2, q3⟩ | ⟨q1, q2, q3⟩
  · obtain ⟨vc, hvc⟩ := k_fnL (i := k) I.2.2.1 (hS.2.2.1 3 (by omega)).2 (show k_K.2.1 17 = (2, 60, 0) by decide +kernel) hk
    obtain ⟨vm, hvm⟩ := k_fnL (i := 60 * 3 + k) I.2.2.1 hS.2.2.2.2.2 (show k_K.2.1 61 = (2, 240, 0) by decide +kernel) (by omega)
    obtain ⟨v1, f1, f2⟩ := k_trayC7s3 I hS I1 hS1 hj1 hy1 hk hvc
    obtain ⟨v2, f3, f4⟩ := k_trayM7e (t := 3) I1 hS1 I2 hS2 hj2 hy1 (by decide) hk (k_fnK x1 g1 (by decide) (k_none_ok o1 _ _) hvm)
    have e1 : v1 = 0 := by omega
    have e2 : v2 = 0 := by omega
    subst e1; subst e2
    exact ⟨0, k_fnK x2 g2 (by decide) (k_none_ok o2 _ _) f1, f3⟩
  · obtain ⟨v, o9, o8⟩ := hold (by omega)
    obtain ⟨v1, f1, f2⟩ := k_trayC7s3 I hS I1 hS1 hj1 hy1 hk o9
    obtain ⟨v2, f3, f4⟩ := k_trayM7e (t := 3) I1 hS1 I2 hS2 hj2 hy1 (by decide) hk (k_fnK x1 g1 (by decide) (k_none_ok o1 _ _) o8)
    have e1 : v1 = v := by omega
    have e2 : v2 = v := by omega
    subst e1; subst e2
    exact ⟨v2, k_fnK x2 g2 (by decide) (k_none_ok o2 _ _) f1, f3⟩
theorem k_trayF3o {w2 : cWld} {H2 : Heap} {locs2 : List Loc} {E1 E2 : cEff} {p1 p2 : List Nat} {k t : Nat} {m : Int} {y1 y2 y3 r9 p9 : Int32} (I : k_In s D dA a1 a2 w H locs) (hS : k_S7 a1 a2 w rw nm r) (I1 : k_In s D dA a1 a2 w' H' locs') (hS1 : k_S7 a1 a2 w' rw nm r) (I2 : k_In s D dA a1 a2 w2 H2 locs2) (hS2 : k_S7 a1 a2 w2 rw nm r) (x1 : c_ext E1 p1 w w') (g1 : p1.all (fun t => Nat.ble 101 t) = true) (o1 : k_none E1 61 = true) (x2 : c_ext E2 p2 w' w2) (g2 : p2.all (fun t => Nat.ble 101 t) = true) (o2 : k_none E2 17 = true) (hj1 : j_Ex0 s D dA 123 w [.ref a1, .int y1, .int y2, .int y3] H' [.int r9]) (hj2 : j_Ex0 s D dA 210 w' [.ref a2, .int y1, .int y2, .int y3] H2 [.int p9]) (hy1 : y1.toInt = 3) (hk : k < 60) (ht : t < 4) (hne : t ≠ 3) (hold : (k : Int) < m → ∃ v : Int, k_fn w (r t) 17 k v ∧ k_fn w nm 61 (60 * t + k) v) (hm : (k : Int) < m) : ∃ v : Int, k_fn w2 (r t) 17 k v ∧ k_fn w2 nm 61 (60 * t + k) v := by
  obtain ⟨v, o9, o8⟩ := hold hm
  obtain ⟨vc, hvc⟩ := k_fnL (i := k) I.2.2.1 (hS.2.2.1 3 (by omega)).2 (show k_K.2.1 17 = (2, 60, 0) by decide +kernel) hk
  have f1 := k_trayC7o3 I hS I1 hS1 hj1 hy1 hk ht hne hvc o9
  have hv2 : ∃ v2, k_fn w2 nm 61 (60 * t + k) v2 ∧ v2 = v := by
    rcases Nat.lt_or_gt_of_ne hne with h | h
    · exact k_trayM7g I1 hS1 I2 hS2 hj2 (by omega) (by omega) (by omega) ht hk (k_fnK x1 g1 (by decide) (k_none_ok o1 _ _) o8)
    · exact k_trayM7l I1 hS1 I2 hS2 hj2 (by omega) (by omega) (by omega) ht hk (k_fnK x1 g1 (by decide) (k_none_ok o1 _ _) o8)
  obtain ⟨v2, f3, f4⟩ := hv2
  subst f4
  exact ⟨v2, k_fnK x2 g2 (by decide) (k_none_ok o2 _ _) f1, f3⟩
theorem k_writeF0 {w2 : cWld} {H2 : Heap} {locs2 : List Loc} {E1 E2 : cEff} {p1 p2 : List Nat} {k t so ts : Nat} {m s0 z0 m0 u0 : Int} {y1 y2 r9 p9 : Int32} {y3 : Int64} (I : k_In s D dA a1 a2 w H locs) (hS : k_S7 a1 a2 w rw nm r) (I1 : k_In s D dA a1 a2 w' H' locs') (hS1 : k_S7 a1 a2 w' rw nm r) (I2 : k_In s D dA a1 a2 w2 H2 locs2) (hS2 : k_S7 a1 a2 w2 rw nm r) (x1 : c_ext E1 p1 w w') (g1 : p1.all (fun t => Nat.ble 101 t) = true) (o1 : k_none E1 61 = true) (x2 : c_ext E2 p2 w' w2) (g2 : p2.all (fun t => Nat.ble 101 t) = true) (o2 : k_none E2 17 = true) (hj1 : j_Ex0 s D dA 125 w [.ref a1, .int y1, .int y2, .long y3] H' [.int r9]) (hj2 : j_Ex0 s D dA 213 w' [.ref a2, .int y1, .int y2, .long y3] H2 [.int p9]) (hso : k_fn w a1 12 4 (so : Int)) (hsi : c_in w so 14) (hs0 : k_fn w so 14 0 s0) (hts : k_fn w' a2 13 4 (ts : Int)) (hti : c_in w' ts 59) (hu0 : k_fn w' ts 59 0 u0) (hy1 : y1.toInt = 0) (hk : k < 60) (ht : t < 4) (hold : (k : Int) < m → ∃ v : Int, k_fn w (r t) 17 k v ∧ k_fn w nm 61 (60 * t + k) v) (hq : k_tq s0 z0 m0 u0) (hmm : t = 0 → m = m0) (hr1 : (r9.toInt = 1 ∧ (0 ≤ s0 ∧ 0 ≤ y2.toInt ∧ y2.toInt < z0)) ∨ (r9.toInt = 0 ∧ ¬ (0 ≤ s0 ∧ 0 ≤ y2.toInt ∧ y2.toInt < z0))) (hr2 : (p9.toInt = 1 ∧ (0 ≤ y2.toInt ∧ y2.toInt < m0)) ∨ (p9.toInt = 0 ∧ ¬ (0 ≤ y2.toInt ∧ y2.toInt < m0))) (hm : (k : Int) < m) : ∃ v : Int, k_fn w2 (r t) 17 k v ∧ k_fn w2 nm 61 (60 * t + k) v := by
  obtain ⟨v, o9, o8⟩ := hold hm
  obtain ⟨q1, q2, q3, b1, b2, b3, c1, c2, c3⟩ := k_cutEx y3
  have o7 := k_fnK x1 g1 (by decide) (k_none_ok o1 _ _) o8
  rcases (show y2.toInt < 0 ∨ 60 ≤ y2.toInt ∨ (0 ≤ y2.toInt ∧ y2.toInt ≤ 59) by omega) with hy2 | hy2 | hy2
  · exact ⟨v, k_fnK x2 g2 (by decide) (k_none_ok o2 _ _) (k_writeC7n I hS I1 hS1 hj1 (by omega) (by omega) hy2 ht o9), k_writeM7n I1 hS1 I2 hS2 hj2 (by omega) (by omega) hy2 ht o7⟩
  · exact ⟨v, k_fnK x2 g2 (by decide) (k_none_ok o2 _ _) (k_writeC7p I hS I1 hS1 hj1 (by omega) (by omega) hy2 ht o9), k_writeM7p I1 hS1 I2 hS2 hj2 (by omega) (by omega) hy2 ht o7⟩
  · by_cases htt : t = 0
    · subst htt
      have hmm := hmm rfl
      rcases (show y2.toInt = (k : Int) ∨ y2.toInt < (k : Int) ∨ (k : Int) < y2.toInt by omega) with h | h | h
      · obtain ⟨v1, f1, f2⟩ := k_writeC7e0 I hS I1 hS1 hj1 b1 b2 b3 c1 c2 c3 hso hsi hs0 hy1 h hk o9
        obtain ⟨v2, f3, f4⟩ := k_writeM7e (t := 0) I1 hS1 I2 hS2 hj2 b1 b2 b3 c1 c2 c3 hts hti hu0 hy1 (by decide) h hk o7
        have e : v1 = v2 := by
          unfold k_tq at hq
          omega
        subst e
        exact ⟨v1, k_fnK x2 g2 (by decide) (k_none_ok o2 _ _) f1, f3⟩
      · obtain ⟨v1, f1, f2⟩ := k_writeC7l0 I hS I1 hS1 hj1 b1 b2 b3 c1 c2 c3 hy1 h hk o9
        obtain ⟨v2, f3, f4⟩ := k_writeM7l (t := 0) I1 hS1 I2 hS2 hj2 b1 b2 b3 c1 c2 c3 (by omega) (by omega) (by omega) (by omega) (by omega) (by decide) hk o7
        have e12 : v1 = v2 := by omega
        subst e12
        exact ⟨v1, k_fnK x2 g2 (by decide) (k_none_ok o2 _ _) f1, f3⟩
      · obtain ⟨v1, f1, f2⟩ := k_writeC7g0 I hS I1 hS1 hj1 b1 b2 b3 c1 c2 c3 hy1 h hk o9
        obtain ⟨v2, f3, f4⟩ := k_writeM7g (t := 0) I1 hS1 I2 hS2 hj2 b1 b2 b3 c1 c2 c3 (by omega) (by omega) (by omega) (by omega) (by omega) (by decide) hk o7
        have e12 : v1 = v2 := by omega
        subst e12
        exact ⟨v1, k_fnK x2 g2 (by decide) (k_none_ok o2 _ _) f1, f3⟩
    · obtain ⟨k0, hk0, hk1⟩ : ∃ k0 : Nat, k0 < 60 ∧ y2.toInt = (k0 : Int) := ⟨y2.toInt.toNat, by omega, by omega⟩
      obtain ⟨vc, hvc⟩ := k_fnL (i := k0) I.2.2.1 (hS.2.2.1 0 (by omega)).2 (show k_K.2.1 17 = (2, 60, 0) by decide +kernel) hk0
      have f1 := k_writeC7o0 (k := k) I hS I1 hS1 hj1 b1 b2 b3 c1 c2 c3 hso hsi hs0 hy1 hk1 hk0 ht htt hvc o9
      have hv2 : ∃ v2, k_fn w2 nm 61 (60 * t + k) v2 ∧ v2 = v := by
        rcases Nat.lt_or_gt_of_ne htt with h | h
        · exact k_writeM7g I1 hS1 I2 hS2 hj2 b1 b2 b3 c1 c2 c3 (by omega) (by omega) (by omega) (by omega) (by omega) ht hk o7
        · exact k_writeM7l I1 hS1 I2 hS2 hj2 b1 b2 b3 c1 c2 c3 (by omega) (by omega) (by omega) (by omega) (by omega) ht hk o7
      obtain ⟨v2, f3, f4⟩ := hv2
      subst f4
      exact ⟨v2, k_fnK x2 g2 (by decide) (k_none_ok o2 _ _) f1, f3⟩
theorem k_writeF1 {w2 : cWld} {H2 : Heap} {locs2 : List Loc} {E1 E2 : cEff} {p1 p2 : List Nat} {k t so ts : Nat} {m s0 z0 m0 u0 : Int} {y1 y2 r9 p9 : Int32} {y3 : Int64} (I : k_In s D dA a1 a2 w H locs) (hS : k_S7 a1 a2 w rw nm r) (I1 : k_In s D dA a1 a2 w' H' locs') (hS1 : k_S7 a1 a2 w' rw nm r) (I2 : k_In s D dA a1 a2 w2 H2 locs2) (hS2 : k_S7 a1 a2 w2 rw nm r) (x1 : c_ext E1 p1 w w') (g1 : p1.all (fun t => Nat.ble 101 t) = true) (o1 : k_none E1 61 = true) (x2 : c_ext E2 p2 w' w2) (g2 : p2.all (fun t => Nat.ble 101 t) = true) (o2 : k_none E2 17 = true) (hj1 : j_Ex0 s D dA 125 w [.ref a1, .int y1, .int y2, .long y3] H' [.int r9]) (hj2 : j_Ex0 s D dA 213 w' [.ref a2, .int y1, .int y2, .long y3] H2 [.int p9]) (hso : k_fn w a1 12 4 (so : Int)) (hsi : c_in w so 14) (hs0 : k_fn w so 14 1 s0) (hts : k_fn w' a2 13 4 (ts : Int)) (hti : c_in w' ts 59) (hu0 : k_fn w' ts 59 1 u0) (hy1 : y1.toInt = 1) (hk : k < 60) (ht : t < 4) (hold : (k : Int) < m → ∃ v : Int, k_fn w (r t) 17 k v ∧ k_fn w nm 61 (60 * t + k) v) (hq : k_tq s0 z0 m0 u0) (hmm : t = 1 → m = m0) (hr1 : (r9.toInt = 1 ∧ (0 ≤ s0 ∧ 0 ≤ y2.toInt ∧ y2.toInt < z0)) ∨ (r9.toInt = 0 ∧ ¬ (0 ≤ s0 ∧ 0 ≤ y2.toInt ∧ y2.toInt < z0))) (hr2 : (p9.toInt = 1 ∧ (0 ≤ y2.toInt ∧ y2.toInt < m0)) ∨ (p9.toInt = 0 ∧ ¬ (0 ≤ y2.toInt ∧ y2.toInt < m0))) (hm : (k : Int) < m) : ∃ v : Int, k_fn w2 (r t) 17 k v ∧ k_fn w2 nm 61 (60 * t + k) v := by
  obtain ⟨v, o9, o8⟩ := hold hm
  obtain ⟨q1, q2, q3, b1, b2, b3, c1, c2, c3⟩ := k_cutEx y3
  have o7 := k_fnK x1 g1 (by decide) (k_none_ok o1 _ _) o8
  rcases (show y2.toInt < 0 ∨ 60 ≤ y2.toInt ∨ (0 ≤ y2.toInt ∧ y2.toInt ≤ 59) by omega) with hy2 | hy2 | hy2
  · exact ⟨v, k_fnK x2 g2 (by decide) (k_none_ok o2 _ _) (k_writeC7n I hS I1 hS1 hj1 (by omega) (by omega) hy2 ht o9), k_writeM7n I1 hS1 I2 hS2 hj2 (by omega) (by omega) hy2 ht o7⟩
  · exact ⟨v, k_fnK x2 g2 (by decide) (k_none_ok o2 _ _) (k_writeC7p I hS I1 hS1 hj1 (by omega) (by omega) hy2 ht o9), k_writeM7p I1 hS1 I2 hS2 hj2 (by omega) (by omega) hy2 ht o7⟩
  · by_cases htt : t = 1
    · subst htt
      have hmm := hmm rfl
      rcases (show y2.toInt = (k : Int) ∨ y2.toInt < (k : Int) ∨ (k : Int) < y2.toInt by omega) with h | h | h
      · obtain ⟨v1, f1, f2⟩ := k_writeC7e1 I hS I1 hS1 hj1 b1 b2 b3 c1 c2 c3 hso hsi hs0 hy1 h hk o9
        obtain ⟨v2, f3, f4⟩ := k_writeM7e (t := 1) I1 hS1 I2 hS2 hj2 b1 b2 b3 c1 c2 c3 hts hti hu0 hy1 (by decide) h hk o7
        have e : v1 = v2 := by
          unfold k_tq at hq
          omega
        subst e
        exact ⟨v1, k_fnK x2 g2 (by decide) (k_none_ok o2 _ _) f1, f3⟩
      · obtain ⟨v1, f1, f2⟩ := k_writeC7l1 I hS I1 hS1 hj1 b1 b2 b3 c1 c2 c3 hy1 h hk o9
        obtain ⟨v2, f3, f4⟩ := k_writeM7l (t := 1) I1 hS1 I2 hS2 hj2 b1 b2 b3 c1 c2 c3 (by omega) (by omega) (by omega) (by omega) (by omega) (by decide) hk o7
        have e12 : v1 = v2 := by omega
        subst e12
        exact ⟨v1, k_fnK x2 g2 (by decide) (k_none_ok o2 _ _) f1, f3⟩
      · obtain ⟨v1, f1, f2⟩ := k_writeC7g1 I hS I1 hS1 hj1 b1 b2 b3 c1 c2 c3 hy1 h hk o9
        obtain ⟨v2, f3, f4⟩ := k_writeM7g (t := 1) I1 hS1 I2 hS2 hj2 b1 b2 b3 c1 c2 c3 (by omega) (by omega) (by omega) (by omega) (by omega) (by decide) hk o7
        have e12 : v1 = v2 := by omega
        subst e12
        exact ⟨v1, k_fnK x2 g2 (by decide) (k_none_ok o2 _ _) f1, f3⟩
    · obtain ⟨k0, hk0, hk1⟩ : ∃ k0 : Nat, k0 < 60 ∧ y2.toInt = (k0 : Int) := ⟨y2.toInt.toNat, by omega, by omega⟩
      obtain ⟨vc, hvc⟩ := k_fnL (i := k0) I.2.2.1 (hS.2.2.1 1 (by omega)).2 (show k_K.2.1 17 = (2, 60, 0) by decide +kernel) hk0
      have f1 := k_writeC7o1 (k := k) I hS I1 hS1 hj1 b1 b2 b3 c1 c2 c3 hso hsi hs0 hy1 hk1 hk0 ht htt hvc o9
      have hv2 : ∃ v2, k_fn w2 nm 61 (60 * t + k) v2 ∧ v2 = v := by
        rcases Nat.lt_or_gt_of_ne htt with h | h
        · exact k_writeM7g I1 hS1 I2 hS2 hj2 b1 b2 b3 c1 c2 c3 (by omega) (by omega) (by omega) (by omega) (by omega) ht hk o7
        · exact k_writeM7l I1 hS1 I2 hS2 hj2 b1 b2 b3 c1 c2 c3 (by omega) (by omega) (by omega) (by omega) (by omega) ht hk o7
      obtain ⟨v2, f3, f4⟩ := hv2
      subst f4
      exact ⟨v2, k_fnK x2 g2 (by decide) (k_none_ok o2 _ _) f1, f3⟩
theorem k_writeF2 {w2 : cWld} {H2 : Heap} {locs2 : List Loc} {E1 E2 : cEff} {p1 p2 : List Nat} {k t so ts : Nat} {m s0 z0 m0 u0 : Int} {y1 y2 r9 p9 : Int32} {y3 : Int64} (I : k_In s D dA a1 a2 w H locs) (hS : k_S7 a1 a2 w rw nm r) (I1 : k_In s D dA a1 a2 w' H' locs') (hS1 : k_S7 a1 a2 w' rw nm r) (I2 : k_In s D dA a1 a2 w2 H2 locs2) (hS2 : k_S7 a1 a2 w2 rw nm r) (x1 : c_ext E1 p1 w w') (g1 : p1.all (fun t => Nat.ble 101 t) = true) (o1 : k_none E1 61 = true) (x2 : c_ext E2 p2 w' w2) (g2 : p2.all (fun t => Nat.ble 101 t) = true) (o2 : k_none E2 17 = true) (hj1 : j_Ex0 s D dA 125 w [.ref a1, .int y1, .int y2, .long y3] H' [.int r9]) (hj2 : j_Ex0 s D dA 213 w' [.ref a2, .int y1, .int y2, .long y3] H2 [.int p9]) (hso : k_fn w a1 12 4 (so : Int)) (hsi : c_in w so 14) (hs0 : k_fn w so 14 2 s0) (hts : k_fn w' a2 13 4 (ts : Int)) (hti : c_in w' ts 59) (hu0 : k_fn w' ts 59 2 u0) (hy1 : y1.toInt = 2) (hk : k < 60) (ht : t < 4) (hold : (k : Int) < m → ∃ v : Int, k_fn w (r t) 17 k v ∧ k_fn w nm 61 (60 * t + k) v) (hq : k_tq s0 z0 m0 u0) (hmm : t = 2 → m = m0) (hr1 : (r9.toInt = 1 ∧ (0 ≤ s0 ∧ 0 ≤ y2.toInt ∧ y2.toInt < z0)) ∨ (r9.toInt = 0 ∧ ¬ (0 ≤ s0 ∧ 0 ≤ y2.toInt ∧ y2.toInt < z0))) (hr2 : (p9.toInt = 1 ∧ (0 ≤ y2.toInt ∧ y2.toInt < m0)) ∨ (p9.toInt = 0 ∧ ¬ (0 ≤ y2.toInt ∧ y2.toInt < m0))) (hm : (k : Int) < m) : ∃ v : Int, k_fn w2 (r t) 17 k v ∧ k_fn w2 nm 61 (60 * t + k) v := by
  obtain ⟨v, o9, o8⟩ := hold hm
  obtain ⟨q1, q2, q3, b1, b2, b3, c1, c2, c3⟩ := k_cutEx y3
  have o7 := k_fnK x1 g1 (by decide) (k_none_ok o1 _ _) o8
  rcases (show y2.toInt < 0 ∨ 60 ≤ y2.toInt ∨ (0 ≤ y2.toInt ∧ y2.toInt ≤ 59) by omega) with hy2 | hy2 | hy2
  · exact ⟨v, k_fnK x2 g2 (by decide) (k_none_ok o2 _ _) (k_writeC7n I hS I1 hS1 hj1 (by omega) (by omega) hy2 ht o9), k_writeM7n I1 hS1 I2 hS2 hj2 (by omega) (by omega) hy2 ht o7⟩
  · exact ⟨v, k_fnK x2 g2 (by decide) (k_none_ok o2 _ _) (k_writeC7p I hS I1 hS1 hj1 (by omega) (by omega) hy2 ht o9), k_writeM7p I1 hS1 I2 hS2 hj2 (by omega) (by omega) hy2 ht o7⟩
  · by_cases htt : t = 2
    · subst htt
      have hmm := hmm rfl
      rcases (show y2.toInt = (k : Int) ∨ y2.toInt < (k : Int) ∨ (k : Int) < y2.toInt by omega) with h | h | h
      · obtain ⟨v1, f1, f2⟩ := k_writeC7e2 I hS I1 hS1 hj1 b1 b2 b3 c1 c2 c3 hso hsi hs0 hy1 h hk o9
        obtain ⟨v2, f3, f4⟩ := k_writeM7e (t := 2) I1 hS1 I2 hS2 hj2 b1 b2 b3 c1 c2 c3 hts hti hu0 hy1 (by decide) h hk o7
        have e : v1 = v2 := by
          unfold k_tq at hq
          omega
        subst e
        exact ⟨v1, k_fnK x2 g2 (by decide) (k_none_ok o2 _ _) f1, f3⟩
      · obtain ⟨v1, f1, f2⟩ := k_writeC7l2 I hS I1 hS1 hj1 b1 b2 b3 c1 c2 c3 hy1 h hk o9
        obtain ⟨v2, f3, f4⟩ := k_writeM7l (t := 2) I1 hS1 I2 hS2 hj2 b1 b2 b3 c1 c2 c3 (by omega) (by omega) (by omega) (by omega) (by omega) (by decide) hk o7
        have e12 : v1 = v2 := by omega
        subst e12
        exact ⟨v1, k_fnK x2 g2 (by decide) (k_none_ok o2 _ _) f1, f3⟩
      · obtain ⟨v1, f1, f2⟩ := k_writeC7g2 I hS I1 hS1 hj1 b1 b2 b3 c1 c2 c3 hy1 h hk o9
        obtain ⟨v2, f3, f4⟩ := k_writeM7g (t := 2) I1 hS1 I2 hS2 hj2 b1 b2 b3 c1 c2 c3 (by omega) (by omega) (by omega) (by omega) (by omega) (by decide) hk o7
        have e12 : v1 = v2 := by omega
        subst e12
        exact ⟨v1, k_fnK x2 g2 (by decide) (k_none_ok o2 _ _) f1, f3⟩
    · obtain ⟨k0, hk0, hk1⟩ : ∃ k0 : Nat, k0 < 60 ∧ y2.toInt = (k0 : Int) := ⟨y2.toInt.toNat, by omega, by omega⟩
      obtain ⟨vc, hvc⟩ := k_fnL (i := k0) I.2.2.1 (hS.2.2.1 2 (by omega)).2 (show k_K.2.1 17 = (2, 60, 0) by decide +kernel) hk0
      have f1 := k_writeC7o2 (k := k) I hS I1 hS1 hj1 b1 b2 b3 c1 c2 c3 hso hsi hs0 hy1 hk1 hk0 ht htt hvc o9
      have hv2 : ∃ v2, k_fn w2 nm 61 (60 * t + k) v2 ∧ v2 = v := by
        rcases Nat.lt_or_gt_of_ne htt with h | h
        · exact k_writeM7g I1 hS1 I2 hS2 hj2 b1 b2 b3 c1 c2 c3 (by omega) (by omega) (by omega) (by omega) (by omega) ht hk o7
        · exact k_writeM7l I1 hS1 I2 hS2 hj2 b1 b2 b3 c1 c2 c3 (by omega) (by omega) (by omega) (by omega) (by omega) ht hk o7
      obtain ⟨v2, f3, f4⟩ := hv2
      subst f4
      exact ⟨v2, k_fnK x2 g2 (by decide) (k_none_ok o2 _ _) f1, f3⟩
theorem k_writeF3 {w2 : cWld} {H2 : Heap} {locs2 : List Loc} {E1 E2 : cEff} {p1 p2 : List Nat} {k t so ts : Nat} {m s0 z0 m0 u0 : Int} {y1 y2 r9 p9 : Int32} {y3 : Int64} (I : k_In s D dA a1 a2 w H locs) (hS : k_S7 a1 a2 w rw nm r) (I1 : k_In s D dA a1 a2 w' H' locs') (hS1 : k_S7 a1 a2 w' rw nm r) (I2 : k_In s D dA a1 a2 w2 H2 locs2) (hS2 : k_S7 a1 a2 w2 rw nm r) (x1 : c_ext E1 p1 w w') (g1 : p1.all (fun t => Nat.ble 101 t) = true) (o1 : k_none E1 61 = true) (x2 : c_ext E2 p2 w' w2) (g2 : p2.all (fun t => Nat.ble 101 t) = true) (o2 : k_none E2 17 = true) (hj1 : j_Ex0 s D dA 125 w [.ref a1, .int y1, .int y2, .long y3] H' [.int r9]) (hj2 : j_Ex0 s D dA 213 w' [.ref a2, .int y1, .int y2, .long y3] H2 [.int p9]) (hso : k_fn w a1 12 4 (so : Int)) (hsi : c_in w so 14) (hs0 : k_fn w so 14 3 s0) (hts : k_fn w' a2 13 4 (ts : Int)) (hti : c_in w' ts 59) (hu0 : k_fn w' ts 59 3 u0) (hy1 : y1.toInt = 3) (hk : k < 60) (ht : t < 4) (hold : (k : Int) < m → ∃ v : Int, k_fn w (r t) 17 k v ∧ k_fn w nm 61 (60 * t + k) v) (hq : k_tq s0 z0 m0 u0) (hmm : t = 3 → m = m0) (hr1 : (r9.toInt = 1 ∧ (0 ≤ s0 ∧ 0 ≤ y2.toInt ∧ y2.toInt < z0)) ∨ (r9.toInt = 0 ∧ ¬ (0 ≤ s0 ∧ 0 ≤ y2.toInt ∧ y2.toInt < z0))) (hr2 : (p9.toInt = 1 ∧ (0 ≤ y2.toInt ∧ y2.toInt < m0)) ∨ (p9.toInt = 0 ∧ ¬ (0 ≤ y2.toInt ∧ y2.toInt < m0))) (hm : (k : Int) < m) : ∃ v : Int, k_fn w2 (r t) 17 k v ∧ k_fn w2 nm 61 (60 * t + k) v := by
  obtain ⟨v, o9, o8⟩ := hold hm
  obtain ⟨q1, q2, q3, b1, b2, b3, c1, c2, c3⟩ := k_cutEx y3
  have o7 := k_fnK x1 g1 (by decide) (k_none_ok o1 _ _) o8
  rcases (show y2.toInt < 0 ∨ 60 ≤ y2.toInt ∨ (0 ≤ y2.toInt ∧ y2.toInt ≤ 59) by omega) with hy2 | hy2 | hy2
  · exact ⟨v, k_fnK x2 g2 (by decide) (k_none_ok o2 _ _) (k_writeC7n I hS I1 hS1 hj1 (by omega) (by omega) hy2 ht o9), k_writeM7n I1 hS1 I2 hS2 hj2 (by omega) (by omega) hy2 ht o7⟩
  · exact ⟨v, k_fnK x2 g2 (by decide) (k_none_ok o2 _ _) (k_writeC7p I hS I1 hS1 hj1 (by omega) (by omega) hy2 ht o9), k_writeM7p I1 hS1 I2 hS2 hj2 (by omega) (by omega) hy2 ht o7⟩
  · by_cases htt : t = 3
    · subst htt
      have hmm := hmm rfl
      rcases (show y2.toInt = (k : Int) ∨ y2.toInt < (k : Int) ∨ (k : Int) < y2.toInt by omega) with h | h | h
      · obtain ⟨v1, f1, f2⟩ := k_writeC7e3 I hS I1 hS1 hj1 b1 b2 b3 c1 c2 c3 hso hsi hs0 hy1 h hk o9
        obtain ⟨v2, f3, f4⟩ := k_writeM7e (t := 3) I1 hS1 I2 hS2 hj2 b1 b2 b3 c1 c2 c3 hts hti hu0 hy1 (by decide) h hk o7
        have e : v1 = v2 := by
          unfold k_tq at hq
          omega
        subst e
        exact ⟨v1, k_fnK x2 g2 (by decide) (k_none_ok o2 _ _) f1, f3⟩
      · obtain ⟨v1, f1, f2⟩ := k_writeC7l3 I hS I1 hS1 hj1 b1 b2 b3 c1 c2 c3 hy1 h hk o9
        obtain ⟨v2, f3, f4⟩ := k_writeM7l (t := 3) I1 hS1 I2 hS2 hj2 b1 b2 b3 c1 c2 c3 (by omega) (by omega) (by omega) (by omega) (by omega) (by decide) hk o7
        have e12 : v1 = v2 := by omega
        subst e12
        exact ⟨v1, k_fnK x2 g2 (by decide) (k_none_ok o2 _ _) f1, f3⟩
      · obtain ⟨v1, f1, f2⟩ := k_writeC7g3 I hS I1 hS1 hj1 b1 b2 b3 c1 c2 c3 hy1 h hk o9
        obtain ⟨v2, f3, f4⟩ := k_writeM7g (t := 3) I1 hS1 I2 hS2 hj2 b1 b2 b3 c1 c2 c3 (by omega) (by omega) (by omega) (by omega) (by omega) (by decide) hk o7
        have e12 : v1 = v2 := by omega
        subst e12
        exact ⟨v1, k_fnK x2 g2 (by decide) (k_none_ok o2 _ _) f1, f3⟩
    · obtain ⟨k0, hk0, hk1⟩ : ∃ k0 : Nat, k0 < 60 ∧ y2.toInt = (k0 : Int) := ⟨y2.toInt.toNat, by omega, by omega⟩
      obtain ⟨vc, hvc⟩ := k_fnL (i := k0) I.2.2.1 (hS.2.2.1 3 (by omega)).2 (show k_K.2.1 17 = (2, 60, 0) by decide +kernel) hk0
      have f1 := k_writeC7o3 (k := k) I hS I1 hS1 hj1 b1 b2 b3 c1 c2 c3 hso hsi hs0 hy1 hk1 hk0 ht htt hvc o9
      have hv2 : ∃ v2, k_fn w2 nm 61 (60 * t + k) v2 ∧ v2 = v := by
        rcases Nat.lt_or_gt_of_ne htt with h | h
        · exact k_writeM7g I1 hS1 I2 hS2 hj2 b1 b2 b3 c1 c2 c3 (by omega) (by omega) (by omega) (by omega) (by omega) ht hk o7
        · exact k_writeM7l I1 hS1 I2 hS2 hj2 b1 b2 b3 c1 c2 c3 (by omega) (by omega) (by omega) (by omega) (by omega) ht hk o7
      obtain ⟨v2, f3, f4⟩ := hv2
      subst f4
      exact ⟨v2, k_fnK x2 g2 (by decide) (k_none_ok o2 _ _) f1, f3⟩
theorem k_pourF00 {w2 : cWld} {H2 : Heap} {locs2 : List Loc} {E1 E2 : cEff} {p1 p2 : List Nat} {k t : Nat} {m ms md : Int} {y1 y2 y3 y4 y5 r9 p9 : Int32} (I : k_In s D dA a1 a2 w H locs) (hS : k_S7 a1 a2 w rw nm r) (I1 : k_In s D dA a1 a2 w' H' locs') (hS1 : k_S7 a1 a2 w' rw nm r) (I2 : k_In s D dA a1 a2 w2 H2 locs2) (hS2 : k_S7 a1 a2 w2 rw nm r) (x1 : c_ext E1 p1 w w') (g1 : p1.all (fun t => Nat.ble 101 t) = true) (o1 : k_none E1 61 = true) (x2 : c_ext E2 p2 w' w2) (g2 : p2.all (fun t => Nat.ble 101 t) = true) (o2 : k_none E2 17 = true) (hj1 : j_Ex0 s D dA 128 w [.ref a1, .int y1, .int y2, .int y3, .int y4, .int y5] H' [.int r9]) (hj2 : j_Ex0 s D dA 215 w' [.ref a2, .int y1, .int y2, .int y3, .int y4, .int y5] H2 [.int p9]) (hy1 : y1.toInt = 0) (hy3 : y3.toInt = 0) (hk : k < 60) (ht : t < 4) (hold : (k : Int) < m → ∃ v : Int, k_fn w (r t) 17 k v ∧ k_fn w nm 61 (60 * t + k) v) (holds : ∀ j : Nat, j < 60 → (j : Int) < ms → ∃ v : Int, k_fn w (r 0) 17 j v ∧ k_fn w nm 61 (60 * 0 + j) v) (hmm : t = 0 → m = md) (hq : (r9.toInt = 1 ∧ p9.toInt = 1 ∧ 0 ≤ y5.toInt ∧ 0 ≤ y2.toInt ∧ 0 ≤ y4.toInt ∧ y2.toInt + y5.toInt ≤ ms ∧ y4.toInt + y5.toInt ≤ md ∧ ms ≤ 60 ∧ md ≤ 60) ∨ (r9.toInt = 0 ∧ p9.toInt = 0)) (hm : (k : Int) < m) : ∃ v : Int, k_fn w2 (r t) 17 k v ∧ k_fn w2 nm 61 (60 * t + k) v := by
  obtain ⟨v, o9, o8⟩ := hold hm
  have o7 := k_fnK x1 g1 (by decide) (k_none_ok o1 _ _) o8
  obtain ⟨vc, hvc⟩ := k_fnL (i := k) I.2.2.1 (hS.2.2.1 0 (by omega)).2 (show k_K.2.1 17 = (2, 60, 0) by decide +kernel) hk
  rcases hq with ⟨q1, q2, n1, n2, n3, n4, n5, n6, n7⟩ | ⟨q1, q2⟩
  · by_cases htt : t = 0
    · subst htt
      have hmm := hmm rfl
      rcases (show (k : Int) < y4.toInt ∨ y4.toInt + y5.toInt ≤ (k : Int) ∨ (y4.toInt ≤ (k : Int) ∧ (k : Int) < y4.toInt + y5.toInt) by omega) with h | h | ⟨h, h9⟩
      · obtain ⟨v1, f1, f2⟩ := k_pourC7l00 I hS I1 hS1 hj1 hy1 hy3 h hk o9
        obtain ⟨v2, f3, f4⟩ := k_pourM7l (t := 0) I1 hS1 I2 hS2 hj2 (by omega) (by omega) (by omega) (by omega) (by omega) (by decide) hk o7
        have e12 : v1 = v2 := by omega
        subst e12
        exact ⟨v1, k_fnK x2 g2 (by decide) (k_none_ok o2 _ _) f1, f3⟩
      · obtain ⟨v1, f1, f2⟩ := k_pourC7g00 I hS I1 hS1 hj1 hy1 hy3 h hk o9
        obtain ⟨v2, f3, f4⟩ := k_pourM7g (t := 0) I1 hS1 I2 hS2 hj2 (by omega) (by omega) (by omega) (by omega) (by omega) (by decide) hk o7
        have e12 : v1 = v2 := by omega
        subst e12
        exact ⟨v1, k_fnK x2 g2 (by decide) (k_none_ok o2 _ _) f1, f3⟩
      · obtain ⟨k9, hk9, hk8⟩ : ∃ k9 : Nat, k9 < 60 ∧ (k9 : Int) = y2.toInt - y4.toInt + (k : Int) := ⟨(y2.toInt - y4.toInt + (k : Int)).toNat, by omega, by omega⟩
        obtain ⟨u, u1, u2⟩ := holds k9 hk9 (by omega)
        obtain ⟨v1, f1, f2⟩ := k_pourC7i00 I hS I1 hS1 hj1 hy1 hy3 h h9 hk8 hk9 hk u1 o9
        obtain ⟨v2, f3, f4⟩ := k_pourM7is (t := 0) (t9 := 0) I1 hS1 I2 hS2 hj2 (by omega) (by omega) (by omega) (by omega) (by omega) hy1 hy3 h h9 hk8 hk9 hk (k_fnK x1 g1 (by decide) (k_none_ok o1 _ _) u2) o7
        have e1 : v1 = u := by omega
        have e2 : v2 = u := by omega
        subst e1; subst e2
        exact ⟨v2, k_fnK x2 g2 (by decide) (k_none_ok o2 _ _) f1, f3⟩
    · have f1 := k_pourC7o00 I hS I1 hS1 hj1 hy1 hy3 ht htt hk hvc o9
      have hv2 : ∃ v2, k_fn w2 nm 61 (60 * t + k) v2 ∧ v2 = v := by
        rcases Nat.lt_or_gt_of_ne htt with h | h
        · exact k_pourM7l I1 hS1 I2 hS2 hj2 (by omega) (by omega) (by omega) (by omega) (by omega) ht hk o7
        · exact k_pourM7g I1 hS1 I2 hS2 hj2 (by omega) (by omega) (by omega) (by omega) (by omega) ht hk o7
      obtain ⟨v2, f3, f4⟩ := hv2
      subst f4
      exact ⟨v2, k_fnK x2 g2 (by decide) (k_none_ok o2 _ _) f1, f3⟩
  · obtain ⟨v2, f3, f4⟩ := k_pourM7r I1 hS1 I2 hS2 hj2 (by omega) (by omega) (by omega) (by omega) q2 ht hk o7
    subst f4
    by_cases htt : t = 0
    · subst htt
      exact ⟨v2, k_fnK x2 g2 (by decide) (k_none_ok o2 _ _) (k_pourC7r00 I hS I1 hS1 hj1 hy1 hy3 q1 hk o9), f3⟩
    · exact ⟨v2, k_fnK x2 g2 (by decide) (k_none_ok o2 _ _) (k_pourC7o00 I hS I1 hS1 hj1 hy1 hy3 ht htt hk hvc o9), f3⟩
theorem k_pourF01 {w2 : cWld} {H2 : Heap} {locs2 : List Loc} {E1 E2 : cEff} {p1 p2 : List Nat} {k t : Nat} {m ms md : Int} {y1 y2 y3 y4 y5 r9 p9 : Int32} (I : k_In s D dA a1 a2 w H locs) (hS : k_S7 a1 a2 w rw nm r) (I1 : k_In s D dA a1 a2 w' H' locs') (hS1 : k_S7 a1 a2 w' rw nm r) (I2 : k_In s D dA a1 a2 w2 H2 locs2) (hS2 : k_S7 a1 a2 w2 rw nm r) (x1 : c_ext E1 p1 w w') (g1 : p1.all (fun t => Nat.ble 101 t) = true) (o1 : k_none E1 61 = true) (x2 : c_ext E2 p2 w' w2) (g2 : p2.all (fun t => Nat.ble 101 t) = true) (o2 : k_none E2 17 = true) (hj1 : j_Ex0 s D dA 128 w [.ref a1, .int y1, .int y2, .int y3, .int y4, .int y5] H' [.int r9]) (hj2 : j_Ex0 s D dA 215 w' [.ref a2, .int y1, .int y2, .int y3, .int y4, .int y5] H2 [.int p9]) (hy1 : y1.toInt = 0) (hy3 : y3.toInt = 1) (hk : k < 60) (ht : t < 4) (hold : (k : Int) < m → ∃ v : Int, k_fn w (r t) 17 k v ∧ k_fn w nm 61 (60 * t + k) v) (holds : ∀ j : Nat, j < 60 → (j : Int) < ms → ∃ v : Int, k_fn w (r 0) 17 j v ∧ k_fn w nm 61 (60 * 0 + j) v) (hmm : t = 1 → m = md) (hq : (r9.toInt = 1 ∧ p9.toInt = 1 ∧ 0 ≤ y5.toInt ∧ 0 ≤ y2.toInt ∧ 0 ≤ y4.toInt ∧ y2.toInt + y5.toInt ≤ ms ∧ y4.toInt + y5.toInt ≤ md ∧ ms ≤ 60 ∧ md ≤ 60) ∨ (r9.toInt = 0 ∧ p9.toInt = 0)) (hm : (k : Int) < m) : ∃ v : Int, k_fn w2 (r t) 17 k v ∧ k_fn w2 nm 61 (60 * t + k) v := by
  obtain ⟨v, o9, o8⟩ := hold hm
  have o7 := k_fnK x1 g1 (by decide) (k_none_ok o1 _ _) o8
  obtain ⟨vc, hvc⟩ := k_fnL (i := k) I.2.2.1 (hS.2.2.1 1 (by omega)).2 (show k_K.2.1 17 = (2, 60, 0) by decide +kernel) hk
  rcases hq with ⟨q1, q2, n1, n2, n3, n4, n5, n6, n7⟩ | ⟨q1, q2⟩
  · by_cases htt : t = 1
    · subst htt
      have hmm := hmm rfl
      rcases (show (k : Int) < y4.toInt ∨ y4.toInt + y5.toInt ≤ (k : Int) ∨ (y4.toInt ≤ (k : Int) ∧ (k : Int) < y4.toInt + y5.toInt) by omega) with h | h | ⟨h, h9⟩
      · obtain ⟨v1, f1, f2⟩ := k_pourC7l01 I hS I1 hS1 hj1 hy1 hy3 h hk o9
        obtain ⟨v2, f3, f4⟩ := k_pourM7l (t := 1) I1 hS1 I2 hS2 hj2 (by omega) (by omega) (by omega) (by omega) (by omega) (by decide) hk o7
        have e12 : v1 = v2 := by omega
        subst e12
        exact ⟨v1, k_fnK x2 g2 (by decide) (k_none_ok o2 _ _) f1, f3⟩
      · obtain ⟨v1, f1, f2⟩ := k_pourC7g01 I hS I1 hS1 hj1 hy1 hy3 h hk o9
        obtain ⟨v2, f3, f4⟩ := k_pourM7g (t := 1) I1 hS1 I2 hS2 hj2 (by omega) (by omega) (by omega) (by omega) (by omega) (by decide) hk o7
        have e12 : v1 = v2 := by omega
        subst e12
        exact ⟨v1, k_fnK x2 g2 (by decide) (k_none_ok o2 _ _) f1, f3⟩
      · obtain ⟨k9, hk9, hk8⟩ : ∃ k9 : Nat, k9 < 60 ∧ (k9 : Int) = y2.toInt - y4.toInt + (k : Int) := ⟨(y2.toInt - y4.toInt + (k : Int)).toNat, by omega, by omega⟩
        obtain ⟨u, u1, u2⟩ := holds k9 hk9 (by omega)
        obtain ⟨v1, f1, f2⟩ := k_pourC7i01 I hS I1 hS1 hj1 hy1 hy3 h h9 hk8 hk9 hk u1 o9
        obtain ⟨v2, f3, f4⟩ := k_pourM7il (t := 1) (t9 := 0) I1 hS1 I2 hS2 hj2 (by omega) (by omega) (by omega) (by omega) (by omega) hy1 hy3 h h9 hk8 hk9 hk (k_fnK x1 g1 (by decide) (k_none_ok o1 _ _) u2) o7
        have e1 : v1 = u := by omega
        have e2 : v2 = u := by omega
        subst e1; subst e2
        exact ⟨v2, k_fnK x2 g2 (by decide) (k_none_ok o2 _ _) f1, f3⟩
    · have f1 := k_pourC7o01 I hS I1 hS1 hj1 hy1 hy3 ht htt hk hvc o9
      have hv2 : ∃ v2, k_fn w2 nm 61 (60 * t + k) v2 ∧ v2 = v := by
        rcases Nat.lt_or_gt_of_ne htt with h | h
        · exact k_pourM7l I1 hS1 I2 hS2 hj2 (by omega) (by omega) (by omega) (by omega) (by omega) ht hk o7
        · exact k_pourM7g I1 hS1 I2 hS2 hj2 (by omega) (by omega) (by omega) (by omega) (by omega) ht hk o7
      obtain ⟨v2, f3, f4⟩ := hv2
      subst f4
      exact ⟨v2, k_fnK x2 g2 (by decide) (k_none_ok o2 _ _) f1, f3⟩
  · obtain ⟨v2, f3, f4⟩ := k_pourM7r I1 hS1 I2 hS2 hj2 (by omega) (by omega) (by omega) (by omega) q2 ht hk o7
    subst f4
    by_cases htt : t = 1
    · subst htt
      exact ⟨v2, k_fnK x2 g2 (by decide) (k_none_ok o2 _ _) (k_pourC7r01 I hS I1 hS1 hj1 hy1 hy3 q1 hk o9), f3⟩
    · exact ⟨v2, k_fnK x2 g2 (by decide) (k_none_ok o2 _ _) (k_pourC7o01 I hS I1 hS1 hj1 hy1 hy3 ht htt hk hvc o9), f3⟩
theorem k_pourF02 {w2 : cWld} {H2 : Heap} {locs2 : List Loc} {E1 E2 : cEff} {p1 p2 : List Nat} {k t : Nat} {m ms md : Int} {y1 y2 y3 y4 y5 r9 p9 : Int32} (I : k_In s D dA a1 a2 w H locs) (hS : k_S7 a1 a2 w rw nm r) (I1 : k_In s D dA a1 a2 w' H' locs') (hS1 : k_S7 a1 a2 w' rw nm r) (I2 : k_In s D dA a1 a2 w2 H2 locs2) (hS2 : k_S7 a1 a2 w2 rw nm r) (x1 : c_ext E1 p1 w w') (g1 : p1.all (fun t => Nat.ble 101 t) = true) (o1 : k_none E1 61 = true) (x2 : c_ext E2 p2 w' w2) (g2 : p2.all (fun t => Nat.ble 101 t) = true) (o2 : k_none E2 17 = true) (hj1 : j_Ex0 s D dA 128 w [.ref a1, .int y1, .int y2, .int y3, .int y4, .int y5] H' [.int r9]) (hj2 : j_Ex0 s D dA 215 w' [.ref a2, .int y1, .int y2, .int y3, .int y4, .int y5] H2 [.int p9]) (hy1 : y1.toInt = 0) (hy3 : y3.toInt = 2) (hk : k < 60) (ht : t < 4) (hold : (k : Int) < m → ∃ v : Int, k_fn w (r t) 17 k v ∧ k_fn w nm 61 (60 * t + k) v) (holds : ∀ j : Nat, j < 60 → (j : Int) < ms → ∃ v : Int, k_fn w (r 0) 17 j v ∧ k_fn w nm 61 (60 * 0 + j) v) (hmm : t = 2 → m = md) (hq : (r9.toInt = 1 ∧ p9.toInt = 1 ∧ 0 ≤ y5.toInt ∧ 0 ≤ y2.toInt ∧ 0 ≤ y4.toInt ∧ y2.toInt + y5.toInt ≤ ms ∧ y4.toInt + y5.toInt ≤ md ∧ ms ≤ 60 ∧ md ≤ 60) ∨ (r9.toInt = 0 ∧ p9.toInt = 0)) (hm : (k : Int) < m) : ∃ v : Int, k_fn w2 (r t) 17 k v ∧ k_fn w2 nm 61 (60 * t + k) v := by
  obtain ⟨v, o9, o8⟩ := hold hm
  have o7 := k_fnK x1 g1 (by decide) (k_none_ok o1 _ _) o8
  obtain ⟨vc, hvc⟩ := k_fnL (i := k) I.2.2.1 (hS.2.2.1 2 (by omega)).2 (show k_K.2.1 17 = (2, 60, 0) by decide +kernel) hk
  rcases hq with ⟨q1, q2, n1, n2, n3, n4, n5, n6, n7⟩ | ⟨q1, q2⟩
  · by_cases htt : t = 2
    · subst htt
      have hmm := hmm rfl
      rcases (show (k : Int) < y4.toInt ∨ y4.toInt + y5.toInt ≤ (k : Int) ∨ (y4.toInt ≤ (k : Int) ∧ (k : Int) < y4.toInt + y5.toInt) by omega) with h | h | ⟨h, h9⟩
      · obtain ⟨v1, f1, f2⟩ := k_pourC7l02 I hS I1 hS1 hj1 hy1 hy3 h hk o9
        obtain ⟨v2, f3, f4⟩ := k_pourM7l (t := 2) I1 hS1 I2 hS2 hj2 (by omega) (by omega) (by omega) (by omega) (by omega) (by decide) hk o7
        have e12 : v1 = v2 := by omega
        subst e12
        exact ⟨v1, k_fnK x2 g2 (by decide) (k_none_ok o2 _ _) f1, f3⟩
      · obtain ⟨v1, f1, f2⟩ := k_pourC7g02 I hS I1 hS1 hj1 hy1 hy3 h hk o9
        obtain ⟨v2, f3, f4⟩ := k_pourM7g (t := 2) I1 hS1 I2 hS2 hj2 (by omega) (by omega) (by omega) (by omega) (by omega) (by decide) hk o7
        have e12 : v1 = v2 := by omega
        subst e12
        exact ⟨v1, k_fnK x2 g2 (by decide) (k_none_ok o2 _ _) f1, f3⟩
      · obtain ⟨k9, hk9, hk8⟩ : ∃ k9 : Nat, k9 < 60 ∧ (k9 : Int) = y2.toInt - y4.toInt + (k : Int) := ⟨(y2.toInt - y4.toInt + (k : Int)).toNat, by omega, by omega⟩
        obtain ⟨u, u1, u2⟩ := holds k9 hk9 (by omega)
        obtain ⟨v1, f1, f2⟩ := k_pourC7i02 I hS I1 hS1 hj1 hy1 hy3 h h9 hk8 hk9 hk u1 o9
        obtain ⟨v2, f3, f4⟩ := k_pourM7il (t := 2) (t9 := 0) I1 hS1 I2 hS2 hj2 (by omega) (by omega) (by omega) (by omega) (by omega) hy1 hy3 h h9 hk8 hk9 hk (k_fnK x1 g1 (by decide) (k_none_ok o1 _ _) u2) o7
        have e1 : v1 = u := by omega
        have e2 : v2 = u := by omega
        subst e1; subst e2
        exact ⟨v2, k_fnK x2 g2 (by decide) (k_none_ok o2 _ _) f1, f3⟩
    · have f1 := k_pourC7o02 I hS I1 hS1 hj1 hy1 hy3 ht htt hk hvc o9
      have hv2 : ∃ v2, k_fn w2 nm 61 (60 * t + k) v2 ∧ v2 = v := by
        rcases Nat.lt_or_gt_of_ne htt with h | h
        · exact k_pourM7l I1 hS1 I2 hS2 hj2 (by omega) (by omega) (by omega) (by omega) (by omega) ht hk o7
        · exact k_pourM7g I1 hS1 I2 hS2 hj2 (by omega) (by omega) (by omega) (by omega) (by omega) ht hk o7
      obtain ⟨v2, f3, f4⟩ := hv2
      subst f4
      exact ⟨v2, k_fnK x2 g2 (by decide) (k_none_ok o2 _ _) f1, f3⟩
  · obtain ⟨v2, f3, f4⟩ := k_pourM7r I1 hS1 I2 hS2 hj2 (by omega) (by omega) (by omega) (by omega) q2 ht hk o7
    subst f4
    by_cases htt : t = 2
    · subst htt
      exact ⟨v2, k_fnK x2 g2 (by decide) (k_none_ok o2 _ _) (k_pourC7r02 I hS I1 hS1 hj1 hy1 hy3 q1 hk o9), f3⟩
    · exact ⟨v2, k_fnK x2 g2 (by decide) (k_none_ok o2 _ _) (k_pourC7o02 I hS I1 hS1 hj1 hy1 hy3 ht htt hk hvc o9), f3⟩
theorem k_pourF03 {w2 : cWld} {H2 : Heap} {locs2 : List Loc} {E1 E2 : cEff} {p1 p2 : List Nat} {k t : Nat} {m ms md : Int} {y1 y2 y3 y4 y5 r9 p9 : Int32} (I : k_In s D dA a1 a2 w H locs) (hS : k_S7 a1 a2 w rw nm r) (I1 : k_In s D dA a1 a2 w' H' locs') (hS1 : k_S7 a1 a2 w' rw nm r) (I2 : k_In s D dA a1 a2 w2 H2 locs2) (hS2 : k_S7 a1 a2 w2 rw nm r) (x1 : c_ext E1 p1 w w') (g1 : p1.all (fun t => Nat.ble 101 t) = true) (o1 : k_none E1 61 = true) (x2 : c_ext E2 p2 w' w2) (g2 : p2.all (fun t => Nat.ble 101 t) = true) (o2 : k_none E2 17 = true) (hj1 : j_Ex0 s D dA 128 w [.ref a1, .int y1, .int y2, .int y3, .int y4, .int y5] H' [.int r9]) (hj2 : j_Ex0 s D dA 215 w' [.ref a2, .int y1, .int y2, .int y3, .int y4, .int y5] H2 [.int p9]) (hy1 : y1.toInt = 0) (hy3 : y3.toInt = 3) (hk : k < 60) (ht : t < 4) (hold : (k : Int) < m → ∃ v : Int, k_fn w (r t) 17 k v ∧ k_fn w nm 61 (60 * t + k) v) (holds : ∀ j : Nat, j < 60 → (j : Int) < ms → ∃ v : Int, k_fn w (r 0) 17 j v ∧ k_fn w nm 61 (60 * 0 + j) v) (hmm : t = 3 → m = md) (hq : (r9.toInt = 1 ∧ p9.toInt = 1 ∧ 0 ≤ y5.toInt ∧ 0 ≤ y2.toInt ∧ 0 ≤ y4.toInt ∧ y2.toInt + y5.toInt ≤ ms ∧ y4.toInt + y5.toInt ≤ md ∧ ms ≤ 60 ∧ md ≤ 60) ∨ (r9.toInt = 0 ∧ p9.toInt = 0)) (hm : (k : Int) < m) : ∃ v : Int, k_fn w2 (r t) 17 k v ∧ k_fn w2 nm 61 (60 * t + k) v := by
  obtain ⟨v, o9, o8⟩ := hold hm
  have o7 := k_fnK x1 g1 (by decide) (k_none_ok o1 _ _) o8
  obtain ⟨vc, hvc⟩ := k_fnL (i := k) I.2.2.1 (hS.2.2.1 3 (by omega)).2 (show k_K.2.1 17 = (2, 60, 0) by decide +kernel) hk
  rcases hq with ⟨q1, q2, n1, n2, n3, n4, n5, n6, n7⟩ | ⟨q1, q2⟩
  · by_cases htt : t = 3
    · subst htt
      have hmm := hmm rfl
      rcases (show (k : Int) < y4.toInt ∨ y4.toInt + y5.toInt ≤ (k : Int) ∨ (y4.toInt ≤ (k : Int) ∧ (k : Int) < y4.toInt + y5.toInt) by omega) with h | h | ⟨h, h9⟩
      · obtain ⟨v1, f1, f2⟩ := k_pourC7l03 I hS I1 hS1 hj1 hy1 hy3 h hk o9
        obtain ⟨v2, f3, f4⟩ := k_pourM7l (t := 3) I1 hS1 I2 hS2 hj2 (by omega) (by omega) (by omega) (by omega) (by omega) (by decide) hk o7
        have e12 : v1 = v2 := by omega
        subst e12
        exact ⟨v1, k_fnK x2 g2 (by decide) (k_none_ok o2 _ _) f1, f3⟩
      · obtain ⟨v1, f1, f2⟩ := k_pourC7g03 I hS I1 hS1 hj1 hy1 hy3 h hk o9
        obtain ⟨v2, f3, f4⟩ := k_pourM7g (t := 3) I1 hS1 I2 hS2 hj2 (by omega) (by omega) (by omega) (by omega) (by omega) (by decide) hk o7
        have e12 : v1 = v2 := by omega
        subst e12
        exact ⟨v1, k_fnK x2 g2 (by decide) (k_none_ok o2 _ _) f1, f3⟩
      · obtain ⟨k9, hk9, hk8⟩ : ∃ k9 : Nat, k9 < 60 ∧ (k9 : Int) = y2.toInt - y4.toInt + (k : Int) := ⟨(y2.toInt - y4.toInt + (k : Int)).toNat, by omega, by omega⟩
        obtain ⟨u, u1, u2⟩ := holds k9 hk9 (by omega)
        obtain ⟨v1, f1, f2⟩ := k_pourC7i03 I hS I1 hS1 hj1 hy1 hy3 h h9 hk8 hk9 hk u1 o9
        obtain ⟨v2, f3, f4⟩ := k_pourM7il (t := 3) (t9 := 0) I1 hS1 I2 hS2 hj2 (by omega) (by omega) (by omega) (by omega) (by omega) hy1 hy3 h h9 hk8 hk9 hk (k_fnK x1 g1 (by decide) (k_none_ok o1 _ _) u2) o7
        have e1 : v1 = u := by omega
        have e2 : v2 = u := by omega
        subst e1; subst e2
        exact ⟨v2, k_fnK x2 g2 (by decide) (k_none_ok o2 _ _) f1, f3⟩
    · have f1 := k_pourC7o03 I hS I1 hS1 hj1 hy1 hy3 ht htt hk hvc o9
      have hv2 : ∃ v2, k_fn w2 nm 61 (60 * t + k) v2 ∧ v2 = v := by
        rcases Nat.lt_or_gt_of_ne htt with h | h
        · exact k_pourM7l I1 hS1 I2 hS2 hj2 (by omega) (by omega) (by omega) (by omega) (by omega) ht hk o7
        · exact k_pourM7g I1 hS1 I2 hS2 hj2 (by omega) (by omega) (by omega) (by omega) (by omega) ht hk o7
      obtain ⟨v2, f3, f4⟩ := hv2
      subst f4
      exact ⟨v2, k_fnK x2 g2 (by decide) (k_none_ok o2 _ _) f1, f3⟩
  · obtain ⟨v2, f3, f4⟩ := k_pourM7r I1 hS1 I2 hS2 hj2 (by omega) (by omega) (by omega) (by omega) q2 ht hk o7
    subst f4
    by_cases htt : t = 3
    · subst htt
      exact ⟨v2, k_fnK x2 g2 (by decide) (k_none_ok o2 _ _) (k_pourC7r03 I hS I1 hS1 hj1 hy1 hy3 q1 hk o9), f3⟩
    · exact ⟨v2, k_fnK x2 g2 (by decide) (k_none_ok o2 _ _) (k_pourC7o03 I hS I1 hS1 hj1 hy1 hy3 ht htt hk hvc o9), f3⟩
theorem k_pourF10 {w2 : cWld} {H2 : Heap} {locs2 : List Loc} {E1 E2 : cEff} {p1 p2 : List Nat} {k t : Nat} {m ms md : Int} {y1 y2 y3 y4 y5 r9 p9 : Int32} (I : k_In s D dA a1 a2 w H locs) (hS : k_S7 a1 a2 w rw nm r) (I1 : k_In s D dA a1 a2 w' H' locs') (hS1 : k_S7 a1 a2 w' rw nm r) (I2 : k_In s D dA a1 a2 w2 H2 locs2) (hS2 : k_S7 a1 a2 w2 rw nm r) (x1 : c_ext E1 p1 w w') (g1 : p1.all (fun t => Nat.ble 101 t) = true) (o1 : k_none E1 61 = true) (x2 : c_ext E2 p2 w' w2) (g2 : p2.all (fun t => Nat.ble 101 t) = true) (o2 : k_none E2 17 = true) (hj1 : j_Ex0 s D dA 128 w [.ref a1, .int y1, .int y2, .int y3, .int y4, .int y5] H' [.int r9]) (hj2 : j_Ex0 s D dA 215 w' [.ref a2, .int y1, .int y2, .int y3, .int y4, .int y5] H2 [.int p9]) (hy1 : y1.toInt = 1) (hy3 : y3.toInt = 0) (hk : k < 60) (ht : t < 4) (hold : (k : Int) < m → ∃ v : Int, k_fn w (r t) 17 k v ∧ k_fn w nm 61 (60 * t + k) v) (holds : ∀ j : Nat, j < 60 → (j : Int) < ms → ∃ v : Int, k_fn w (r 1) 17 j v ∧ k_fn w nm 61 (60 * 1 + j) v) (hmm : t = 0 → m = md) (hq : (r9.toInt = 1 ∧ p9.toInt = 1 ∧ 0 ≤ y5.toInt ∧ 0 ≤ y2.toInt ∧ 0 ≤ y4.toInt ∧ y2.toInt + y5.toInt ≤ ms ∧ y4.toInt + y5.toInt ≤ md ∧ ms ≤ 60 ∧ md ≤ 60) ∨ (r9.toInt = 0 ∧ p9.toInt = 0)) (hm : (k : Int) < m) : ∃ v : Int, k_fn w2 (r t) 17 k v ∧ k_fn w2 nm 61 (60 * t + k) v := by
  obtain ⟨v, o9, o8⟩ := hold hm
  have o7 := k_fnK x1 g1 (by decide) (k_none_ok o1 _ _) o8
  obtain ⟨vc, hvc⟩ := k_fnL (i := k) I.2.2.1 (hS.2.2.1 0 (by omega)).2 (show k_K.2.1 17 = (2, 60, 0) by decide +kernel) hk
  rcases hq with ⟨q1, q2, n1, n2, n3, n4, n5, n6, n7⟩ | ⟨q1, q2⟩
  · by_cases htt : t = 0
    · subst htt
      have hmm := hmm rfl
      rcases (show (k : Int) < y4.toInt ∨ y4.toInt + y5.toInt ≤ (k : Int) ∨ (y4.toInt ≤ (k : Int) ∧ (k : Int) < y4.toInt + y5.toInt) by omega) with h | h | ⟨h, h9⟩
      · obtain ⟨v1, f1, f2⟩ := k_pourC7l10 I hS I1 hS1 hj1 hy1 hy3 h hk o9
        obtain ⟨v2, f3, f4⟩ := k_pourM7l (t := 0) I1 hS1 I2 hS2 hj2 (by omega) (by omega) (by omega) (by omega) (by omega) (by decide) hk o7
        have e12 : v1 = v2 := by omega
        subst e12
        exact ⟨v1, k_fnK x2 g2 (by decide) (k_none_ok o2 _ _) f1, f3⟩
      · obtain ⟨v1, f1, f2⟩ := k_pourC7g10 I hS I1 hS1 hj1 hy1 hy3 h hk o9
        obtain ⟨v2, f3, f4⟩ := k_pourM7g (t := 0) I1 hS1 I2 hS2 hj2 (by omega) (by omega) (by omega) (by omega) (by omega) (by decide) hk o7
        have e12 : v1 = v2 := by omega
        subst e12
        exact ⟨v1, k_fnK x2 g2 (by decide) (k_none_ok o2 _ _) f1, f3⟩
      · obtain ⟨k9, hk9, hk8⟩ : ∃ k9 : Nat, k9 < 60 ∧ (k9 : Int) = y2.toInt - y4.toInt + (k : Int) := ⟨(y2.toInt - y4.toInt + (k : Int)).toNat, by omega, by omega⟩
        obtain ⟨u, u1, u2⟩ := holds k9 hk9 (by omega)
        obtain ⟨v1, f1, f2⟩ := k_pourC7i10 I hS I1 hS1 hj1 hy1 hy3 h h9 hk8 hk9 hk u1 o9
        obtain ⟨v2, f3, f4⟩ := k_pourM7ig (t := 0) (t9 := 1) I1 hS1 I2 hS2 hj2 (by omega) (by omega) (by omega) (by omega) (by omega) hy1 hy3 h h9 hk8 hk9 hk (k_fnK x1 g1 (by decide) (k_none_ok o1 _ _) u2) o7
        have e1 : v1 = u := by omega
        have e2 : v2 = u := by omega
        subst e1; subst e2
        exact ⟨v2, k_fnK x2 g2 (by decide) (k_none_ok o2 _ _) f1, f3⟩
    · have f1 := k_pourC7o10 I hS I1 hS1 hj1 hy1 hy3 ht htt hk hvc o9
      have hv2 : ∃ v2, k_fn w2 nm 61 (60 * t + k) v2 ∧ v2 = v := by
        rcases Nat.lt_or_gt_of_ne htt with h | h
        · exact k_pourM7l I1 hS1 I2 hS2 hj2 (by omega) (by omega) (by omega) (by omega) (by omega) ht hk o7
        · exact k_pourM7g I1 hS1 I2 hS2 hj2 (by omega) (by omega) (by omega) (by omega) (by omega) ht hk o7
      obtain ⟨v2, f3, f4⟩ := hv2
      subst f4
      exact ⟨v2, k_fnK x2 g2 (by decide) (k_none_ok o2 _ _) f1, f3⟩
  · obtain ⟨v2, f3, f4⟩ := k_pourM7r I1 hS1 I2 hS2 hj2 (by omega) (by omega) (by omega) (by omega) q2 ht hk o7
    subst f4
    by_cases htt : t = 0
    · subst htt
      exact ⟨v2, k_fnK x2 g2 (by decide) (k_none_ok o2 _ _) (k_pourC7r10 I hS I1 hS1 hj1 hy1 hy3 q1 hk o9), f3⟩
    · exact ⟨v2, k_fnK x2 g2 (by decide) (k_none_ok o2 _ _) (k_pourC7o10 I hS I1 hS1 hj1 hy1 hy3 ht htt hk hvc o9), f3⟩
theorem k_pourF11 {w2 : cWld} {H2 : Heap} {locs2 : List Loc} {E1 E2 : cEff} {p1 p2 : List Nat} {k t : Nat} {m ms md : Int} {y1 y2 y3 y4 y5 r9 p9 : Int32} (I : k_In s D dA a1 a2 w H locs) (hS : k_S7 a1 a2 w rw nm r) (I1 : k_In s D dA a1 a2 w' H' locs') (hS1 : k_S7 a1 a2 w' rw nm r) (I2 : k_In s D dA a1 a2 w2 H2 locs2) (hS2 : k_S7 a1 a2 w2 rw nm r) (x1 : c_ext E1 p1 w w') (g1 : p1.all (fun t => Nat.ble 101 t) = true) (o1 : k_none E1 61 = true) (x2 : c_ext E2 p2 w' w2) (g2 : p2.all (fun t => Nat.ble 101 t) = true) (o2 : k_none E2 17 = true) (hj1 : j_Ex0 s D dA 128 w [.ref a1, .int y1, .int y2, .int y3, .int y4, .int y5] H' [.int r9]) (hj2 : j_Ex0 s D dA 215 w' [.ref a2, .int y1, .int y2, .int y3, .int y4, .int y5] H2 [.int p9]) (hy1 : y1.toInt = 1) (hy3 : y3.toInt = 1) (hk : k < 60) (ht : t < 4) (hold : (k : Int) < m → ∃ v : Int, k_fn w (r t) 17 k v ∧ k_fn w nm 61 (60 * t + k) v) (holds : ∀ j : Nat, j < 60 → (j : Int) < ms → ∃ v : Int, k_fn w (r 1) 17 j v ∧ k_fn w nm 61 (60 * 1 + j) v) (hmm : t = 1 → m = md) (hq : (r9.toInt = 1 ∧ p9.toInt = 1 ∧ 0 ≤ y5.toInt ∧ 0 ≤ y2.toInt ∧ 0 ≤ y4.toInt ∧ y2.toInt + y5.toInt ≤ ms ∧ y4.toInt + y5.toInt ≤ md ∧ ms ≤ 60 ∧ md ≤ 60) ∨ (r9.toInt = 0 ∧ p9.toInt = 0)) (hm : (k : Int) < m) : ∃ v : Int, k_fn w2 (r t) 17 k v ∧ k_fn w2 nm 61 (60 * t + k) v := by
  obtain ⟨v, o9, o8⟩ := hold hm
  have o7 := k_fnK x1 g1 (by decide) (k_none_ok o1 _ _) o8
  obtain ⟨vc, hvc⟩ := k_fnL (i := k) I.2.2.1 (hS.2.2.1 1 (by omega)).2 (show k_K.2.1 17 = (2, 60, 0) by decide +kernel) hk
  rcases hq with ⟨q1, q2, n1, n2, n3, n4, n5, n6, n7⟩ | ⟨q1, q2⟩
  · by_cases htt : t = 1
    · subst htt
      have hmm := hmm rfl
      rcases (show (k : Int) < y4.toInt ∨ y4.toInt + y5.toInt ≤ (k : Int) ∨ (y4.toInt ≤ (k : Int) ∧ (k : Int) < y4.toInt + y5.toInt) by omega) with h | h | ⟨h, h9⟩
      · obtain ⟨v1, f1, f2⟩ := k_pourC7l11 I hS I1 hS1 hj1 hy1 hy3 h hk o9
        obtain ⟨v2, f3, f4⟩ := k_pourM7l (t := 1) I1 hS1 I2 hS2 hj2 (by omega) (by omega) (by omega) (by omega) (by omega) (by decide) hk o7
        have e12 : v1 = v2 := by omega
        subst e12
        exact ⟨v1, k_fnK x2 g2 (by decide) (k_none_ok o2 _ _) f1, f3⟩
      · obtain ⟨v1, f1, f2⟩ := k_pourC7g11 I hS I1 hS1 hj1 hy1 hy3 h hk o9
        obtain ⟨v2, f3, f4⟩ := k_pourM7g (t := 1) I1 hS1 I2 hS2 hj2 (by omega) (by omega) (by omega) (by omega) (by omega) (by decide) hk o7
        have e12 : v1 = v2 := by omega
        subst e12
        exact ⟨v1, k_fnK x2 g2 (by decide) (k_none_ok o2 _ _) f1, f3⟩
      · obtain ⟨k9, hk9, hk8⟩ : ∃ k9 : Nat, k9 < 60 ∧ (k9 : Int) = y2.toInt - y4.toInt + (k : Int) := ⟨(y2.toInt - y4.toInt + (k : Int)).toNat, by omega, by omega⟩
        obtain ⟨u, u1, u2⟩ := holds k9 hk9 (by omega)
        obtain ⟨v1, f1, f2⟩ := k_pourC7i11 I hS I1 hS1 hj1 hy1 hy3 h h9 hk8 hk9 hk u1 o9
        obtain ⟨v2, f3, f4⟩ := k_pourM7is (t := 1) (t9 := 1) I1 hS1 I2 hS2 hj2 (by omega) (by omega) (by omega) (by omega) (by omega) hy1 hy3 h h9 hk8 hk9 hk (k_fnK x1 g1 (by decide) (k_none_ok o1 _ _) u2) o7
        have e1 : v1 = u := by omega
        have e2 : v2 = u := by omega
        subst e1; subst e2
        exact ⟨v2, k_fnK x2 g2 (by decide) (k_none_ok o2 _ _) f1, f3⟩
    · have f1 := k_pourC7o11 I hS I1 hS1 hj1 hy1 hy3 ht htt hk hvc o9
      have hv2 : ∃ v2, k_fn w2 nm 61 (60 * t + k) v2 ∧ v2 = v := by
        rcases Nat.lt_or_gt_of_ne htt with h | h
        · exact k_pourM7l I1 hS1 I2 hS2 hj2 (by omega) (by omega) (by omega) (by omega) (by omega) ht hk o7
        · exact k_pourM7g I1 hS1 I2 hS2 hj2 (by omega) (by omega) (by omega) (by omega) (by omega) ht hk o7
      obtain ⟨v2, f3, f4⟩ := hv2
      subst f4
      exact ⟨v2, k_fnK x2 g2 (by decide) (k_none_ok o2 _ _) f1, f3⟩
  · obtain ⟨v2, f3, f4⟩ := k_pourM7r I1 hS1 I2 hS2 hj2 (by omega) (by omega) (by omega) (by omega) q2 ht hk o7
    subst f4
    by_cases htt : t = 1
    · subst htt
      exact ⟨v2, k_fnK x2 g2 (by decide) (k_none_ok o2 _ _) (k_pourC7r11 I hS I1 hS1 hj1 hy1 hy3 q1 hk o9), f3⟩
    · exact ⟨v2, k_fnK x2 g2 (by decide) (k_none_ok o2 _ _) (k_pourC7o11 I hS I1 hS1 hj1 hy1 hy3 ht htt hk hvc o9), f3⟩
theorem k_pourF12 {w2 : cWld} {H2 : Heap} {locs2 : List Loc} {E1 E2 : cEff} {p1 p2 : List Nat} {k t : Nat} {m ms md : Int} {y1 y2 y3 y4 y5 r9 p9 : Int32} (I : k_In s D dA a1 a2 w H locs) (hS : k_S7 a1 a2 w rw nm r) (I1 : k_In s D dA a1 a2 w' H' locs') (hS1 : k_S7 a1 a2 w' rw nm r) (I2 : k_In s D dA a1 a2 w2 H2 locs2) (hS2 : k_S7 a1 a2 w2 rw nm r) (x1 : c_ext E1 p1 w w') (g1 : p1.all (fun t => Nat.ble 101 t) = true) (o1 : k_none E1 61 = true) (x2 : c_ext E2 p2 w' w2) (g2 : p2.all (fun t => Nat.ble 101 t) = true) (o2 : k_none E2 17 = true) (hj1 : j_Ex0 s D dA 128 w [.ref a1, .int y1, .int y2, .int y3, .int y4, .int y5] H' [.int r9]) (hj2 : j_Ex0 s D dA 215 w' [.ref a2, .int y1, .int y2, .int y3, .int y4, .int y5] H2 [.int p9]) (hy1 : y1.toInt = 1) (hy3 : y3.toInt = 2) (hk : k < 60) (ht : t < 4) (hold : (k : Int) < m → ∃ v : Int, k_fn w (r t) 17 k v ∧ k_fn w nm 61 (60 * t + k) v) (holds : ∀ j : Nat, j < 60 → (j : Int) < ms → ∃ v : Int, k_fn w (r 1) 17 j v ∧ k_fn w nm 61 (60 * 1 + j) v) (hmm : t = 2 → m = md) (hq : (r9.toInt = 1 ∧ p9.toInt = 1 ∧ 0 ≤ y5.toInt ∧ 0 ≤ y2.toInt ∧ 0 ≤ y4.toInt ∧ y2.toInt + y5.toInt ≤ ms ∧ y4.toInt + y5.toInt ≤ md ∧ ms ≤ 60 ∧ md ≤ 60) ∨ (r9.toInt = 0 ∧ p9.toInt = 0)) (hm : (k : Int) < m) : ∃ v : Int, k_fn w2 (r t) 17 k v ∧ k_fn w2 nm 61 (60 * t + k) v := by
  obtain ⟨v, o9, o8⟩ := hold hm
  have o7 := k_fnK x1 g1 (by decide) (k_none_ok o1 _ _) o8
  obtain ⟨vc, hvc⟩ := k_fnL (i := k) I.2.2.1 (hS.2.2.1 2 (by omega)).2 (show k_K.2.1 17 = (2, 60, 0) by decide +kernel) hk
  rcases hq with ⟨q1, q2, n1, n2, n3, n4, n5, n6, n7⟩ | ⟨q1, q2⟩
  · by_cases htt : t = 2
    · subst htt
      have hmm := hmm rfl
      rcases (show (k : Int) < y4.toInt ∨ y4.toInt + y5.toInt ≤ (k : Int) ∨ (y4.toInt ≤ (k : Int) ∧ (k : Int) < y4.toInt + y5.toInt) by omega) with h | h | ⟨h, h9⟩
      · obtain ⟨v1, f1, f2⟩ := k_pourC7l12 I hS I1 hS1 hj1 hy1 hy3 h hk o9
        obtain ⟨v2, f3, f4⟩ := k_pourM7l (t := 2) I1 hS1 I2 hS2 hj2 (by omega) (by omega) (by omega) (by omega) (by omega) (by decide) hk o7
        have e12 : v1 = v2 := by omega
        subst e12
        exact ⟨v1, k_fnK x2 g2 (by decide) (k_none_ok o2 _ _) f1, f3⟩
      · obtain ⟨v1, f1, f2⟩ := k_pourC7g12 I hS I1 hS1 hj1 hy1 hy3 h hk o9
        obtain ⟨v2, f3, f4⟩ := k_pourM7g (t := 2) I1 hS1 I2 hS2 hj2 (by omega) (by omega) (by omega) (by omega) (by omega) (by decide) hk o7
        have e12 : v1 = v2 := by omega
        subst e12
        exact ⟨v1, k_fnK x2 g2 (by decide) (k_none_ok o2 _ _) f1, f3⟩
      · obtain ⟨k9, hk9, hk8⟩ : ∃ k9 : Nat, k9 < 60 ∧ (k9 : Int) = y2.toInt - y4.toInt + (k : Int) := ⟨(y2.toInt - y4.toInt + (k : Int)).toNat, by omega, by omega⟩
        obtain ⟨u, u1, u2⟩ := holds k9 hk9 (by omega)
        obtain ⟨v1, f1, f2⟩ := k_pourC7i12 I hS I1 hS1 hj1 hy1 hy3 h h9 hk8 hk9 hk u1 o9
        obtain ⟨v2, f3, f4⟩ := k_pourM7il (t := 2) (t9 := 1) I1 hS1 I2 hS2 hj2 (by omega) (by omega) (by omega) (by omega) (by omega) hy1 hy3 h h9 hk8 hk9 hk (k_fnK x1 g1 (by decide) (k_none_ok o1 _ _) u2) o7
        have e1 : v1 = u := by omega
        have e2 : v2 = u := by omega
        subst e1; subst e2
        exact ⟨v2, k_fnK x2 g2 (by decide) (k_none_ok o2 _ _) f1, f3⟩
    · have f1 := k_pourC7o12 I hS I1 hS1 hj1 hy1 hy3 ht htt hk hvc o9
      have hv2 : ∃ v2, k_fn w2 nm 61 (60 * t + k) v2 ∧ v2 = v := by
        rcases Nat.lt_or_gt_of_ne htt with h | h
        · exact k_pourM7l I1 hS1 I2 hS2 hj2 (by omega) (by omega) (by omega) (by omega) (by omega) ht hk o7
        · exact k_pourM7g I1 hS1 I2 hS2 hj2 (by omega) (by omega) (by omega) (by omega) (by omega) ht hk o7
      obtain ⟨v2, f3, f4⟩ := hv2
      subst f4
      exact ⟨v2, k_fnK x2 g2 (by decide) (k_none_ok o2 _ _) f1, f3⟩
  · obtain ⟨v2, f3, f4⟩ := k_pourM7r I1 hS1 I2 hS2 hj2 (by omega) (by omega) (by omega) (by omega) q2 ht hk o7
    subst f4
    by_cases htt : t = 2
    · subst htt
      exact ⟨v2, k_fnK x2 g2 (by decide) (k_none_ok o2 _ _) (k_pourC7r12 I hS I1 hS1 hj1 hy1 hy3 q1 hk o9), f3⟩
    · exact ⟨v2, k_fnK x2 g2 (by decide) (k_none_ok o2 _ _) (k_pourC7o12 I hS I1 hS1 hj1 hy1 hy3 ht htt hk hvc o9), f3⟩
theorem k_pourF13 {w2 : cWld} {H2 : Heap} {locs2 : List Loc} {E1 E2 : cEff} {p1 p2 : List Nat} {k t : Nat} {m ms md : Int} {y1 y2 y3 y4 y5 r9 p9 : Int32} (I : k_In s D dA a1 a2 w H locs) (hS : k_S7 a1 a2 w rw nm r) (I1 : k_In s D dA a1 a2 w' H' locs') (hS1 : k_S7 a1 a2 w' rw nm r) (I2 : k_In s D dA a1 a2 w2 H2 locs2) (hS2 : k_S7 a1 a2 w2 rw nm r) (x1 : c_ext E1 p1 w w') (g1 : p1.all (fun t => Nat.ble 101 t) = true) (o1 : k_none E1 61 = true) (x2 : c_ext E2 p2 w' w2) (g2 : p2.all (fun t => Nat.ble 101 t) = true) (o2 : k_none E2 17 = true) (hj1 : j_Ex0 s D dA 128 w [.ref a1, .int y1, .int y2, .int y3, .int y4, .int y5] H' [.int r9]) (hj2 : j_Ex0 s D dA 215 w' [.ref a2, .int y1, .int y2, .int y3, .int y4, .int y5] H2 [.int p9]) (hy1 : y1.toInt = 1) (hy3 : y3.toInt = 3) (hk : k < 60) (ht : t < 4) (hold : (k : Int) < m → ∃ v : Int, k_fn w (r t) 17 k v ∧ k_fn w nm 61 (60 * t + k) v) (holds : ∀ j : Nat, j < 60 → (j : Int) < ms → ∃ v : Int, k_fn w (r 1) 17 j v ∧ k_fn w nm 61 (60 * 1 + j) v) (hmm : t = 3 → m = md) (hq : (r9.toInt = 1 ∧ p9.toInt = 1 ∧ 0 ≤ y5.toInt ∧ 0 ≤ y2.toInt ∧ 0 ≤ y4.toInt ∧ y2.toInt + y5.toInt ≤ ms ∧ y4.toInt + y5.toInt ≤ md ∧ ms ≤ 60 ∧ md ≤ 60) ∨ (r9.toInt = 0 ∧ p9.toInt = 0)) (hm : (k : Int) < m) : ∃ v : Int, k_fn w2 (r t) 17 k v ∧ k_fn w2 nm 61 (60 * t + k) v := by
  obtain ⟨v, o9, o8⟩ := hold hm
  have o7 := k_fnK x1 g1 (by decide) (k_none_ok o1 _ _) o8
  obtain ⟨vc, hvc⟩ := k_fnL (i := k) I.2.2.1 (hS.2.2.1 3 (by omega)).2 (show k_K.2.1 17 = (2, 60, 0) by decide +kernel) hk
  rcases hq with ⟨q1, q2, n1, n2, n3, n4, n5, n6, n7⟩ | ⟨q1, q2⟩
  · by_cases htt : t = 3
    · subst htt
      have hmm := hmm rfl
      rcases (show (k : Int) < y4.toInt ∨ y4.toInt + y5.toInt ≤ (k : Int) ∨ (y4.toInt ≤ (k : Int) ∧ (k : Int) < y4.toInt + y5.toInt) by omega) with h | h | ⟨h, h9⟩
      · obtain ⟨v1, f1, f2⟩ := k_pourC7l13 I hS I1 hS1 hj1 hy1 hy3 h hk o9
        obtain ⟨v2, f3, f4⟩ := k_pourM7l (t := 3) I1 hS1 I2 hS2 hj2 (by omega) (by omega) (by omega) (by omega) (by omega) (by decide) hk o7
        have e12 : v1 = v2 := by omega
        subst e12
        exact ⟨v1, k_fnK x2 g2 (by decide) (k_none_ok o2 _ _) f1, f3⟩
      · obtain ⟨v1, f1, f2⟩ := k_pourC7g13 I hS I1 hS1 hj1 hy1 hy3 h hk o9
        obtain ⟨v2, f3, f4⟩ := k_pourM7g (t := 3) I1 hS1 I2 hS2 hj2 (by omega) (by omega) (by omega) (by omega) (by omega) (by decide) hk o7
        have e12 : v1 = v2 := by omega
        subst e12
        exact ⟨v1, k_fnK x2 g2 (by decide) (k_none_ok o2 _ _) f1, f3⟩
      · obtain ⟨k9, hk9, hk8⟩ : ∃ k9 : Nat, k9 < 60 ∧ (k9 : Int) = y2.toInt - y4.toInt + (k : Int) := ⟨(y2.toInt - y4.toInt + (k : Int)).toNat, by omega, by omega⟩
        obtain ⟨u, u1, u2⟩ := holds k9 hk9 (by omega)
        obtain ⟨v1, f1, f2⟩ := k_pourC7i13 I hS I1 hS1 hj1 hy1 hy3 h h9 hk8 hk9 hk u1 o9
        obtain ⟨v2, f3, f4⟩ := k_pourM7il (t := 3) (t9 := 1) I1 hS1 I2 hS2 hj2 (by omega) (by omega) (by omega) (by omega) (by omega) hy1 hy3 h h9 hk8 hk9 hk (k_fnK x1 g1 (by decide) (k_none_ok o1 _ _) u2) o7
        have e1 : v1 = u := by omega
        have e2 : v2 = u := by omega
        subst e1; subst e2
        exact ⟨v2, k_fnK x2 g2 (by decide) (k_none_ok o2 _ _) f1, f3⟩
    · have f1 := k_pourC7o13 I hS I1 hS1 hj1 hy1 hy3 ht htt hk hvc o9
      have hv2 : ∃ v2, k_fn w2 nm 61 (60 * t + k) v2 ∧ v2 = v := by
        rcases Nat.lt_or_gt_of_ne htt with h | h
        · exact k_pourM7l I1 hS1 I2 hS2 hj2 (by omega) (by omega) (by omega) (by omega) (by omega) ht hk o7
        · exact k_pourM7g I1 hS1 I2 hS2 hj2 (by omega) (by omega) (by omega) (by omega) (by omega) ht hk o7
      obtain ⟨v2, f3, f4⟩ := hv2
      subst f4
      exact ⟨v2, k_fnK x2 g2 (by decide) (k_none_ok o2 _ _) f1, f3⟩
  · obtain ⟨v2, f3, f4⟩ := k_pourM7r I1 hS1 I2 hS2 hj2 (by omega) (by omega) (by omega) (by omega) q2 ht hk o7
    subst f4
    by_cases htt : t = 3
    · subst htt
      exact ⟨v2, k_fnK x2 g2 (by decide) (k_none_ok o2 _ _) (k_pourC7r13 I hS I1 hS1 hj1 hy1 hy3 q1 hk o9), f3⟩
    · exact ⟨v2, k_fnK x2 g2 (by decide) (k_none_ok o2 _ _) (k_pourC7o13 I hS I1 hS1 hj1 hy1 hy3 ht htt hk hvc o9), f3⟩
theorem k_pourF20 {w2 : cWld} {H2 : Heap} {locs2 : List Loc} {E1 E2 : cEff} {p1 p2 : List Nat} {k t : Nat} {m ms md : Int} {y1 y2 y3 y4 y5 r9 p9 : Int32} (I : k_In s D dA a1 a2 w H locs) (hS : k_S7 a1 a2 w rw nm r) (I1 : k_In s D dA a1 a2 w' H' locs') (hS1 : k_S7 a1 a2 w' rw nm r) (I2 : k_In s D dA a1 a2 w2 H2 locs2) (hS2 : k_S7 a1 a2 w2 rw nm r) (x1 : c_ext E1 p1 w w') (g1 : p1.all (fun t => Nat.ble 101 t) = true) (o1 : k_none E1 61 = true) (x2 : c_ext E2 p2 w' w2) (g2 : p2.all (fun t => Nat.ble 101 t) = true) (o2 : k_none E2 17 = true) (hj1 : j_Ex0 s D dA 128 w [.ref a1, .int y1, .int y2, .int y3, .int y4, .int y5] H' [.int r9]) (hj2 : j_Ex0 s D dA 215 w' [.ref a2, .int y1, .int y2, .int y3, .int y4, .int y5] H2 [.int p9]) (hy1 : y1.toInt = 2) (hy3 : y3.toInt = 0) (hk : k < 60) (ht : t < 4) (hold : (k : Int) < m → ∃ v : Int, k_fn w (r t) 17 k v ∧ k_fn w nm 61 (60 * t + k) v) (holds : ∀ j : Nat, j < 60 → (j : Int) < ms → ∃ v : Int, k_fn w (r 2) 17 j v ∧ k_fn w nm 61 (60 * 2 + j) v) (hmm : t = 0 → m = md) (hq : (r9.toInt = 1 ∧ p9.toInt = 1 ∧ 0 ≤ y5.toInt ∧ 0 ≤ y2.toInt ∧ 0 ≤ y4.toInt ∧ y2.toInt + y5.toInt ≤ ms ∧ y4.toInt + y5.toInt ≤ md ∧ ms ≤ 60 ∧ md ≤ 60) ∨ (r9.toInt = 0 ∧ p9.toInt = 0)) (hm : (k : Int) < m) : ∃ v : Int, k_fn w2 (r t) 17 k v ∧ k_fn w2 nm 61 (60 * t + k) v := by
  obtain ⟨v, o9, o8⟩ := hold hm
  have o7 := k_fnK x1 g1 (by decide) (k_none_ok o1 _ _) o8
  obtain ⟨vc, hvc⟩ := k_fnL (i := k) I.2.2.1 (hS.2.2.1 0 (by omega)).2 (show k_K.2.1 17 = (2, 60, 0) by decide +kernel) hk
  rcases hq with ⟨q1, q2, n1, n2, n3, n4, n5, n6, n7⟩ | ⟨q1, q2⟩
  · by_cases htt : t = 0
    · subst htt
      have hmm := hmm rfl
      rcases (show (k : Int) < y4.toInt ∨ y4.toInt + y5.toInt ≤ (k : Int) ∨ (y4.toInt ≤ (k : Int) ∧ (k : Int) < y4.toInt + y5.toInt) by omega) with h | h | ⟨h, h9⟩
      · obtain ⟨v1, f1, f2⟩ := k_pourC7l20 I hS I1 hS1 hj1 hy1 hy3 h hk o9
        obtain ⟨v2, f3, f4⟩ := k_pourM7l (t := 0) I1 hS1 I2 hS2 hj2 (by omega) (by omega) (by omega) (by omega) (by omega) (by decide) hk o7
        have e12 : v1 = v2 := by omega
        subst e12
        exact ⟨v1, k_fnK x2 g2 (by decide) (k_none_ok o2 _ _) f1, f3⟩
      · obtain ⟨v1, f1, f2⟩ := k_pourC7g20 I hS I1 hS1 hj1 hy1 hy3 h hk o9
        obtain ⟨v2, f3, f4⟩ := k_pourM7g (t := 0) I1 hS1 I2 hS2 hj2 (by omega) (by omega) (by omega) (by omega) (by omega) (by decide) hk o7
        have e12 : v1 = v2 := by omega
        subst e12
        exact ⟨v1, k_fnK x2 g2 (by decide) (k_none_ok o2 _ _) f1, f3⟩
      · obtain ⟨k9, hk9, hk8⟩ : ∃ k9 : Nat, k9 < 60 ∧ (k9 : Int) = y2.toInt - y4.toInt + (k : Int) := ⟨(y2.toInt - y4.toInt + (k : Int)).toNat, by omega, by omega⟩
        obtain ⟨u, u1, u2⟩ := holds k9 hk9 (by omega)
        obtain ⟨v1, f1, f2⟩ := k_pourC7i20 I hS I1 hS1 hj1 hy1 hy3 h h9 hk8 hk9 hk u1 o9
        obtain ⟨v2, f3, f4⟩ := k_pourM7ig (t := 0) (t9 := 2) I1 hS1 I2 hS2 hj2 (by omega) (by omega) (by omega) (by omega) (by omega) hy1 hy3 h h9 hk8 hk9 hk (k_fnK x1 g1 (by decide) (k_none_ok o1 _ _) u2) o7
        have e1 : v1 = u := by omega
        have e2 : v2 = u := by omega
        subst e1; subst e2
        exact ⟨v2, k_fnK x2 g2 (by decide) (k_none_ok o2 _ _) f1, f3⟩
    · have f1 := k_pourC7o20 I hS I1 hS1 hj1 hy1 hy3 ht htt hk hvc o9
      have hv2 : ∃ v2, k_fn w2 nm 61 (60 * t + k) v2 ∧ v2 = v := by
        rcases Nat.lt_or_gt_of_ne htt with h | h
        · exact k_pourM7l I1 hS1 I2 hS2 hj2 (by omega) (by omega) (by omega) (by omega) (by omega) ht hk o7
        · exact k_pourM7g I1 hS1 I2 hS2 hj2 (by omega) (by omega) (by omega) (by omega) (by omega) ht hk o7
      obtain ⟨v2, f3, f4⟩ := hv2
      subst f4
      exact ⟨v2, k_fnK x2 g2 (by decide) (k_none_ok o2 _ _) f1, f3⟩
  · obtain ⟨v2, f3, f4⟩ := k_pourM7r I1 hS1 I2 hS2 hj2 (by omega) (by omega) (by omega) (by omega) q2 ht hk o7
    subst f4
    by_cases htt : t = 0
    · subst htt
      exact ⟨v2, k_fnK x2 g2 (by decide) (k_none_ok o2 _ _) (k_pourC7r20 I hS I1 hS1 hj1 hy1 hy3 q1 hk o9), f3⟩
    · exact ⟨v2, k_fnK x2 g2 (by decide) (k_none_ok o2 _ _) (k_pourC7o20 I hS I1 hS1 hj1 hy1 hy3 ht htt hk hvc o9), f3⟩
theorem k_pourF21 {w2 : cWld} {H2 : Heap} {locs2 : List Loc} {E1 E2 : cEff} {p1 p2 : List Nat} {k t : Nat} {m ms md : Int} {y1 y2 y3 y4 y5 r9 p9 : Int32} (I : k_In s D dA a1 a2 w H locs) (hS : k_S7 a1 a2 w rw nm r) (I1 : k_In s D dA a1 a2 w' H' locs') (hS1 : k_S7 a1 a2 w' rw nm r) (I2 : k_In s D dA a1 a2 w2 H2 locs2) (hS2 : k_S7 a1 a2 w2 rw nm r) (x1 : c_ext E1 p1 w w') (g1 : p1.all (fun t => Nat.ble 101 t) = true) (o1 : k_none E1 61 = true) (x2 : c_ext E2 p2 w' w2) (g2 : p2.all (fun t => Nat.ble 101 t) = true) (o2 : k_none E2 17 = true) (hj1 : j_Ex0 s D dA 128 w [.ref a1, .int y1, .int y2, .int y3, .int y4, .int y5] H' [.int r9]) (hj2 : j_Ex0 s D dA 215 w' [.ref a2, .int y1, .int y2, .int y3, .int y4, .int y5] H2 [.int p9]) (hy1 : y1.toInt = 2) (hy3 : y3.toInt = 1) (hk : k < 60) (ht : t < 4) (hold : (k : Int) < m → ∃ v : Int, k_fn w (r t) 17 k v ∧ k_fn w nm 61 (60 * t + k) v) (holds : ∀ j : Nat, j < 60 → (j : Int) < ms → ∃ v : Int, k_fn w (r 2) 17 j v ∧ k_fn w nm 61 (60 * 2 + j) v) (hmm : t = 1 → m = md) (hq : (r9.toInt = 1 ∧ p9.toInt = 1 ∧ 0 ≤ y5.toInt ∧ 0 ≤ y2.toInt ∧ 0 ≤ y4.toInt ∧ y2.toInt + y5.toInt ≤ ms ∧ y4.toInt + y5.toInt ≤ md ∧ ms ≤ 60 ∧ md ≤ 60) ∨ (r9.toInt = 0 ∧ p9.toInt = 0)) (hm : (k : Int) < m) : ∃ v : Int, k_fn w2 (r t) 17 k v ∧ k_fn w2 nm 61 (60 * t + k) v := by
  obtain ⟨v, o9, o8⟩ := hold hm
  have o7 := k_fnK x1 g1 (by decide) (k_none_ok o1 _ _) o8
  obtain ⟨vc, hvc⟩ := k_fnL (i := k) I.2.2.1 (hS.2.2.1 1 (by omega)).2 (show k_K.2.1 17 = (2, 60, 0) by decide +kernel) hk
  rcases hq with ⟨q1, q2, n1, n2, n3, n4, n5, n6, n7⟩ | ⟨q1, q2⟩
  · by_cases htt : t = 1
    · subst htt
      have hmm := hmm rfl
      rcases (show (k : Int) < y4.toInt ∨ y4.toInt + y5.toInt ≤ (k : Int) ∨ (y4.toInt ≤ (k : Int) ∧ (k : Int) < y4.toInt + y5.toInt) by omega) with h | h | ⟨h, h9⟩
      · obtain ⟨v1, f1, f2⟩ := k_pourC7l21 I hS I1 hS1 hj1 hy1 hy3 h hk o9
        obtain ⟨v2, f3, f4⟩ := k_pourM7l (t := 1) I1 hS1 I2 hS2 hj2 (by omega) (by omega) (by omega) (by omega) (by omega) (by decide) hk o7
        have e12 : v1 = v2 := by omega
        subst e12
        exact ⟨v1, k_fnK x2 g2 (by decide) (k_none_ok o2 _ _) f1, f3⟩
      · obtain ⟨v1, f1, f2⟩ := k_pourC7g21 I hS I1 hS1 hj1 hy1 hy3 h hk o9
        obtain ⟨v2, f3, f4⟩ := k_pourM7g (t := 1) I1 hS1 I2 hS2 hj2 (by omega) (by omega) (by omega) (by omega) (by omega) (by decide) hk o7
        have e12 : v1 = v2 := by omega
        subst e12
        exact ⟨v1, k_fnK x2 g2 (by decide) (k_none_ok o2 _ _) f1, f3⟩
      · obtain ⟨k9, hk9, hk8⟩ : ∃ k9 : Nat, k9 < 60 ∧ (k9 : Int) = y2.toInt - y4.toInt + (k : Int) := ⟨(y2.toInt - y4.toInt + (k : Int)).toNat, by omega, by omega⟩
        obtain ⟨u, u1, u2⟩ := holds k9 hk9 (by omega)
        obtain ⟨v1, f1, f2⟩ := k_pourC7i21 I hS I1 hS1 hj1 hy1 hy3 h h9 hk8 hk9 hk u1 o9
        obtain ⟨v2, f3, f4⟩ := k_pourM7ig (t := 1) (t9 := 2) I1 hS1 I2 hS2 hj2 (by omega) (by omega) (by omega) (by omega) (by omega) hy1 hy3 h h9 hk8 hk9 hk (k_fnK x1 g1 (by decide) (k_none_ok o1 _ _) u2) o7
        have e1 : v1 = u := by omega
        have e2 : v2 = u := by omega
        subst e1; subst e2
        exact ⟨v2, k_fnK x2 g2 (by decide) (k_none_ok o2 _ _) f1, f3⟩
    · have f1 := k_pourC7o21 I hS I1 hS1 hj1 hy1 hy3 ht htt hk hvc o9
      have hv2 : ∃ v2, k_fn w2 nm 61 (60 * t + k) v2 ∧ v2 = v := by
        rcases Nat.lt_or_gt_of_ne htt with h | h
        · exact k_pourM7l I1 hS1 I2 hS2 hj2 (by omega) (by omega) (by omega) (by omega) (by omega) ht hk o7
        · exact k_pourM7g I1 hS1 I2 hS2 hj2 (by omega) (by omega) (by omega) (by omega) (by omega) ht hk o7
      obtain ⟨v2, f3, f4⟩ := hv2
      subst f4
      exact ⟨v2, k_fnK x2 g2 (by decide) (k_none_ok o2 _ _) f1, f3⟩
  · obtain ⟨v2, f3, f4⟩ := k_pourM7r I1 hS1 I2 hS2 hj2 (by omega) (by omega) (by omega) (by omega) q2 ht hk o7
    subst f4
    by_cases htt : t = 1
    · subst htt
      exact ⟨v2, k_fnK x2 g2 (by decide) (k_none_ok o2 _ _) (k_pourC7r21 I hS I1 hS1 hj1 hy1 hy3 q1 hk o9), f3⟩
    · exact ⟨v2, k_fnK x2 g2 (by decide) (k_none_ok o2 _ _) (k_pourC7o21 I hS I1 hS1 hj1 hy1 hy3 ht htt hk hvc o9), f3⟩
theorem k_pourF22 {w2 : cWld} {H2 : Heap} {locs2 : List Loc} {E1 E2 : cEff} {p1 p2 : List Nat} {k t : Nat} {m ms md : Int} {y1 y2 y3 y4 y5 r9 p9 : Int32} (I : k_In s D dA a1 a2 w H locs) (hS : k_S7 a1 a2 w rw nm r) (I1 : k_In s D dA a1 a2 w' H' locs') (hS1 : k_S7 a1 a2 w' rw nm r) (I2 : k_In s D dA a1 a2 w2 H2 locs2) (hS2 : k_S7 a1 a2 w2 rw nm r) (x1 : c_ext E1 p1 w w') (g1 : p1.all (fun t => Nat.ble 101 t) = true) (o1 : k_none E1 61 = true) (x2 : c_ext E2 p2 w' w2) (g2 : p2.all (fun t => Nat.ble 101 t) = true) (o2 : k_none E2 17 = true) (hj1 : j_Ex0 s D dA 128 w [.ref a1, .int y1, .int y2, .int y3, .int y4, .int y5] H' [.int r9]) (hj2 : j_Ex0 s D dA 215 w' [.ref a2, .int y1, .int y2, .int y3, .int y4, .int y5] H2 [.int p9]) (hy1 : y1.toInt = 2) (hy3 : y3.toInt = 2) (hk : k < 60) (ht : t < 4) (hold : (k : Int) < m → ∃ v : Int, k_fn w (r t) 17 k v ∧ k_fn w nm 61 (60 * t + k) v) (holds : ∀ j : Nat, j < 60 → (j : Int) < ms → ∃ v : Int, k_fn w (r 2) 17 j v ∧ k_fn w nm 61 (60 * 2 + j) v) (hmm : t = 2 → m = md) (hq : (r9.toInt = 1 ∧ p9.toInt = 1 ∧ 0 ≤ y5.toInt ∧ 0 ≤ y2.toInt ∧ 0 ≤ y4.toInt ∧ y2.toInt + y5.toInt ≤ ms ∧ y4.toInt + y5.toInt ≤ md ∧ ms ≤ 60 ∧ md ≤ 60) ∨ (r9.toInt = 0 ∧ p9.toInt = 0)) (hm : (k : Int) < m) : ∃ v : Int, k_fn w2 (r t) 17 k v ∧ k_fn w2 nm 61 (60 * t + k) v := by
  obtain ⟨v, o9, o8⟩ := hold hm
  have o7 := k_fnK x1 g1 (by decide) (k_none_ok o1 _ _) o8
  obtain ⟨vc, hvc⟩ := k_fnL (i := k) I.2.2.1 (hS.2.2.1 2 (by omega)).2 (show k_K.2.1 17 = (2, 60, 0) by decide +kernel) hk
  rcases hq with ⟨q1, q2, n1, n2, n3, n4, n5, n6, n7⟩ | ⟨q1, q2⟩
  · by_cases htt : t = 2
    · subst htt
      have hmm := hmm rfl
      rcases (show (k : Int) < y4.toInt ∨ y4.toInt + y5.toInt ≤ (k : Int) ∨ (y4.toInt ≤ (k : Int) ∧ (k : Int) < y4.toInt + y5.toInt) by omega) with h | h | ⟨h, h9⟩
      · obtain ⟨v1, f1, f2⟩ := k_pourC7l22 I hS I1 hS1 hj1 hy1 hy3 h hk o9
        obtain ⟨v2, f3, f4⟩ := k_pourM7l (t := 2) I1 hS1 I2 hS2 hj2 (by omega) (by omega) (by omega) (by omega) (by omega) (by decide) hk o7
        have e12 : v1 = v2 := by omega
        subst e12
        exact ⟨v1, k_fnK x2 g2 (by decide) (k_none_ok o2 _ _) f1, f3⟩
      · obtain ⟨v1, f1, f2⟩ := k_pourC7g22 I hS I1 hS1 hj1 hy1 hy3 h hk o9
        obtain ⟨v2, f3, f4⟩ := k_pourM7g (t := 2) I1 hS1 I2 hS2 hj2 (by omega) (by omega) (by omega) (by omega) (by omega) (by decide) hk o7
        have e12 : v1 = v2 := by omega
        subst e12
        exact ⟨v1, k_fnK x2 g2 (by decide) (k_none_ok o2 _ _) f1, f3⟩
      · obtain ⟨k9, hk9, hk8⟩ : ∃ k9 : Nat, k9 < 60 ∧ (k9 : Int) = y2.toInt - y4.toInt + (k : Int) := ⟨(y2.toInt - y4.toInt + (k : Int)).toNat, by omega, by omega⟩
        obtain ⟨u, u1, u2⟩ := holds k9 hk9 (by omega)
        obtain ⟨v1, f1, f2⟩ := k_pourC7i22 I hS I1 hS1 hj1 hy1 hy3 h h9 hk8 hk9 hk u1 o9
        obtain ⟨v2, f3, f4⟩ := k_pourM7is (t := 2) (t9 := 2) I1 hS1 I2 hS2 hj2 (by omega) (by omega) (by omega) (by omega) (by omega) hy1 hy3 h h9 hk8 hk9 hk (k_fnK x1 g1 (by decide) (k_none_ok o1 _ _) u2) o7
        have e1 : v1 = u := by omega
        have e2 : v2 = u := by omega
        subst e1; subst e2
        exact ⟨v2, k_fnK x2 g2 (by decide) (k_none_ok o2 _ _) f1, f3⟩
    · have f1 := k_pourC7o22 I hS I1 hS1 hj1 hy1 hy3 ht htt hk hvc o9
      have hv2 : ∃ v2, k_fn w2 nm 61 (60 * t + k) v2 ∧ v2 = v := by
        rcases Nat.lt_or_gt_of_ne htt with h | h
        · exact k_pourM7l I1 hS1 I2 hS2 hj2 (by omega) (by omega) (by omega) (by omega) (by omega) ht hk o7
        · exact k_pourM7g I1 hS1 I2 hS2 hj2 (by omega) (by omega) (by omega) (by omega) (by omega) ht hk o7
      obtain ⟨v2, f3, f4⟩ := hv2
      subst f4
      exact ⟨v2, k_fnK x2 g2 (by decide) (k_none_ok o2 _ _) f1, f3⟩
  · obtain ⟨v2, f3, f4⟩ := k_pourM7r I1 hS1 I2 hS2 hj2 (by omega) (by omega) (by omega) (by omega) q2 ht hk o7
    subst f4
    by_cases htt : t = 2
    · subst htt
      exact ⟨v2, k_fnK x2 g2 (by decide) (k_none_ok o2 _ _) (k_pourC7r22 I hS I1 hS1 hj1 hy1 hy3 q1 hk o9), f3⟩
    · exact ⟨v2, k_fnK x2 g2 (by decide) (k_none_ok o2 _ _) (k_pourC7o22 I hS I1 hS1 hj1 hy1 hy3 ht htt hk hvc o9), f3⟩
theorem k_pourF23 {w2 : cWld} {H2 : Heap} {locs2 : List Loc} {E1 E2 : cEff} {p1 p2 : List Nat} {k t : Nat} {m ms md : Int} {y1 y2 y3 y4 y5 r9 p9 : Int32} (I : k_In s D dA a1 a2 w H locs) (hS : k_S7 a1 a2 w rw nm r) (I1 : k_In s D dA a1 a2 w' H' locs') (hS1 : k_S7 a1 a2 w' rw nm r) (I2 : k_In s D dA a1 a2 w2 H2 locs2) (hS2 : k_S7 a1 a2 w2 rw nm r) (x1 : c_ext E1 p1 w w') (g1 : p1.all (fun t => Nat.ble 101 t) = true) (o1 : k_none E1 61 = true) (x2 : c_ext E2 p2 w' w2) (g2 : p2.all (fun t => Nat.ble 101 t) = true) (o2 : k_none E2 17 = true) (hj1 : j_Ex0 s D dA 128 w [.ref a1, .int y1, .int y2, .int y3, .int y4, .int y5] H' [.int r9]) (hj2 : j_Ex0 s D dA 215 w' [.ref a2, .int y1, .int y2, .int y3, .int y4, .int y5] H2 [.int p9]) (hy1 : y1.toInt = 2) (hy3 : y3.toInt = 3) (hk : k < 60) (ht : t < 4) (hold : (k : Int) < m → ∃ v : Int, k_fn w (r t) 17 k v ∧ k_fn w nm 61 (60 * t + k) v) (holds : ∀ j : Nat, j < 60 → (j : Int) < ms → ∃ v : Int, k_fn w (r 2) 17 j v ∧ k_fn w nm 61 (60 * 2 + j) v) (hmm : t = 3 → m = md) (hq : (r9.toInt = 1 ∧ p9.toInt = 1 ∧ 0 ≤ y5.toInt ∧ 0 ≤ y2.toInt ∧ 0 ≤ y4.toInt ∧ y2.toInt + y5.toInt ≤ ms ∧ y4.toInt + y5.toInt ≤ md ∧ ms ≤ 60 ∧ md ≤ 60) ∨ (r9.toInt = 0 ∧ p9.toInt = 0)) (hm : (k : Int) < m) : ∃ v : Int, k_fn w2 (r t) 17 k v ∧ k_fn w2 nm 61 (60 * t + k) v := by
  obtain ⟨v, o9, o8⟩ := hold hm
  have o7 := k_fnK x1 g1 (by decide) (k_none_ok o1 _ _) o8
  obtain ⟨vc, hvc⟩ := k_fnL (i := k) I.2.2.1 (hS.2.2.1 3 (by omega)).2 (show k_K.2.1 17 = (2, 60, 0) by decide +kernel) hk
  rcases hq with ⟨q1, q2, n1, n2, n3, n4, n5, n6, n7⟩ | ⟨q1, q2⟩
  · by_cases htt : t = 3
    · subst htt
      have hmm := hmm rfl
      rcases (show (k : Int) < y4.toInt ∨ y4.toInt + y5.toInt ≤ (k : Int) ∨ (y4.toInt ≤ (k : Int) ∧ (k : Int) < y4.toInt + y5.toInt) by omega) with h | h | ⟨h, h9⟩
      · obtain ⟨v1, f1, f2⟩ := k_pourC7l23 I hS I1 hS1 hj1 hy1 hy3 h hk o9
        obtain ⟨v2, f3, f4⟩ := k_pourM7l (t := 3) I1 hS1 I2 hS2 hj2 (by omega) (by omega) (by omega) (by omega) (by omega) (by decide) hk o7
        have e12 : v1 = v2 := by omega
        subst e12
        exact ⟨v1, k_fnK x2 g2 (by decide) (k_none_ok o2 _ _) f1, f3⟩
      · obtain ⟨v1, f1, f2⟩ := k_pourC7g23 I hS I1 hS1 hj1 hy1 hy3 h hk o9
        obtain ⟨v2, f3, f4⟩ := k_pourM7g (t := 3) I1 hS1 I2 hS2 hj2 (by omega) (by omega) (by omega) (by omega) (by omega) (by decide) hk o7
        have e12 : v1 = v2 := by omega
        subst e12
        exact ⟨v1, k_fnK x2 g2 (by decide) (k_none_ok o2 _ _) f1, f3⟩
      · obtain ⟨k9, hk9, hk8⟩ : ∃ k9 : Nat, k9 < 60 ∧ (k9 : Int) = y2.toInt - y4.toInt + (k : Int) := ⟨(y2.toInt - y4.toInt + (k : Int)).toNat, by omega, by omega⟩
        obtain ⟨u, u1, u2⟩ := holds k9 hk9 (by omega)
        obtain ⟨v1, f1, f2⟩ := k_pourC7i23 I hS I1 hS1 hj1 hy1 hy3 h h9 hk8 hk9 hk u1 o9
        obtain ⟨v2, f3, f4⟩ := k_pourM7il (t := 3) (t9 := 2) I1 hS1 I2 hS2 hj2 (by omega) (by omega) (by omega) (by omega) (by omega) hy1 hy3 h h9 hk8 hk9 hk (k_fnK x1 g1 (by decide) (k_none_ok o1 _ _) u2) o7
        have e1 : v1 = u := by omega
        have e2 : v2 = u := by omega
        subst e1; subst e2
        exact ⟨v2, k_fnK x2 g2 (by decide) (k_none_ok o2 _ _) f1, f3⟩
    · have f1 := k_pourC7o23 I hS I1 hS1 hj1 hy1 hy3 ht htt hk hvc o9
      have hv2 : ∃ v2, k_fn w2 nm 61 (60 * t + k) v2 ∧ v2 = v := by
        rcases Nat.lt_or_gt_of_ne htt with h | h
        · exact k_pourM7l I1 hS1 I2 hS2 hj2 (by omega) (by omega) (by omega) (by omega) (by omega) ht hk o7
        · exact k_pourM7g I1 hS1 I2 hS2 hj2 (by omega) (by omega) (by omega) (by omega) (by omega) ht hk o7
      obtain ⟨v2, f3, f4⟩ := hv2
      subst f4
      exact ⟨v2, k_fnK x2 g2 (by decide) (k_none_ok o2 _ _) f1, f3⟩
  · obtain ⟨v2, f3, f4⟩ := k_pourM7r I1 hS1 I2 hS2 hj2 (by omega) (by omega) (by omega) (by omega) q2 ht hk o7
    subst f4
    by_cases htt : t = 3
    · subst htt
      exact ⟨v2, k_fnK x2 g2 (by decide) (k_none_ok o2 _ _) (k_pourC7r23 I hS I1 hS1 hj1 hy1 hy3 q1 hk o9), f3⟩
    · exact ⟨v2, k_fnK x2 g2 (by decide) (k_none_ok o2 _ _) (k_pourC7o23 I hS I1 hS1 hj1 hy1 hy3 ht htt hk hvc o9), f3⟩
theorem k_pourF30 {w2 : cWld} {H2 : Heap} {locs2 : List Loc} {E1 E2 : cEff} {p1 p2 : List Nat} {k t : Nat} {m ms md : Int} {y1 y2 y3 y4 y5 r9 p9 : Int32} (I : k_In s D dA a1 a2 w H locs) (hS : k_S7 a1 a2 w rw nm r) (I1 : k_In s D dA a1 a2 w' H' locs') (hS1 : k_S7 a1 a2 w' rw nm r) (I2 : k_In s D dA a1 a2 w2 H2 locs2) (hS2 : k_S7 a1 a2 w2 rw nm r) (x1 : c_ext E1 p1 w w') (g1 : p1.all (fun t => Nat.ble 101 t) = true) (o1 : k_none E1 61 = true) (x2 : c_ext E2 p2 w' w2) (g2 : p2.all (fun t => Nat.ble 101 t) = true) (o2 : k_none E2 17 = true) (hj1 : j_Ex0 s D dA 128 w [.ref a1, .int y1, .int y2, .int y3, .int y4, .int y5] H' [.int r9]) (hj2 : j_Ex0 s D dA 215 w' [.ref a2, .int y1, .int y2, .int y3, .int y4, .int y5] H2 [.int p9]) (hy1 : y1.toInt = 3) (hy3 : y3.toInt = 0) (hk : k < 60) (ht : t < 4) (hold : (k : Int) < m → ∃ v : Int, k_fn w (r t) 17 k v ∧ k_fn w nm 61 (60 * t + k) v) (holds : ∀ j : Nat, j < 60 → (j : Int) < ms → ∃ v : Int, k_fn w (r 3) 17 j v ∧ k_fn w nm 61 (60 * 3 + j) v) (hmm : t = 0 → m = md) (hq : (r9.toInt = 1 ∧ p9.toInt = 1 ∧ 0 ≤ y5.toInt ∧ 0 ≤ y2.toInt ∧ 0 ≤ y4.toInt ∧ y2.toInt + y5.toInt ≤ ms ∧ y4.toInt + y5.toInt ≤ md ∧ ms ≤ 60 ∧ md ≤ 60) ∨ (r9.toInt = 0 ∧ p9.toInt = 0)) (hm : (k : Int) < m) : ∃ v : Int, k_fn w2 (r t) 17 k v ∧ k_fn w2 nm 61 (60 * t + k) v := by
  obtain ⟨v, o9, o8⟩ := hold hm
  have o7 := k_fnK x1 g1 (by decide) (k_none_ok o1 _ _) o8
  obtain ⟨vc, hvc⟩ := k_fnL (i := k) I.2.2.1 (hS.2.2.1 0 (by omega)).2 (show k_K.2.1 17 = (2, 60, 0) by decide +kernel) hk
  rcases hq with ⟨q1, q2, n1, n2, n3, n4, n5, n6, n7⟩ | ⟨q1, q2⟩
  · by_cases htt : t = 0
    · subst htt
      have hmm := hmm rfl
      rcases (show (k : Int) < y4.toInt ∨ y4.toInt + y5.toInt ≤ (k : Int) ∨ (y4.toInt ≤ (k : Int) ∧ (k : Int) < y4.toInt + y5.toInt) by omega) with h | h | ⟨h, h9⟩
      · obtain ⟨v1, f1, f2⟩ := k_pourC7l30 I hS I1 hS1 hj1 hy1 hy3 h hk o9
        obtain ⟨v2, f3, f4⟩ := k_pourM7l (t := 0) I1 hS1 I2 hS2 hj2 (by omega) (by omega) (by omega) (by omega) (by omega) (by decide) hk o7
        have e12 : v1 = v2 := by omega
        subst e12
        exact ⟨v1, k_fnK x2 g2 (by decide) (k_none_ok o2 _ _) f1, f3⟩
      · obtain ⟨v1, f1, f2⟩ := k_pourC7g30 I hS I1 hS1 hj1 hy1 hy3 h hk o9
        obtain ⟨v2, f3, f4⟩ := k_pourM7g (t := 0) I1 hS1 I2 hS2 hj2 (by omega) (by omega) (by omega) (by omega) (by omega) (by decide) hk o7
        have e12 : v1 = v2 := by omega
        subst e12
        exact ⟨v1, k_fnK x2 g2 (by decide) (k_none_ok o2 _ _) f1, f3⟩
      · obtain ⟨k9, hk9, hk8⟩ : ∃ k9 : Nat, k9 < 60 ∧ (k9 : Int) = y2.toInt - y4.toInt + (k : Int) := ⟨(y2.toInt - y4.toInt + (k : Int)).toNat, by omega, by omega⟩
        obtain ⟨u, u1, u2⟩ := holds k9 hk9 (by omega)
        obtain ⟨v1, f1, f2⟩ := k_pourC7i30 I hS I1 hS1 hj1 hy1 hy3 h h9 hk8 hk9 hk u1 o9
        obtain ⟨v2, f3, f4⟩ := k_pourM7ig (t := 0) (t9 := 3) I1 hS1 I2 hS2 hj2 (by omega) (by omega) (by omega) (by omega) (by omega) hy1 hy3 h h9 hk8 hk9 hk (k_fnK x1 g1 (by decide) (k_none_ok o1 _ _) u2) o7
        have e1 : v1 = u := by omega
        have e2 : v2 = u := by omega
        subst e1; subst e2
        exact ⟨v2, k_fnK x2 g2 (by decide) (k_none_ok o2 _ _) f1, f3⟩
    · have f1 := k_pourC7o30 I hS I1 hS1 hj1 hy1 hy3 ht htt hk hvc o9
      have hv2 : ∃ v2, k_fn w2 nm 61 (60 * t + k) v2 ∧ v2 = v := by
        rcases Nat.lt_or_gt_of_ne htt with h | h
        · exact k_pourM7l I1 hS1 I2 hS2 hj2 (by omega) (by omega) (by omega) (by omega) (by omega) ht hk o7
        · exact k_pourM7g I1 hS1 I2 hS2 hj2 (by omega) (by omega) (by omega) (by omega) (by omega) ht hk o7
      obtain ⟨v2, f3, f4⟩ := hv2
      subst f4
      exact ⟨v2, k_fnK x2 g2 (by decide) (k_none_ok o2 _ _) f1, f3⟩
  · obtain ⟨v2, f3, f4⟩ := k_pourM7r I1 hS1 I2 hS2 hj2 (by omega) (by omega) (by omega) (by omega) q2 ht hk o7
    subst f4
    by_cases htt : t = 0
    · subst htt
      exact ⟨v2, k_fnK x2 g2 (by decide) (k_none_ok o2 _ _) (k_pourC7r30 I hS I1 hS1 hj1 hy1 hy3 q1 hk o9), f3⟩
    · exact ⟨v2, k_fnK x2 g2 (by decide) (k_none_ok o2 _ _) (k_pourC7o30 I hS I1 hS1 hj1 hy1 hy3 ht htt hk hvc o9), f3⟩
theorem k_pourF31 {w2 : cWld} {H2 : Heap} {locs2 : List Loc} {E1 E2 : cEff} {p1 p2 : List Nat} {k t : Nat} {m ms md : Int} {y1 y2 y3 y4 y5 r9 p9 : Int32} (I : k_In s D dA a1 a2 w H locs) (hS : k_S7 a1 a2 w rw nm r) (I1 : k_In s D dA a1 a2 w' H' locs') (hS1 : k_S7 a1 a2 w' rw nm r) (I2 : k_In s D dA a1 a2 w2 H2 locs2) (hS2 : k_S7 a1 a2 w2 rw nm r) (x1 : c_ext E1 p1 w w') (g1 : p1.all (fun t => Nat.ble 101 t) = true) (o1 : k_none E1 61 = true) (x2 : c_ext E2 p2 w' w2) (g2 : p2.all (fun t => Nat.ble 101 t) = true) (o2 : k_none E2 17 = true) (hj1 : j_Ex0 s D dA 128 w [.ref a1, .int y1, .int y2, .int y3, .int y4, .int y5] H' [.int r9]) (hj2 : j_Ex0 s D dA 215 w' [.ref a2, .int y1, .int y2, .int y3, .int y4, .int y5] H2 [.int p9]) (hy1 : y1.toInt = 3) (hy3 : y3.toInt = 1) (hk : k < 60) (ht : t < 4) (hold : (k : Int) < m → ∃ v : Int, k_fn w (r t) 17 k v ∧ k_fn w nm 61 (60 * t + k) v) (holds : ∀ j : Nat, j < 60 → (j : Int) < ms → ∃ v : Int, k_fn w (r 3) 17 j v ∧ k_fn w nm 61 (60 * 3 + j) v) (hmm : t = 1 → m = md) (hq : (r9.toInt = 1 ∧ p9.toInt = 1 ∧ 0 ≤ y5.toInt ∧ 0 ≤ y2.toInt ∧ 0 ≤ y4.toInt ∧ y2.toInt + y5.toInt ≤ ms ∧ y4.toInt + y5.toInt ≤ md ∧ ms ≤ 60 ∧ md ≤ 60) ∨ (r9.toInt = 0 ∧ p9.toInt = 0)) (hm : (k : Int) < m) : ∃ v : Int, k_fn w2 (r t) 17 k v ∧ k_fn w2 nm 61 (60 * t + k) v := by
  obtain ⟨v, o9, o8⟩ := hold hm
  have o7 := k_fnK x1 g1 (by decide) (k_none_ok o1 _ _) o8
  obtain ⟨vc, hvc⟩ := k_fnL (i := k) I.2.2.1 (hS.2.2.1 1 (by omega)).2 (show k_K.2.1 17 = (2, 60, 0) by decide +kernel) hk
  rcases hq with ⟨q1, q2, n1, n2, n3, n4, n5, n6, n7⟩ | ⟨q1, q2⟩
  · by_cases htt : t = 1
    · subst htt
      have hmm := hmm rfl
      rcases (show (k : Int) < y4.toInt ∨ y4.toInt + y5.toInt ≤ (k : Int) ∨ (y4.toInt ≤ (k : Int) ∧ (k : Int) < y4.toInt + y5.toInt) by omega) with h | h | ⟨h, h9⟩
      · obtain ⟨v1, f1, f2⟩ := k_pourC7l31 I hS I1 hS1 hj1 hy1 hy3 h hk o9
        obtain ⟨v2, f3, f4⟩ := k_pourM7l (t := 1) I1 hS1 I2 hS2 hj2 (by omega) (by omega) (by omega) (by omega) (by omega) (by decide) hk o7
        have e12 : v1 = v2 := by omega
        subst e12
        exact ⟨v1, k_fnK x2 g2 (by decide) (k_none_ok o2 _ _) f1, f3⟩
      · obtain ⟨v1, f1, f2⟩ := k_pourC7g31 I hS I1 hS1 hj1 hy1 hy3 h hk o9
        obtain ⟨v2, f3, f4⟩ := k_pourM7g (t := 1) I1 hS1 I2 hS2 hj2 (by omega) (by omega) (by omega) (by omega) (by omega) (by decide) hk o7
        have e12 : v1 = v2 := by omega
        subst e12
        exact ⟨v1, k_fnK x2 g2 (by decide) (k_none_ok o2 _ _) f1, f3⟩
      · obtain ⟨k9, hk9, hk8⟩ : ∃ k9 : Nat, k9 < 60 ∧ (k9 : Int) = y2.toInt - y4.toInt + (k : Int) := ⟨(y2.toInt - y4.toInt + (k : Int)).toNat, by omega, by omega⟩
        obtain ⟨u, u1, u2⟩ := holds k9 hk9 (by omega)
        obtain ⟨v1, f1, f2⟩ := k_pourC7i31 I hS I1 hS1 hj1 hy1 hy3 h h9 hk8 hk9 hk u1 o9
        obtain ⟨v2, f3, f4⟩ := k_pourM7ig (t := 1) (t9 := 3) I1 hS1 I2 hS2 hj2 (by omega) (by omega) (by omega) (by omega) (by omega) hy1 hy3 h h9 hk8 hk9 hk (k_fnK x1 g1 (by decide) (k_none_ok o1 _ _) u2) o7
        have e1 : v1 = u := by omega
        have e2 : v2 = u := by omega
        subst e1; subst e2
        exact ⟨v2, k_fnK x2 g2 (by decide) (k_none_ok o2 _ _) f1, f3⟩
    · have f1 := k_pourC7o31 I hS I1 hS1 hj1 hy1 hy3 ht htt hk hvc o9
      have hv2 : ∃ v2, k_fn w2 nm 61 (60 * t + k) v2 ∧ v2 = v := by
        rcases Nat.lt_or_gt_of_ne htt with h | h
        · exact k_pourM7l I1 hS1 I2 hS2 hj2 (by omega) (by omega) (by omega) (by omega) (by omega) ht hk o7
        · exact k_pourM7g I1 hS1 I2 hS2 hj2 (by omega) (by omega) (by omega) (by omega) (by omega) ht hk o7
      obtain ⟨v2, f3, f4⟩ := hv2
      subst f4
      exact ⟨v2, k_fnK x2 g2 (by decide) (k_none_ok o2 _ _) f1, f3⟩
  · obtain ⟨v2, f3, f4⟩ := k_pourM7r I1 hS1 I2 hS2 hj2 (by omega) (by omega) (by omega) (by omega) q2 ht hk o7
    subst f4
    by_cases htt : t = 1
    · subst htt
      exact ⟨v2, k_fnK x2 g2 (by decide) (k_none_ok o2 _ _) (k_pourC7r31 I hS I1 hS1 hj1 hy1 hy3 q1 hk o9), f3⟩
    · exact ⟨v2, k_fnK x2 g2 (by decide) (k_none_ok o2 _ _) (k_pourC7o31 I hS I1 hS1 hj1 hy1 hy3 ht htt hk hvc o9), f3⟩
theorem k_pourF32 {w2 : cWld} {H2 : Heap} {locs2 : List Loc} {E1 E2 : cEff} {p1 p2 : List Nat} {k t : Nat} {m ms md : Int} {y1 y2 y3 y4 y5 r9 p9 : Int32} (I : k_In s D dA a1 a2 w H locs) (hS : k_S7 a1 a2 w rw nm r) (I1 : k_In s D dA a1 a2 w' H' locs') (hS1 : k_S7 a1 a2 w' rw nm r) (I2 : k_In s D dA a1 a2 w2 H2 locs2) (hS2 : k_S7 a1 a2 w2 rw nm r) (x1 : c_ext E1 p1 w w') (g1 : p1.all (fun t => Nat.ble 101 t) = true) (o1 : k_none E1 61 = true) (x2 : c_ext E2 p2 w' w2) (g2 : p2.all (fun t => Nat.ble 101 t) = true) (o2 : k_none E2 17 = true) (hj1 : j_Ex0 s D dA 128 w [.ref a1, .int y1, .int y2, .int y3, .int y4, .int y5] H' [.int r9]) (hj2 : j_Ex0 s D dA 215 w' [.ref a2, .int y1, .int y2, .int y3, .int y4, .int y5] H2 [.int p9]) (hy1 : y1.toInt = 3) (hy3 : y3.toInt = 2) (hk : k < 60) (ht : t < 4) (hold : (k : Int) < m → ∃ v : Int, k_fn w (r t) 17 k v ∧ k_fn w nm 61 (60 * t + k) v) (holds : ∀ j : Nat, j < 60 → (j : Int) < ms → ∃ v : Int, k_fn w (r 3) 17 j v ∧ k_fn w nm 61 (60 * 3 + j) v) (hmm : t = 2 → m = md) (hq : (r9.toInt = 1 ∧ p9.toInt = 1 ∧ 0 ≤ y5.toInt ∧ 0 ≤ y2.toInt ∧ 0 ≤ y4.toInt ∧ y2.toInt + y5.toInt ≤ ms ∧ y4.toInt + y5.toInt ≤ md ∧ ms ≤ 60 ∧ md ≤ 60) ∨ (r9.toInt = 0 ∧ p9.toInt = 0)) (hm : (k : Int) < m) : ∃ v : Int, k_fn w2 (r t) 17 k v ∧ k_fn w2 nm 61 (60 * t + k) v := by
  obtain ⟨v, o9, o8⟩ := hold hm
  have o7 := k_fnK x1 g1 (by decide) (k_none_ok o1 _ _) o8
  obtain ⟨vc, hvc⟩ := k_fnL (i := k) I.2.2.1 (hS.2.2.1 2 (by omega)).2 (show k_K.2.1 17 = (2, 60, 0) by decide +kernel) hk
  rcases hq with ⟨q1, q2, n1, n2, n3, n4, n5, n6, n7⟩ | ⟨q1, q2⟩
  · by_cases htt : t = 2
    · subst htt
      have hmm := hmm rfl
      rcases (show (k : Int) < y4.toInt ∨ y4.toInt + y5.toInt ≤ (k : Int) ∨ (y4.toInt ≤ (k : Int) ∧ (k : Int) < y4.toInt + y5.toInt) by omega) with h | h | ⟨h, h9⟩
      · obtain ⟨v1, f1, f2⟩ := k_pourC7l32 I hS I1 hS1 hj1 hy1 hy3 h hk o9
        obtain ⟨v2, f3, f4⟩ := k_pourM7l (t := 2) I1 hS1 I2 hS2 hj2 (by omega) (by omega) (by omega) (by omega) (by omega) (by decide) hk o7
        have e12 : v1 = v2 := by omega
        subst e12
        exact ⟨v1, k_fnK x2 g2 (by decide) (k_none_ok o2 _ _) f1, f3⟩
      · obtain ⟨v1, f1, f2⟩ := k_pourC7g32 I hS I1 hS1 hj1 hy1 hy3 h hk o9
        obtain ⟨v2, f3, f4⟩ := k_pourM7g (t := 2) I1 hS1 I2 hS2 hj2 (by omega) (by omega) (by omega) (by omega) (by omega) (by decide) hk o7
        have e12 : v1 = v2 := by omega
        subst e12
        exact ⟨v1, k_fnK x2 g2 (by decide) (k_none_ok o2 _ _) f1, f3⟩
      · obtain ⟨k9, hk9, hk8⟩ : ∃ k9 : Nat, k9 < 60 ∧ (k9 : Int) = y2.toInt - y4.toInt + (k : Int) := ⟨(y2.toInt - y4.toInt + (k : Int)).toNat, by omega, by omega⟩
        obtain ⟨u, u1, u2⟩ := holds k9 hk9 (by omega)
        obtain ⟨v1, f1, f2⟩ := k_pourC7i32 I hS I1 hS1 hj1 hy1 hy3 h h9 hk8 hk9 hk u1 o9
        obtain ⟨v2, f3, f4⟩ := k_pourM7ig (t := 2) (t9 := 3) I1 hS1 I2 hS2 hj2 (by omega) (by omega) (by omega) (by omega) (by omega) hy1 hy3 h h9 hk8 hk9 hk (k_fnK x1 g1 (by decide) (k_none_ok o1 _ _) u2) o7
        have e1 : v1 = u := by omega
        have e2 : v2 = u := by omega
        subst e1; subst e2
        exact ⟨v2, k_fnK x2 g2 (by decide) (k_none_ok o2 _ _) f1, f3⟩
    · have f1 := k_pourC7o32 I hS I1 hS1 hj1 hy1 hy3 ht htt hk hvc o9
      have hv2 : ∃ v2, k_fn w2 nm 61 (60 * t + k) v2 ∧ v2 = v := by
        rcases Nat.lt_or_gt_of_ne htt with h | h
        · exact k_pourM7l I1 hS1 I2 hS2 hj2 (by omega) (by omega) (by omega) (by omega) (by omega) ht hk o7
        · exact k_pourM7g I1 hS1 I2 hS2 hj2 (by omega) (by omega) (by omega) (by omega) (by omega) ht hk o7
      obtain ⟨v2, f3, f4⟩ := hv2
      subst f4
      exact ⟨v2, k_fnK x2 g2 (by decide) (k_none_ok o2 _ _) f1, f3⟩
  · obtain ⟨v2, f3, f4⟩ := k_pourM7r I1 hS1 I2 hS2 hj2 (by omega) (by omega) (by omega) (by omega) q2 ht hk o7
    subst f4
    by_cases htt : t = 2
    · subst htt
      exact ⟨v2, k_fnK x2 g2 (by decide) (k_none_ok o2 _ _) (k_pourC7r32 I hS I1 hS1 hj1 hy1 hy3 q1 hk o9), f3⟩
    · exact ⟨v2, k_fnK x2 g2 (by decide) (k_none_ok o2 _ _) (k_pourC7o32 I hS I1 hS1 hj1 hy1 hy3 ht htt hk hvc o9), f3⟩
theorem k_pourF33 {w2 : cWld} {H2 : Heap} {locs2 : List Loc} {E1 E2 : cEff} {p1 p2 : List Nat} {k t : Nat} {m ms md : Int} {y1 y2 y3 y4 y5 r9 p9 : Int32} (I : k_In s D dA a1 a2 w H locs) (hS : k_S7 a1 a2 w rw nm r) (I1 : k_In s D dA a1 a2 w' H' locs') (hS1 : k_S7 a1 a2 w' rw nm r) (I2 : k_In s D dA a1 a2 w2 H2 locs2) (hS2 : k_S7 a1 a2 w2 rw nm r) (x1 : c_ext E1 p1 w w') (g1 : p1.all (fun t => Nat.ble 101 t) = true) (o1 : k_none E1 61 = true) (x2 : c_ext E2 p2 w' w2) (g2 : p2.all (fun t => Nat.ble 101 t) = true) (o2 : k_none E2 17 = true) (hj1 : j_Ex0 s D dA 128 w [.ref a1, .int y1, .int y2, .int y3, .int y4, .int y5] H' [.int r9]) (hj2 : j_Ex0 s D dA 215 w' [.ref a2, .int y1, .int y2, .int y3, .int y4, .int y5] H2 [.int p9]) (hy1 : y1.toInt = 3) (hy3 : y3.toInt = 3) (hk : k < 60) (ht : t < 4) (hold : (k : Int) < m → ∃ v : Int, k_fn w (r t) 17 k v ∧ k_fn w nm 61 (60 * t + k) v) (holds : ∀ j : Nat, j < 60 → (j : Int) < ms → ∃ v : Int, k_fn w (r 3) 17 j v ∧ k_fn w nm 61 (60 * 3 + j) v) (hmm : t = 3 → m = md) (hq : (r9.toInt = 1 ∧ p9.toInt = 1 ∧ 0 ≤ y5.toInt ∧ 0 ≤ y2.toInt ∧ 0 ≤ y4.toInt ∧ y2.toInt + y5.toInt ≤ ms ∧ y4.toInt + y5.toInt ≤ md ∧ ms ≤ 60 ∧ md ≤ 60) ∨ (r9.toInt = 0 ∧ p9.toInt = 0)) (hm : (k : Int) < m) : ∃ v : Int, k_fn w2 (r t) 17 k v ∧ k_fn w2 nm 61 (60 * t + k) v := by
  obtain ⟨v, o9, o8⟩ := hold hm
  have o7 := k_fnK x1 g1 (by decide) (k_none_ok o1 _ _) o8
  obtain ⟨vc, hvc⟩ := k_fnL (i := k) I.2.2.1 (hS.2.2.1 3 (by omega)).2 (show k_K.2.1 17 = (2, 60, 0) by decide +kernel) hk
  rcases hq with ⟨q1, q2, n1, n2, n3, n4, n5, n6, n7⟩ | ⟨q1, q2⟩
  · by_cases htt : t = 3
    · subst htt
      have hmm := hmm rfl
      rcases (show (k : Int) < y4.toInt ∨ y4.toInt + y5.toInt ≤ (k : Int) ∨ (y4.toInt ≤ (k : Int) ∧ (k : Int) < y4.toInt + y5.toInt) by omega) with h | h | ⟨h, h9⟩
      · obtain ⟨v1, f1, f2⟩ := k_pourC7l33 I hS I1 hS1 hj1 hy1 hy3 h hk o9
        obtain ⟨v2, f3, f4⟩ := k_pourM7l (t := 3) I1 hS1 I2 hS2 hj2 (by omega) (by omega) (by omega) (by omega) (by omega) (by decide) hk o7
        have e12 : v1 = v2 := by omega
        subst e12
        exact ⟨v1, k_fnK x2 g2 (by decide) (k_none_ok o2 _ _) f1, f3⟩
      · obtain ⟨v1, f1, f2⟩ := k_pourC7g33 I hS I1 hS1 hj1 hy1 hy3 h hk o9
        obtain ⟨v2, f3, f4⟩ := k_pourM7g (t := 3) I1 hS1 I2 hS2 hj2 (by omega) (by omega) (by omega) (by omega) (by omega) (by decide) hk o7
        have e12 : v1 = v2 := by omega
        subst e12
        exact ⟨v1, k_fnK x2 g2 (by decide) (k_none_ok o2 _ _) f1, f3⟩
      · obtain ⟨k9, hk9, hk8⟩ : ∃ k9 : Nat, k9 < 60 ∧ (k9 : Int) = y2.toInt - y4.toInt + (k : Int) := ⟨(y2.toInt - y4.toInt + (k : Int)).toNat, by omega, by omega⟩
        obtain ⟨u, u1, u2⟩ := holds k9 hk9 (by omega)
        obtain ⟨v1, f1, f2⟩ := k_pourC7i33 I hS I1 hS1 hj1 hy1 hy3 h h9 hk8 hk9 hk u1 o9
        obtain ⟨v2, f3, f4⟩ := k_pourM7is (t := 3) (t9 := 3) I1 hS1 I2 hS2 hj2 (by omega) (by omega) (by omega) (by omega) (by omega) hy1 hy3 h h9 hk8 hk9 hk (k_fnK x1 g1 (by decide) (k_none_ok o1 _ _) u2) o7
        have e1 : v1 = u := by omega
        have e2 : v2 = u := by omega
        subst e1; subst e2
        exact ⟨v2, k_fnK x2 g2 (by decide) (k_none_ok o2 _ _) f1, f3⟩
    · have f1 := k_pourC7o33 I hS I1 hS1 hj1 hy1 hy3 ht htt hk hvc o9
      have hv2 : ∃ v2, k_fn w2 nm 61 (60 * t + k) v2 ∧ v2 = v := by
        rcases Nat.lt_or_gt_of_ne htt with h | h
        · exact k_pourM7l I1 hS1 I2 hS2 hj2 (by omega) (by omega) (by omega) (by omega) (by omega) ht hk o7
        · exact k_pourM7g I1 hS1 I2 hS2 hj2 (by omega) (by omega) (by omega) (by omega) (by omega) ht hk o7
      obtain ⟨v2, f3, f4⟩ := hv2
      subst f4
      exact ⟨v2, k_fnK x2 g2 (by decide) (k_none_ok o2 _ _) f1, f3⟩
  · obtain ⟨v2, f3, f4⟩ := k_pourM7r I1 hS1 I2 hS2 hj2 (by omega) (by omega) (by omega) (by omega) q2 ht hk o7
    subst f4
    by_cases htt : t = 3
    · subst htt
      exact ⟨v2, k_fnK x2 g2 (by decide) (k_none_ok o2 _ _) (k_pourC7r33 I hS I1 hS1 hj1 hy1 hy3 q1 hk o9), f3⟩
    · exact ⟨v2, k_fnK x2 g2 (by decide) (k_none_ok o2 _ _) (k_pourC7o33 I hS I1 hS1 hj1 hy1 hy3 ht htt hk hvc o9), f3⟩
theorem k_lcz {x y : Int64} (h : x = y) : lg_cmp x y = 0 := by
  apply Int32.toInt_inj.mp
  have h1 := congrArg Int64.toInt h
  have h0 : (0 : Int32).toInt = 0 := rfl
  rcases c_sgn x y with h | h | h
  · omega
  · omega
  · omega
def k_offT (E : cEff) (t0 : Nat) : Bool := [0, 1, 2, 3].all fun t => Nat.beq t t0 || (c_off E 14 (t : Int) (t : Int) && c_off E 15 (t : Int) (t : Int) && c_off E 60 (t : Int) (t : Int) && c_off E 59 (t : Int) (t : Int))
theorem k_offT_ok {E : cEff} {t0 t : Nat} (h : k_offT E t0 = true) (ht : t < 4) (hne : t ≠ t0) : c_off E 14 (t : Int) (t : Int) = true ∧ c_off E 15 (t : Int) (t : Int) = true ∧ c_off E 60 (t : Int) (t : Int) = true ∧ c_off E 59 (t : Int) (t : Int) = true := by
  have h1 := List.all_eq_true.mp h t (by rcases (show t = 0 ∨ t = 1 ∨ t = 2 ∨ t = 3 by omega) with rfl | rfl | rfl | rfl <;> decide)
  rw [Bool.or_eq_true] at h1
  rcases h1 with h1 | h1
  · exact absurd (Nat.eq_of_beq_eq_true h1) hne
  · rw [Bool.and_eq_true, Bool.and_eq_true, Bool.and_eq_true] at h1
    exact ⟨h1.1.1.1, h1.1.1.2, h1.1.2, h1.2⟩
def k_off4 (E : cEff) : Bool := k_none E 14 && k_none E 15 && k_none E 60 && k_none E 59
theorem k_off4_ok {E : cEff} (h : k_off4 E = true) (t : Nat) : c_off E 14 (t : Int) (t : Int) = true ∧ c_off E 15 (t : Int) (t : Int) = true ∧ c_off E 60 (t : Int) (t : Int) = true ∧ c_off E 59 (t : Int) (t : Int) = true := by
  unfold k_off4 at h
  rw [Bool.and_eq_true, Bool.and_eq_true, Bool.and_eq_true] at h
  exact ⟨k_none_ok h.1.1.1 _ _, k_none_ok h.1.1.2 _ _, k_none_ok h.1.2 _ _, k_none_ok h.2 _ _⟩
theorem j_exOf {a : Nat} {ct : cCtr} {vals : List Value} {rv : List Value} (h1 : ct_mc ct = 0) (h2 : ct_ms ct = 0) (hj : ∀ i : j_Ix, j_Pi dA a ct w vals i → ∃ (rv2 : List Value) (res2 : List Int) (w2 : cWld), rv2.head? = rv.head? ∧ c_retV (ct_ret i.1) rv2 res2 ∧ c_Post i.1 i.2.1 (j_Wi w i) w2 res2 ∧ va_P D k_cl w2.2.1 H' ∧ va_D (k_AA s) w2.2.1 ∧ c_TW j_K dA w2) : j_Ex0 s D dA a w vals H' rv := fun i b1 b2 b3 b4 b5 b6 => hj i ⟨b1, b2.trans h1.symm, b3.trans h2.symm, b4, b5, b6⟩
theorem k_trayZ0 {w2 : cWld} {H2 : Heap} {locs2 : List Loc} {E1 E2 : cEff} {p1 p2 : List Nat} {so si tm ts : Nat} {s1 z1 m1 u1 m0 : Int} {y1 y2 y3 r9 p9 : Int32} (I : k_In s D dA a1 a2 w H locs) (hS : k_S7 a1 a2 w rw nm r) (I1 : k_In s D dA a1 a2 w' H' locs') (hS1 : k_S7 a1 a2 w' rw nm r) (I2 : k_In s D dA a1 a2 w2 H2 locs2) (hS2 : k_S7 a1 a2 w2 rw nm r) (x1 : c_ext E1 p1 w w') (g1 : p1.all (fun t => Nat.ble 101 t) = true) (o1 : k_none E1 61 = true) (x2 : c_ext E2 p2 w' w2) (g2 : p2.all (fun t => Nat.ble 101 t) = true) (o2 : k_none E2 17 = true) (hj1 : j_Ex0 s D dA 123 w [.ref a1, .int y1, .int y2, .int y3] H' [.int r9]) (hj2 : j_Ex0 s D dA 210 w' [.ref a2, .int y1, .int y2, .int y3] H2 [.int p9]) (hy1 : y1.toInt = 0) (hT2 : k_T a1 a2 w2 so si tm ts) (htr : ∀ t, t < 4 → k_tr7 w so si tm ts (r t) nm t) (c1 : k_offT E1 0 = true) (c2 : k_offT E2 0 = true) (hs : k_fn w2 so 14 0 s1) (hz : k_fn w2 si 15 0 z1) (hm : k_fn w2 tm 60 0 m1) (hu : k_fn w2 ts 59 0 u1) (hqn : k_tq s1 z1 m1 u1) (hm0 : k_fn w tm 60 0 m0) (hq : (r9.toInt = 1 ∧ p9.toInt = 1 ∧ m1 = y3.toInt) ∨ (r9.toInt = 0 ∧ p9.toInt = 0 ∧ m1 = m0)) : k_R a1 a2 w2 := by
  refine ⟨so, si, tm, ts, rw, nm, r, hT2, hS2, fun t ht => ?_⟩
  obtain ⟨s, z, m, u, h1, h2, h3, h4, h5, h6⟩ := htr t ht
  by_cases htt : t = 0
  · subst htt
    have em : m = m0 := k_fnU I.2.1 h3 hm0
    subst em
    exact ⟨s1, z1, m1, u1, hs, hz, hm, hu, hqn, fun k hk hm9 => k_trayF0s I hS I1 hS1 I2 hS2 x1 g1 o1 x2 g2 o2 hj1 hj2 hy1 hk (h6 k hk) hq hm9⟩
  · have ka := k_offT_ok c1 ht htt
    have kb := k_offT_ok c2 ht htt
    exact ⟨s, z, m, u, k_fnK x2 g2 (by decide) kb.1 (k_fnK x1 g1 (by decide) ka.1 h1), k_fnK x2 g2 (by decide) kb.2.1 (k_fnK x1 g1 (by decide) ka.2.1 h2), k_fnK x2 g2 (by decide) kb.2.2.1 (k_fnK x1 g1 (by decide) ka.2.2.1 h3), k_fnK x2 g2 (by decide) kb.2.2.2 (k_fnK x1 g1 (by decide) ka.2.2.2 h4), h5, fun k hk hm9 => k_trayF0o I hS I1 hS1 I2 hS2 x1 g1 o1 x2 g2 o2 hj1 hj2 hy1 hk ht htt (h6 k hk) hm9⟩
theorem k_trayZ1 {w2 : cWld} {H2 : Heap} {locs2 : List Loc} {E1 E2 : cEff} {p1 p2 : List Nat} {so si tm ts : Nat} {s1 z1 m1 u1 m0 : Int} {y1 y2 y3 r9 p9 : Int32} (I : k_In s D dA a1 a2 w H locs) (hS : k_S7 a1 a2 w rw nm r) (I1 : k_In s D dA a1 a2 w' H' locs') (hS1 : k_S7 a1 a2 w' rw nm r) (I2 : k_In s D dA a1 a2 w2 H2 locs2) (hS2 : k_S7 a1 a2 w2 rw nm r) (x1 : c_ext E1 p1 w w') (g1 : p1.all (fun t => Nat.ble 101 t) = true) (o1 : k_none E1 61 = true) (x2 : c_ext E2 p2 w' w2) (g2 : p2.all (fun t => Nat.ble 101 t) = true) (o2 : k_none E2 17 = true) (hj1 : j_Ex0 s D dA 123 w [.ref a1, .int y1, .int y2, .int y3] H' [.int r9]) (hj2 : j_Ex0 s D dA 210 w' [.ref a2, .int y1, .int y2, .int y3] H2 [.int p9]) (hy1 : y1.toInt = 1) (hT2 : k_T a1 a2 w2 so si tm ts) (htr : ∀ t, t < 4 → k_tr7 w so si tm ts (r t) nm t) (c1 : k_offT E1 1 = true) (c2 : k_offT E2 1 = true) (hs : k_fn w2 so 14 1 s1) (hz : k_fn w2 si 15 1 z1) (hm : k_fn w2 tm 60 1 m1) (hu : k_fn w2 ts 59 1 u1) (hqn : k_tq s1 z1 m1 u1) (hm0 : k_fn w tm 60 1 m0) (hq : (r9.toInt = 1 ∧ p9.toInt = 1 ∧ m1 = y3.toInt) ∨ (r9.toInt = 0 ∧ p9.toInt = 0 ∧ m1 = m0)) : k_R a1 a2 w2 := by
  refine ⟨so, si, tm, ts, rw, nm, r, hT2, hS2, fun t ht => ?_⟩
  obtain ⟨s, z, m, u, h1, h2, h3, h4, h5, h6⟩ := htr t ht
  by_cases htt : t = 1
  · subst htt
    have em : m = m0 := k_fnU I.2.1 h3 hm0
    subst em
    exact ⟨s1, z1, m1, u1, hs, hz, hm, hu, hqn, fun k hk hm9 => k_trayF1s I hS I1 hS1 I2 hS2 x1 g1 o1 x2 g2 o2 hj1 hj2 hy1 hk (h6 k hk) hq hm9⟩
  · have ka := k_offT_ok c1 ht htt
    have kb := k_offT_ok c2 ht htt
    exact ⟨s, z, m, u, k_fnK x2 g2 (by decide) kb.1 (k_fnK x1 g1 (by decide) ka.1 h1), k_fnK x2 g2 (by decide) kb.2.1 (k_fnK x1 g1 (by decide) ka.2.1 h2), k_fnK x2 g2 (by decide) kb.2.2.1 (k_fnK x1 g1 (by decide) ka.2.2.1 h3), k_fnK x2 g2 (by decide) kb.2.2.2 (k_fnK x1 g1 (by decide) ka.2.2.2 h4), h5, fun k hk hm9 => k_trayF1o I hS I1 hS1 I2 hS2 x1 g1 o1 x2 g2 o2 hj1 hj2 hy1 hk ht htt (h6 k hk) hm9⟩
theorem k_trayZ2 {w2 : cWld} {H2 : Heap} {locs2 : List Loc} {E1 E2 : cEff} {p1 p2 : List Nat} {so si tm ts : Nat} {s1 z1 m1 u1 m0 : Int} {y1 y2 y3 r9 p9 : Int32} (I : k_In s D dA a1 a2 w H locs) (hS : k_S7 a1 a2 w rw nm r) (I1 : k_In s D dA a1 a2 w' H' locs') (hS1 : k_S7 a1 a2 w' rw nm r) (I2 : k_In s D dA a1 a2 w2 H2 locs2) (hS2 : k_S7 a1 a2 w2 rw nm r) (x1 : c_ext E1 p1 w w') (g1 : p1.all (fun t => Nat.ble 101 t) = true) (o1 : k_none E1 61 = true) (x2 : c_ext E2 p2 w' w2) (g2 : p2.all (fun t => Nat.ble 101 t) = true) (o2 : k_none E2 17 = true) (hj1 : j_Ex0 s D dA 123 w [.ref a1, .int y1, .int y2, .int y3] H' [.int r9]) (hj2 : j_Ex0 s D dA 210 w' [.ref a2, .int y1, .int y2, .int y3] H2 [.int p9]) (hy1 : y1.toInt = 2) (hT2 : k_T a1 a2 w2 so si tm ts) (htr : ∀ t, t < 4 → k_tr7 w so si tm ts (r t) nm t) (c1 : k_offT E1 2 = true) (c2 : k_offT E2 2 = true) (hs : k_fn w2 so 14 2 s1) (hz : k_fn w2 si 15 2 z1) (hm : k_fn w2 tm 60 2 m1) (hu : k_fn w2 ts 59 2 u1) (hqn : k_tq s1 z1 m1 u1) (hm0 : k_fn w tm 60 2 m0) (hq : (r9.toInt = 1 ∧ p9.toInt = 1 ∧ m1 = y3.toInt) ∨ (r9.toInt = 0 ∧ p9.toInt = 0 ∧ m1 = m0)) : k_R a1 a2 w2 := by
  refine ⟨so, si, tm, ts, rw, nm, r, hT2, hS2, fun t ht => ?_⟩
  obtain ⟨s, z, m, u, h1, h2, h3, h4, h5, h6⟩ := htr t ht
  by_cases htt : t = 2
  · subst htt
    have em : m = m0 := k_fnU I.2.1 h3 hm0
    subst em
    exact ⟨s1, z1, m1, u1, hs, hz, hm, hu, hqn, fun k hk hm9 => k_trayF2s I hS I1 hS1 I2 hS2 x1 g1 o1 x2 g2 o2 hj1 hj2 hy1 hk (h6 k hk) hq hm9⟩
  · have ka := k_offT_ok c1 ht htt
    have kb := k_offT_ok c2 ht htt
    exact ⟨s, z, m, u, k_fnK x2 g2 (by decide) kb.1 (k_fnK x1 g1 (by decide) ka.1 h1), k_fnK x2 g2 (by decide) kb.2.1 (k_fnK x1 g1 (by decide) ka.2.1 h2), k_fnK x2 g2 (by decide) kb.2.2.1 (k_fnK x1 g1 (by decide) ka.2.2.1 h3), k_fnK x2 g2 (by decide) kb.2.2.2 (k_fnK x1 g1 (by decide) ka.2.2.2 h4), h5, fun k hk hm9 => k_trayF2o I hS I1 hS1 I2 hS2 x1 g1 o1 x2 g2 o2 hj1 hj2 hy1 hk ht htt (h6 k hk) hm9⟩
theorem k_trayZ3 {w2 : cWld} {H2 : Heap} {locs2 : List Loc} {E1 E2 : cEff} {p1 p2 : List Nat} {so si tm ts : Nat} {s1 z1 m1 u1 m0 : Int} {y1 y2 y3 r9 p9 : Int32} (I : k_In s D dA a1 a2 w H locs) (hS : k_S7 a1 a2 w rw nm r) (I1 : k_In s D dA a1 a2 w' H' locs') (hS1 : k_S7 a1 a2 w' rw nm r) (I2 : k_In s D dA a1 a2 w2 H2 locs2) (hS2 : k_S7 a1 a2 w2 rw nm r) (x1 : c_ext E1 p1 w w') (g1 : p1.all (fun t => Nat.ble 101 t) = true) (o1 : k_none E1 61 = true) (x2 : c_ext E2 p2 w' w2) (g2 : p2.all (fun t => Nat.ble 101 t) = true) (o2 : k_none E2 17 = true) (hj1 : j_Ex0 s D dA 123 w [.ref a1, .int y1, .int y2, .int y3] H' [.int r9]) (hj2 : j_Ex0 s D dA 210 w' [.ref a2, .int y1, .int y2, .int y3] H2 [.int p9]) (hy1 : y1.toInt = 3) (hT2 : k_T a1 a2 w2 so si tm ts) (htr : ∀ t, t < 4 → k_tr7 w so si tm ts (r t) nm t) (c1 : k_offT E1 3 = true) (c2 : k_offT E2 3 = true) (hs : k_fn w2 so 14 3 s1) (hz : k_fn w2 si 15 3 z1) (hm : k_fn w2 tm 60 3 m1) (hu : k_fn w2 ts 59 3 u1) (hqn : k_tq s1 z1 m1 u1) (hm0 : k_fn w tm 60 3 m0) (hq : (r9.toInt = 1 ∧ p9.toInt = 1 ∧ m1 = y3.toInt) ∨ (r9.toInt = 0 ∧ p9.toInt = 0 ∧ m1 = m0)) : k_R a1 a2 w2 := by
  refine ⟨so, si, tm, ts, rw, nm, r, hT2, hS2, fun t ht => ?_⟩
  obtain ⟨s, z, m, u, h1, h2, h3, h4, h5, h6⟩ := htr t ht
  by_cases htt : t = 3
  · subst htt
    have em : m = m0 := k_fnU I.2.1 h3 hm0
    subst em
    exact ⟨s1, z1, m1, u1, hs, hz, hm, hu, hqn, fun k hk hm9 => k_trayF3s I hS I1 hS1 I2 hS2 x1 g1 o1 x2 g2 o2 hj1 hj2 hy1 hk (h6 k hk) hq hm9⟩
  · have ka := k_offT_ok c1 ht htt
    have kb := k_offT_ok c2 ht htt
    exact ⟨s, z, m, u, k_fnK x2 g2 (by decide) kb.1 (k_fnK x1 g1 (by decide) ka.1 h1), k_fnK x2 g2 (by decide) kb.2.1 (k_fnK x1 g1 (by decide) ka.2.1 h2), k_fnK x2 g2 (by decide) kb.2.2.1 (k_fnK x1 g1 (by decide) ka.2.2.1 h3), k_fnK x2 g2 (by decide) kb.2.2.2 (k_fnK x1 g1 (by decide) ka.2.2.2 h4), h5, fun k hk hm9 => k_trayF3o I hS I1 hS1 I2 hS2 x1 g1 o1 x2 g2 o2 hj1 hj2 hy1 hk ht htt (h6 k hk) hm9⟩
theorem k_writeZ {w2 : cWld} {H2 : Heap} {locs2 : List Loc} {E1 E2 : cEff} {p1 p2 : List Nat} {t0 so si tm ts : Nat} {s0 z0 m0 u0 : Int} {y1 y2 r9 p9 : Int32} {y3 : Int64} (I : k_In s D dA a1 a2 w H locs) (hS : k_S7 a1 a2 w rw nm r) (I1 : k_In s D dA a1 a2 w' H' locs') (hS1 : k_S7 a1 a2 w' rw nm r) (I2 : k_In s D dA a1 a2 w2 H2 locs2) (hS2 : k_S7 a1 a2 w2 rw nm r) (x1 : c_ext E1 p1 w w') (g1 : p1.all (fun t => Nat.ble 101 t) = true) (o1 : k_none E1 61 = true) (x2 : c_ext E2 p2 w' w2) (g2 : p2.all (fun t => Nat.ble 101 t) = true) (o2 : k_none E2 17 = true) (hj1 : j_Ex0 s D dA 125 w [.ref a1, .int y1, .int y2, .long y3] H' [.int r9]) (hj2 : j_Ex0 s D dA 213 w' [.ref a2, .int y1, .int y2, .long y3] H2 [.int p9]) (hy1 : y1.toInt = (t0 : Int)) (ht0 : t0 < 4) (hT : k_T a1 a2 w so si tm ts) (hT1 : k_T a1 a2 w' so si tm ts) (hT2 : k_T a1 a2 w2 so si tm ts) (htr : ∀ t, t < 4 → k_tr7 w so si tm ts (r t) nm t) (c1 : k_off4 E1 = true) (c2 : k_off4 E2 = true) (hs0 : k_fn w so 14 t0 s0) (hm0 : k_fn w tm 60 t0 m0) (hu0 : k_fn w' ts 59 t0 u0) (hq : k_tq s0 z0 m0 u0) (hr1 : (r9.toInt = 1 ∧ (0 ≤ s0 ∧ 0 ≤ y2.toInt ∧ y2.toInt < z0)) ∨ (r9.toInt = 0 ∧ ¬ (0 ≤ s0 ∧ 0 ≤ y2.toInt ∧ y2.toInt < z0))) (hr2 : (p9.toInt = 1 ∧ (0 ≤ y2.toInt ∧ y2.toInt < m0)) ∨ (p9.toInt = 0 ∧ ¬ (0 ≤ y2.toInt ∧ y2.toInt < m0))) : k_R a1 a2 w2 := by
  refine ⟨so, si, tm, ts, rw, nm, r, hT2, hS2, fun t ht => ?_⟩
  obtain ⟨s, z, m, u, h1, h2, h3, h4, h5, h6⟩ := htr t ht
  have ka := k_off4_ok c1 t
  have kb := k_off4_ok c2 t
  refine ⟨s, z, m, u, k_fnK x2 g2 (by decide) kb.1 (k_fnK x1 g1 (by decide) ka.1 h1), k_fnK x2 g2 (by decide) kb.2.1 (k_fnK x1 g1 (by decide) ka.2.1 h2), k_fnK x2 g2 (by decide) kb.2.2.1 (k_fnK x1 g1 (by decide) ka.2.2.1 h3), k_fnK x2 g2 (by decide) kb.2.2.2 (k_fnK x1 g1 (by decide) ka.2.2.2 h4), h5, fun k hk hm9 => ?_⟩
  have em : t = t0 → m = m0 := fun e => by subst e; exact k_fnU I.2.1 h3 hm0
  rcases (show t0 = 0 ∨ t0 = 1 ∨ t0 = 2 ∨ t0 = 3 by omega) with e | e | e | e <;> subst e
  · exact k_writeF0 I hS I1 hS1 I2 hS2 x1 g1 o1 x2 g2 o2 hj1 hj2 hT.1 hT.2.1 hs0 hT1.2.2.2.2.2.2.1 hT1.2.2.2.2.2.2.2 hu0 hy1 hk ht (h6 k hk) hq em hr1 hr2 hm9
  · exact k_writeF1 I hS I1 hS1 I2 hS2 x1 g1 o1 x2 g2 o2 hj1 hj2 hT.1 hT.2.1 hs0 hT1.2.2.2.2.2.2.1 hT1.2.2.2.2.2.2.2 hu0 hy1 hk ht (h6 k hk) hq em hr1 hr2 hm9
  · exact k_writeF2 I hS I1 hS1 I2 hS2 x1 g1 o1 x2 g2 o2 hj1 hj2 hT.1 hT.2.1 hs0 hT1.2.2.2.2.2.2.1 hT1.2.2.2.2.2.2.2 hu0 hy1 hk ht (h6 k hk) hq em hr1 hr2 hm9
  · exact k_writeF3 I hS I1 hS1 I2 hS2 x1 g1 o1 x2 g2 o2 hj1 hj2 hT.1 hT.2.1 hs0 hT1.2.2.2.2.2.2.1 hT1.2.2.2.2.2.2.2 hu0 hy1 hk ht (h6 k hk) hq em hr1 hr2 hm9
theorem k_pourZ {w2 : cWld} {H2 : Heap} {locs2 : List Loc} {E1 E2 : cEff} {p1 p2 : List Nat} {t0 d0 so si tm ts : Nat} {m0 m2 : Int} {y1 y2 y3 y4 y5 r9 p9 : Int32} (I : k_In s D dA a1 a2 w H locs) (hS : k_S7 a1 a2 w rw nm r) (I1 : k_In s D dA a1 a2 w' H' locs') (hS1 : k_S7 a1 a2 w' rw nm r) (I2 : k_In s D dA a1 a2 w2 H2 locs2) (hS2 : k_S7 a1 a2 w2 rw nm r) (x1 : c_ext E1 p1 w w') (g1 : p1.all (fun t => Nat.ble 101 t) = true) (o1 : k_none E1 61 = true) (x2 : c_ext E2 p2 w' w2) (g2 : p2.all (fun t => Nat.ble 101 t) = true) (o2 : k_none E2 17 = true) (hj1 : j_Ex0 s D dA 128 w [.ref a1, .int y1, .int y2, .int y3, .int y4, .int y5] H' [.int r9]) (hj2 : j_Ex0 s D dA 215 w' [.ref a2, .int y1, .int y2, .int y3, .int y4, .int y5] H2 [.int p9]) (hy1 : y1.toInt = (t0 : Int)) (ht0 : t0 < 4) (hy3 : y3.toInt = (d0 : Int)) (hd0 : d0 < 4) (hT2 : k_T a1 a2 w2 so si tm ts) (htr : ∀ t, t < 4 → k_tr7 w so si tm ts (r t) nm t) (c1 : k_off4 E1 = true) (c2 : k_off4 E2 = true) (hm0 : k_fn w tm 60 t0 m0) (hm2 : k_fn w tm 60 d0 m2) (hq : (r9.toInt = 1 ∧ p9.toInt = 1 ∧ 0 ≤ y5.toInt ∧ 0 ≤ y2.toInt ∧ 0 ≤ y4.toInt ∧ y2.toInt + y5.toInt ≤ m0 ∧ y4.toInt + y5.toInt ≤ m2 ∧ m0 ≤ 60 ∧ m2 ≤ 60) ∨ (r9.toInt = 0 ∧ p9.toInt = 0)) : k_R a1 a2 w2 := by
  refine ⟨so, si, tm, ts, rw, nm, r, hT2, hS2, fun t ht => ?_⟩
  obtain ⟨s, z, m, u, h1, h2, h3, h4, h5, h6⟩ := htr t ht
  have ka := k_off4_ok c1 t
  have kb := k_off4_ok c2 t
  refine ⟨s, z, m, u, k_fnK x2 g2 (by decide) kb.1 (k_fnK x1 g1 (by decide) ka.1 h1), k_fnK x2 g2 (by decide) kb.2.1 (k_fnK x1 g1 (by decide) ka.2.1 h2), k_fnK x2 g2 (by decide) kb.2.2.1 (k_fnK x1 g1 (by decide) ka.2.2.1 h3), k_fnK x2 g2 (by decide) kb.2.2.2 (k_fnK x1 g1 (by decide) ka.2.2.2 h4), h5, fun k hk hm9 => ?_⟩
  have em : t = d0 → m = m2 := fun e => by subst e; exact k_fnU I.2.1 h3 hm2
  have ho : ∀ j : Nat, j < 60 → (j : Int) < m0 → ∃ v : Int, k_fn w (r t0) 17 j v ∧ k_fn w nm 61 (60 * t0 + j) v := fun j hj hl => by
    obtain ⟨s9, z9, m9, u9, -, -, f3, -, -, f6⟩ := htr t0 ht0
    have e9 : m9 = m0 := k_fnU I.2.1 f3 hm0
    exact f6 j hj (by omega)
  rcases (show t0 = 0 ∨ t0 = 1 ∨ t0 = 2 ∨ t0 = 3 by omega) with e | e | e | e <;> subst e <;> rcases (show d0 = 0 ∨ d0 = 1 ∨ d0 = 2 ∨ d0 = 3 by omega) with e | e | e | e <;> subst e
  · exact k_pourF00 I hS I1 hS1 I2 hS2 x1 g1 o1 x2 g2 o2 hj1 hj2 hy1 hy3 hk ht (h6 k hk) ho em hq hm9
  · exact k_pourF01 I hS I1 hS1 I2 hS2 x1 g1 o1 x2 g2 o2 hj1 hj2 hy1 hy3 hk ht (h6 k hk) ho em hq hm9
  · exact k_pourF02 I hS I1 hS1 I2 hS2 x1 g1 o1 x2 g2 o2 hj1 hj2 hy1 hy3 hk ht (h6 k hk) ho em hq hm9
  · exact k_pourF03 I hS I1 hS1 I2 hS2 x1 g1 o1 x2 g2 o2 hj1 hj2 hy1 hy3 hk ht (h6 k hk) ho em hq hm9
  · exact k_pourF10 I hS I1 hS1 I2 hS2 x1 g1 o1 x2 g2 o2 hj1 hj2 hy1 hy3 hk ht (h6 k hk) ho em hq hm9
  · exact k_pourF11 I hS I1 hS1 I2 hS2 x1 g1 o1 x2 g2 o2 hj1 hj2 hy1 hy3 hk ht (h6 k hk) ho em hq hm9
  · exact k_pourF12 I hS I1 hS1 I2 hS2 x1 g1 o1 x2 g2 o2 hj1 hj2 hy1 hy3 hk ht (h6 k hk) ho em hq hm9
  · exact k_pourF13 I hS I1 hS1 I2 hS2 x1 g1 o1 x2 g2 o2 hj1 hj2 hy1 hy3 hk ht (h6 k hk) ho em hq hm9
  · exact k_pourF20 I hS I1 hS1 I2 hS2 x1 g1 o1 x2 g2 o2 hj1 hj2 hy1 hy3 hk ht (h6 k hk) ho em hq hm9
  · exact k_pourF21 I hS I1 hS1 I2 hS2 x1 g1 o1 x2 g2 o2 hj1 hj2 hy1 hy3 hk ht (h6 k hk) ho em hq hm9
  · exact k_pourF22 I hS I1 hS1 I2 hS2 x1 g1 o1 x2 g2 o2 hj1 hj2 hy1 hy3 hk ht (h6 k hk) ho em hq hm9
  · exact k_pourF23 I hS I1 hS1 I2 hS2 x1 g1 o1 x2 g2 o2 hj1 hj2 hy1 hy3 hk ht (h6 k hk) ho em hq hm9
  · exact k_pourF30 I hS I1 hS1 I2 hS2 x1 g1 o1 x2 g2 o2 hj1 hj2 hy1 hy3 hk ht (h6 k hk) ho em hq hm9
  · exact k_pourF31 I hS I1 hS1 I2 hS2 x1 g1 o1 x2 g2 o2 hj1 hj2 hy1 hy3 hk ht (h6 k hk) ho em hq hm9
  · exact k_pourF32 I hS I1 hS1 I2 hS2 x1 g1 o1 x2 g2 o2 hj1 hj2 hy1 hy3 hk ht (h6 k hk) ho em hq hm9
  · exact k_pourF33 I hS I1 hS1 I2 hS2 x1 g1 o1 x2 g2 o2 hj1 hj2 hy1 hy3 hk ht (h6 k hk) ho em hq hm9
theorem k_readZ {w2 : cWld} {H2 : Heap} {locs2 : List Loc} {E1 : cEff} {p1 : List Nat} {so si tm ts : Nat} {y1 y2 : Int32} {r9 p9 : Int64} (I : k_In s D dA a1 a2 w H locs) (hS : k_S7 a1 a2 w rw nm r) (I1 : k_In s D dA a1 a2 w' H' locs') (hS1 : k_S7 a1 a2 w' rw nm r) (I2 : k_In s D dA a1 a2 w2 H2 locs2) (hS2 : k_S7 a1 a2 w2 rw nm r) (x1 : c_ext E1 p1 w w') (g1 : p1.all (fun t => Nat.ble 101 t) = true) (o1 : k_none E1 61 = true) (o2 : k_none E1 60 = true) (hj1 : j_Ex0 s D dA 127 w [.ref a1, .int y1, .int y2] H' [.long r9]) (hj2 : j_Ex0 s D dA 214 w' [.ref a2, .int y1, .int y2] H2 [.long p9]) (hT : k_T a1 a2 w so si tm ts) (hT1 : k_T a1 a2 w' so si tm ts) (htr : ∀ t, t < 4 → k_tr7 w so si tm ts (r t) nm t) : r9 = p9 := by
  apply Int64.toInt_inj.mp
  rcases (show y1.toInt < 0 ∨ 4 ≤ y1.toInt ∨ (0 ≤ y1.toInt ∧ y1.toInt ≤ 3) by omega) with hx | hx | hx
  · rw [k_readC7L I hS I1 hS1 hj1 hx, k_readM7L I1 hS1 I2 hS2 hj2 hx]
  · rw [k_readC7H I hS I1 hS1 hj1 hx, k_readM7H I1 hS1 I2 hS2 hj2 hx]
  · have hc : ∀ t : Nat, t < 4 → y1.toInt = (t : Int) → (y2.toInt < 0 → r9.toInt = -1) ∧ (60 ≤ y2.toInt → r9.toInt = -1) ∧ ∀ (k : Nat) (v s0 z0 : Int), y2.toInt = (k : Int) → k < 60 → k_fn w so 14 t s0 → k_fn w si 15 t z0 → k_fn w (r t) 17 k v → (r9.toInt = v ∧ 0 ≤ s0 ∧ y2.toInt < z0) ∨ (r9.toInt = -1 ∧ (s0 = -1 ∨ z0 ≤ y2.toInt)) := fun t ht hy => by
      rcases (show t = 0 ∨ t = 1 ∨ t = 2 ∨ t = 3 by omega) with e | e | e | e <;> subst e
      · exact ⟨fun h => k_readC7n0 I hS I1 hS1 hj1 hy h, fun h => k_readC7p0 I hS I1 hS1 hj1 hy h, fun k v s0 z0 h1 h2 h3 h4 h5 => k_readC7o0 I hS I1 hS1 hj1 hT.1 hT.2.1 hT.2.2.1 hT.2.2.2.1 h3 h4 hy h1 h2 h5⟩
      · exact ⟨fun h => k_readC7n1 I hS I1 hS1 hj1 hy h, fun h => k_readC7p1 I hS I1 hS1 hj1 hy h, fun k v s0 z0 h1 h2 h3 h4 h5 => k_readC7o1 I hS I1 hS1 hj1 hT.1 hT.2.1 hT.2.2.1 hT.2.2.2.1 h3 h4 hy h1 h2 h5⟩
      · exact ⟨fun h => k_readC7n2 I hS I1 hS1 hj1 hy h, fun h => k_readC7p2 I hS I1 hS1 hj1 hy h, fun k v s0 z0 h1 h2 h3 h4 h5 => k_readC7o2 I hS I1 hS1 hj1 hT.1 hT.2.1 hT.2.2.1 hT.2.2.2.1 h3 h4 hy h1 h2 h5⟩
      · exact ⟨fun h => k_readC7n3 I hS I1 hS1 hj1 hy h, fun h => k_readC7p3 I hS I1 hS1 hj1 hy h, fun k v s0 z0 h1 h2 h3 h4 h5 => k_readC7o3 I hS I1 hS1 hj1 hT.1 hT.2.1 hT.2.2.1 hT.2.2.2.1 h3 h4 hy h1 h2 h5⟩
    obtain ⟨t, ht, ht1⟩ : ∃ t : Nat, t < 4 ∧ y1.toInt = (t : Int) := ⟨y1.toInt.toNat, by omega, by omega⟩
    obtain ⟨n1, n2, n3⟩ := hc t ht ht1
    rcases (show y2.toInt < 0 ∨ 60 ≤ y2.toInt ∨ (0 ≤ y2.toInt ∧ y2.toInt ≤ 59) by omega) with hy | hy | hy
    · rw [n1 hy, k_readM7n I1 hS1 I2 hS2 hj2 (by omega) (by omega) hy]
    · rw [n2 hy, k_readM7p I1 hS1 I2 hS2 hj2 (by omega) (by omega) hy]
    · obtain ⟨k, hk, hk1⟩ : ∃ k : Nat, k < 60 ∧ y2.toInt = (k : Int) := ⟨y2.toInt.toNat, by omega, by omega⟩
      obtain ⟨s, z, m, u, h1, h2, h3, h4, h5, h6⟩ := htr t ht
      have h3b := k_fnK x1 g1 (by decide) (k_none_ok o2 _ _) h3
      unfold k_tq at h5
      by_cases hm : (k : Int) < m
      · obtain ⟨v, v1, v2⟩ := h6 k hk hm
        have a1 := n3 k v s z hk1 hk h1 h2 v1
        have a2 := k_readM7o I1 hS1 I2 hS2 hj2 hT1.2.2.2.2.1 hT1.2.2.2.2.2.1 h3b ht1 ht hk1 hk (k_fnK x1 g1 (by decide) (k_none_ok o1 _ _) v2)
        omega
      · obtain ⟨vc, hvc⟩ := k_fnL (i := k) I.2.2.1 (hS.2.2.1 t ht).2 (show k_K.2.1 17 = (2, 60, 0) by decide +kernel) hk
        obtain ⟨vm, hvm⟩ := k_fnL (i := 60 * t + k) I1.2.2.1 hS1.2.2.2.2.2 (show k_K.2.1 61 = (2, 240, 0) by decide +kernel) (by omega)
        have a1 := n3 k vc s z hk1 hk h1 h2 hvc
        have a2 := k_readM7o I1 hS1 I2 hS2 hj2 hT1.2.2.2.2.1 hT1.2.2.2.2.2.1 h3b ht1 ht hk1 hk hvm
        omega
end R7
