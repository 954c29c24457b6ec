/-! trays: sorts and sizes alike -/
theorem k_inK {E : cEff} {pros : List Nat} {w w' : cWld} {a t : Nat} (h : c_ext E pros w w') (hp : pros.all (fun t => Nat.ble 101 t) = true) (ht : t ≤ 100) (hf : c_in w a t) : c_in w' a t := by
  obtain ⟨e, h1, h2⟩ := hf
  obtain ⟨e', g1, g2⟩ := h.1 _ h1
  rcases g2 with ⟨g2, g3⟩ | g2
  · exact ⟨e', g1, g2.trans h2⟩
  · exfalso
    have h5 := Nat.le_of_ble_eq_true (List.all_eq_true.mp hp _ g2)
    dsimp only at h5
    omega
theorem k_fnU {AA : Nat → Prop} {w : cWld} {a t t' i : Nat} {z z' : Int} (hD : va_D AA w.2.1) (h : k_fn w a t i z) (h' : k_fn w a t' i z') : z = z' :=
  c_cell_fun (p := fun _ => (a : Int)) (p' := fun _ => (a : Int)) (b := 0 + 1) (idx := ((i : Int), [])) hD (fun _ => rfl) rfl (k_fnC h rfl (by show (i : Int) + 0 = _; omega)) (k_fnC h' rfl (by show (i : Int) + 0 = _; omega))
theorem k_fnT {w : cWld} {dA : Nat → ClassId} {a t i : Nat} {z lo hi : Int} (hT : c_TW k_K dA w) (hf : k_fn w a t i z) (hty : c_ty k_K t i = (0, lo, hi)) : lo ≤ z ∧ z ≤ hi := by
  obtain ⟨e, v, h1, h2, h3, h4⟩ := hf
  have h := (hT _ h1).2.1 i v h3
  dsimp only at h
  rw [h2, hty] at h
  obtain ⟨x, rfl, h5, h6⟩ := h
  have h4 : x.toInt = z := h4
  exact ⟨h4 ▸ h5, h4 ▸ h6⟩
theorem k_fnRf {w : cWld} {dA : Nat → ClassId} {a t i t' : Nat} {z : Int} (hT : c_TW k_K dA w) (hf : k_fn w a t i z) (hty : c_ty k_K t i = (3, (t' : Int), 0)) : ∃ x : Nat, z = (x : Int) ∧ c_in w x t' := by
  obtain ⟨e, v, h1, h2, h3, h4⟩ := hf
  have h := (hT _ h1).2.1 i v h3
  dsimp only at h
  rw [h2, hty] at h
  obtain ⟨x, rfl, h5⟩ := h
  exact ⟨x, h4.symm, h5⟩
theorem k_fnA {w : cWld} {dA : Nat → ClassId} {a t i N ci : Nat} (hT : c_TW k_K dA w) (hin : c_in w a t) (hs : k_K.2.1 t = (1, N, ci)) (hi : i < N) : ∃ z, k_fn w a t i z := by
  obtain ⟨e, h1, h2⟩ := hin
  have hf := (hT _ h1).1
  dsimp only at hf
  rw [h2, hs] at hf
  obtain ⟨f, rfl⟩ := hf
  exact ⟨_, _, .int (f i), h1, h2, if_pos hi, rfl⟩
def k_tq (s z m u : Int) : Prop := (s = -1 ∧ m = -1) ∨ (0 ≤ s ∧ 0 ≤ z ∧ m = z ∧ u = s)
def k_tr (w : cWld) (so si tm ts t : Nat) : Prop := ∃ s z m u : Int, k_fn w so 14 t s ∧ k_fn w si 15 t z ∧ k_fn w tm 60 t m ∧ k_fn w ts 59 t u ∧ k_tq s z m u
def k_T (a1 a2 : Nat) (w : cWld) (so si tm ts : Nat) : Prop := k_fn w a1 12 4 (so : Int) ∧ c_in w so 14 ∧ k_fn w a1 12 5 (si : Int) ∧ c_in w si 15 ∧ k_fn w a2 13 5 (tm : Int) ∧ c_in w tm 60 ∧ k_fn w a2 13 4 (ts : Int) ∧ c_in w ts 59
def k_R (a1 a2 : Nat) (w : cWld) : Prop := ∃ so si tm ts : Nat, k_T a1 a2 w so si tm ts ∧ ∀ t, t < 4 → k_tr w so si tm ts t
def k_off0 (E : cEff) : Bool := c_off E 12 4 4 && c_off E 12 5 5 && c_off E 13 4 4 && c_off E 13 5 5
def k_none (E : cEff) (t : Nat) : Bool := E.all (fun x => !(Nat.beq x.1 t))
def k_offR (E : cEff) : Bool := k_off0 E && k_none E 14 && k_none E 15 && k_none E 59 && k_none E 60
theorem k_none_ok {E : cEff} {t : Nat} (h : k_none E t = true) (lo hi : Int) : c_off E t lo hi = true := by
  unfold c_off
  refine List.all_eq_true.mpr fun x hx => ?_
  have := List.all_eq_true.mp h x hx
  rw [this]
  rfl
section RT
variable {E : cEff} {pros : List Nat} {w w' : cWld} {a1 a2 so si tm ts t : Nat}
theorem k_TK (h : c_ext E pros w w') (hp : pros.all (fun t => Nat.ble 101 t) = true) (hE : k_off0 E = true) (hR : k_T a1 a2 w so si tm ts) : k_T a1 a2 w' so si tm ts := by
  unfold k_off0 at hE
  rw [Bool.and_eq_true, Bool.and_eq_true, Bool.and_eq_true] at hE
  obtain ⟨⟨⟨e1, e2⟩, e3⟩, e4⟩ := hE
  obtain ⟨h1, h2, h3, h4, h5, h6, h7, h8⟩ := hR
  exact ⟨k_fnK h hp (by decide) e1 h1, k_inK h hp (by decide) h2, k_fnK h hp (by decide) e2 h3, k_inK h hp (by decide) h4, k_fnK h hp (by decide) e4 h5, k_inK h hp (by decide) h6, k_fnK h hp (by decide) e3 h7, k_inK h hp (by decide) h8⟩
theorem k_trK (h : c_ext E pros w w') (hp : pros.all (fun t => Nat.ble 101 t) = true) (hE : (c_off E 14 (t : Int) (t : Int) && c_off E 15 (t : Int) (t : Int) && c_off E 60 (t : Int) (t : Int) && c_off E 59 (t : Int) (t : Int)) = true) (hR : k_tr w so si tm ts t) : k_tr w' so si tm ts t := by
  rw [Bool.and_eq_true, Bool.and_eq_true, Bool.and_eq_true] at hE
  obtain ⟨⟨⟨e1, e2⟩, e3⟩, e4⟩ := hE
  obtain ⟨s, z, m, u, h1, h2, h3, h4, h5⟩ := hR
  exact ⟨s, z, m, u, k_fnK h hp (by decide) e1 h1, k_fnK h hp (by decide) e2 h2, k_fnK h hp (by decide) e3 h3, k_fnK h hp (by decide) e4 h4, h5⟩
theorem k_RK (h : c_ext E pros w w') (hp : pros.all (fun t => Nat.ble 101 t) = true) (hE : k_offR E = true) (hR : k_R a1 a2 w) : k_R a1 a2 w' := by
  unfold k_offR at hE
  rw [Bool.and_eq_true, Bool.and_eq_true, Bool.and_eq_true, Bool.and_eq_true] at hE
  obtain ⟨⟨⟨⟨e0, e1⟩, e2⟩, e3⟩, e4⟩ := hE
  obtain ⟨so, si, tm, ts, h1, h2⟩ := hR
  exact ⟨so, si, tm, ts, k_TK h hp e0 h1, fun t ht => k_trK h hp (by rw [k_none_ok e1, k_none_ok e2, k_none_ok e4, k_none_ok e3]; rfl) (h2 t ht)⟩
end RT
theorem k_trayC0 {w w' : cWld} {a so si : Nat} {x2 x3 s z r : Int} (h : c_Post k_c123_3 (k_rv [(a : Int), (0 : Int), x2, x3, (so : Int), (si : Int), s, z]) w w' [r]) (i1 : c_in w' so 14) (i2 : c_in w' si 15) : ∃ s' z' : Int, k_fn w' so 14 0 s' ∧ k_fn w' si 15 0 z' ∧ ((0 ≤ x2 ∧ x2 ≤ 3 ∧ 0 ≤ x3 ∧ x3 ≤ 60 ∧ s' = x2 ∧ z' = x3) ∨ (¬ (0 ≤ x2 ∧ x2 ≤ 3 ∧ 0 ≤ x3 ∧ x3 ≤ 60) ∧ s' = s ∧ z' = z)) := by
  obtain ⟨-, -, d, hd, rr, q1, q2, q3, q4, -⟩ := h
  have e1 : rr 1 = (a : Int) := q1 1 (by decide)
  have e2 : rr 2 = (0 : Int) := q1 2 (by decide)
  have e3 : rr 3 = x2 := q1 3 (by decide)
  have e4 : rr 4 = x3 := q1 4 (by decide)
  have e5 : rr 5 = (so : Int) := q1 5 (by decide)
  have e6 : rr 6 = (si : Int) := q1 6 (by decide)
  have e7 : rr 7 = s := q1 7 (by decide)
  have e8 : rr 8 = z := q1 8 (by decide)
  have er : rr 9 = r := q2 0 _ rfl
  have hd : d ∈ ct_post k_c123_3 := hd
  simp only [ct_post, k_c123_3, List.mem_cons, List.not_mem_nil, or_false] at hd
  rcases hd with rfl | rfl | rfl | rfl | rfl <;>
    (have c1 : k_fn w' so 14 0 (rr 10) := k_fnD (b := 4) (q3 0 _ rfl) e5 (by show (0 : Int) + (1 * rr 2 + 0) = _; rw [e2]; rfl) i1
     have c2 : k_fn w' si 15 0 (rr 11) := k_fnD (b := 5) (q3 1 _ rfl) e6 (by show (0 : Int) + (1 * rr 2 + 0) = _; rw [e2]; rfl) i2
     simp only [List.forall_mem_cons, c_ev, c_evs, List.not_mem_nil, false_implies, implies_true, and_true, e3, e4, e7, e8, er] at q4
     exact ⟨rr 10, rr 11, c1, c2, by omega⟩)
theorem k_trayM0 {w w' : cWld} {a tm ts : Nat} {x2 x3 s z r : Int} (h : c_Post k_c210_3 (k_rv [(a : Int), (0 : Int), x2, x3, (tm : Int), (ts : Int), s, z]) w w' [r]) (i1 : c_in w' tm 60) (i2 : c_in w' ts 59) : ∃ s' z' : Int, k_fn w' tm 60 0 s' ∧ k_fn w' ts 59 0 z' ∧ ((0 ≤ x2 ∧ x2 ≤ 3 ∧ 0 ≤ x3 ∧ x3 ≤ 60 ∧ s' = x3 ∧ z' = x2) ∨ (¬ (0 ≤ x2 ∧ x2 ≤ 3 ∧ 0 ≤ x3 ∧ x3 ≤ 60) ∧ s' = s ∧ z' = z)) := by
  obtain ⟨-, -, d, hd, rr, q1, q2, q3, q4, -⟩ := h
  have e1 : rr 1 = (a : Int) := q1 1 (by decide)
  have e2 : rr 2 = (0 : Int) := q1 2 (by decide)
  have e3 : rr 3 = x2 := q1 3 (by decide)
  have e4 : rr 4 = x3 := q1 4 (by decide)
  have e5 : rr 5 = (tm : Int) := q1 5 (by decide)
  have e6 : rr 6 = (ts : Int) := q1 6 (by decide)
  have e7 : rr 7 = s := q1 7 (by decide)
  have e8 : rr 8 = z := q1 8 (by decide)
  have er : rr 9 = r := q2 0 _ rfl
  have hd : d ∈ ct_post k_c210_3 := hd
  simp only [ct_post, k_c210_3, List.mem_cons, List.not_mem_nil, or_false] at hd
  rcases hd with rfl | rfl | rfl | rfl | rfl <;>
    (have c1 : k_fn w' tm 60 0 (rr 10) := k_fnD (b := 4) (q3 0 _ rfl) e5 (by show (0 : Int) + (1 * rr 2 + 0) = _; rw [e2]; rfl) i1
     have c2 : k_fn w' ts 59 0 (rr 11) := k_fnD (b := 5) (q3 1 _ rfl) e6 (by show (0 : Int) + (1 * rr 2 + 0) = _; rw [e2]; rfl) i2
     simp only [List.forall_mem_cons, c_ev, c_evs, List.not_mem_nil, false_implies, implies_true, and_true, e3, e4, e7, e8, er] at q4
     exact ⟨rr 10, rr 11, c1, c2, by omega⟩)
theorem k_trayC1 {w w' : cWld} {a so si : Nat} {x2 x3 s z r : Int} (h : c_Post k_c123_4 (k_rv [(a : Int), (1 : Int), x2, x3, (so : Int), (si : Int), s, z]) w w' [r]) (i1 : c_in w' so 14) (i2 : c_in w' si 15) : ∃ s' z' : Int, k_fn w' so 14 1 s' ∧ k_fn w' si 15 1 z' ∧ ((0 ≤ x2 ∧ x2 ≤ 3 ∧ 0 ≤ x3 ∧ x3 ≤ 60 ∧ s' = x2 ∧ z' = x3) ∨ (¬ (0 ≤ x2 ∧ x2 ≤ 3 ∧ 0 ≤ x3 ∧ x3 ≤ 60) ∧ s' = s ∧ z' = z)) := by
  obtain ⟨-, -, d, hd, rr, q1, q2, q3, q4, -⟩ := h
  have e1 : rr 1 = (a : Int) := q1 1 (by decide)
  have e2 : rr 2 = (1 : Int) := q1 2 (by decide)
  have e3 : rr 3 = x2 := q1 3 (by decide)
  have e4 : rr 4 = x3 := q1 4 (by decide)
  have e5 : rr 5 = (so : Int) := q1 5 (by decide)
  have e6 : rr 6 = (si : Int) := q1 6 (by decide)
  have e7 : rr 7 = s := q1 7 (by decide)
  have e8 : rr 8 = z := q1 8 (by decide)
  have er : rr 9 = r := q2 0 _ rfl
  have hd : d ∈ ct_post k_c123_4 := hd
  simp only [ct_post, k_c123_4, List.mem_cons, List.not_mem_nil, or_false] at hd
  rcases hd with rfl | rfl | rfl | rfl | rfl <;>
    (have c1 : k_fn w' so 14 1 (rr 10) := k_fnD (b := 4) (q3 0 _ rfl) e5 (by show (0 : Int) + (1 * rr 2 + 0) = _; rw [e2]; rfl) i1
     have c2 : k_fn w' si 15 1 (rr 11) := k_fnD (b := 5) (q3 1 _ rfl) e6 (by show (0 : Int) + (1 * rr 2 + 0) = _; rw [e2]; rfl) i2
     simp only [List.forall_mem_cons, c_ev, c_evs, List.not_mem_nil, false_implies, implies_true, and_true, e3, e4, e7, e8, er] at q4
     exact ⟨rr 10, rr 11, c1, c2, by omega⟩)
theorem k_trayM1 {w w' : cWld} {a tm ts : Nat} {x2 x3 s z r : Int} (h : c_Post k_c210_4 (k_rv [(a : Int), (1 : Int), x2, x3, (tm : Int), (ts : Int), s, z]) w w' [r]) (i1 : c_in w' tm 60) (i2 : c_in w' ts 59) : ∃ s' z' : Int, k_fn w' tm 60 1 s' ∧ k_fn w' ts 59 1 z' ∧ ((0 ≤ x2 ∧ x2 ≤ 3 ∧ 0 ≤ x3 ∧ x3 ≤ 60 ∧ s' = x3 ∧ z' = x2) ∨ (¬ (0 ≤ x2 ∧ x2 ≤ 3 ∧ 0 ≤ x3 ∧ x3 ≤ 60) ∧ s' = s ∧ z' = z)) := by
  obtain ⟨-, -, d, hd, rr, q1, q2, q3, q4, -⟩ := h
  have e1 : rr 1 = (a : Int) := q1 1 (by decide)
  have e2 : rr 2 = (1 : Int) := q1 2 (by decide)
  have e3 : rr 3 = x2 := q1 3 (by decide)
  have e4 : rr 4 = x3 := q1 4 (by decide)
  have e5 : rr 5 = (tm : Int) := q1 5 (by decide)
  have e6 : rr 6 = (ts : Int) := q1 6 (by decide)
  have e7 : rr 7 = s := q1 7 (by decide)
  have e8 : rr 8 = z := q1 8 (by decide)
  have er : rr 9 = r := q2 0 _ rfl
  have hd : d ∈ ct_post k_c210_4 := hd
  simp only [ct_post, k_c210_4, List.mem_cons, List.not_mem_nil, or_false] at hd
  rcases hd with rfl | rfl | rfl | rfl | rfl <;>
    (have c1 : k_fn w' tm 60 1 (rr 10) := k_fnD (b := 4) (q3 0 _ rfl) e5 (by show (0 : Int) + (1 * rr 2 + 0) = _; rw [e2]; rfl) i1
     have c2 : k_fn w' ts 59 1 (rr 11) := k_fnD (b := 5) (q3 1 _ rfl) e6 (by show (0 : Int) + (1 * rr 2 + 0) = _; rw [e2]; rfl) i2
     simp only [List.forall_mem_cons, c_ev, c_evs, List.not_mem_nil, false_implies, implies_true, and_true, e3, e4, e7, e8, er] at q4
     exact ⟨rr 10, rr 11, c1, c2, by omega⟩)
theorem k_trayC2 {w w' : cWld} {a so si : Nat} {x2 x3 s z r : Int} (h : c_Post k_c123_5 (k_rv [(a : Int), (2 : Int), x2, x3, (so : Int), (si : Int), s, z]) w w' [r]) (i1 : c_in w' so 14) (i2 : c_in w' si 15) : ∃ s' z' : Int, k_fn w' so 14 2 s' ∧ k_fn w' si 15 2 z' ∧ ((0 ≤ x2 ∧ x2 ≤ 3 ∧ 0 ≤ x3 ∧ x3 ≤ 60 ∧ s' = x2 ∧ z' = x3) ∨ (¬ (0 ≤ x2 ∧ x2 ≤ 3 ∧ 0 ≤ x3 ∧ x3 ≤ 60) ∧ s' = s ∧ z' = z)) := by
  obtain ⟨-, -, d, hd, rr, q1, q2, q3, q4, -⟩ := h
  have e1 : rr 1 = (a : Int) := q1 1 (by decide)
  have e2 : rr 2 = (2 : Int) := q1 2 (by decide)
  have e3 : rr 3 = x2 := q1 3 (by decide)
  have e4 : rr 4 = x3 := q1 4 (by decide)
  have e5 : rr 5 = (so : Int) := q1 5 (by decide)
  have e6 : rr 6 = (si : Int) := q1 6 (by decide)
  have e7 : rr 7 = s := q1 7 (by decide)
  have e8 : rr 8 = z := q1 8 (by decide)
  have er : rr 9 = r := q2 0 _ rfl
  have hd : d ∈ ct_post k_c123_5 := hd
  simp only [ct_post, k_c123_5, List.mem_cons, List.not_mem_nil, or_false] at hd
  rcases hd with rfl | rfl | rfl | rfl | rfl <;>
    (have c1 : k_fn w' so 14 2 (rr 10) := k_fnD (b := 4) (q3 0 _ rfl) e5 (by show (0 : Int) + (1 * rr 2 + 0) = _; rw [e2]; rfl) i1
     have c2 : k_fn w' si 15 2 (rr 11) := k_fnD (b := 5) (q3 1 _ rfl) e6 (by show (0 : Int) + (1 * rr 2 + 0) = _; rw [e2]; rfl) i2
     simp only [List.forall_mem_cons, c_ev, c_evs, List.not_mem_nil, false_implies, implies_true, and_true, e3, e4, e7, e8, er] at q4
     exact ⟨rr 10, rr 11, c1, c2, by omega⟩)
theorem k_trayM2 {w w' : cWld} {a tm ts : Nat} {x2 x3 s z r : Int} (h : c_Post k_c210_5 (k_rv [(a : Int), (2 : Int), x2, x3, (tm : Int), (ts : Int), s, z]) w w' [r]) (i1 : c_in w' tm 60) (i2 : c_in w' ts 59) : ∃ s' z' : Int, k_fn w' tm 60 2 s' ∧ k_fn w' ts 59 2 z' ∧ ((0 ≤ x2 ∧ x2 ≤ 3 ∧ 0 ≤ x3 ∧ x3 ≤ 60 ∧ s' = x3 ∧ z' = x2) ∨ (¬ (0 ≤ x2 ∧ x2 ≤ 3 ∧ 0 ≤ x3 ∧ x3 ≤ 60) ∧ s' = s ∧ z' = z)) := by
  obtain ⟨-, -, d, hd, rr, q1, q2, q3, q4, -⟩ := h
  have e1 : rr 1 = (a : Int) := q1 1 (by decide)
  have e2 : rr 2 = (2 : Int) := q1 2 (by decide)
  have e3 : rr 3 = x2 := q1 3 (by decide)
  have e4 : rr 4 = x3 := q1 4 (by decide)
  have e5 : rr 5 = (tm : Int) := q1 5 (by decide)
  have e6 : rr 6 = (ts : Int) := q1 6 (by decide)
  have e7 : rr 7 = s := q1 7 (by decide)
  have e8 : rr 8 = z := q1 8 (by decide)
  have er : rr 9 = r := q2 0 _ rfl
  have hd : d ∈ ct_post k_c210_5 := hd
  simp only [ct_post, k_c210_5, List.mem_cons, List.not_mem_nil, or_false] at hd
  rcases hd with rfl | rfl | rfl | rfl | rfl <;>
    (have c1 : k_fn w' tm 60 2 (rr 10) := k_fnD (b := 4) (q3 0 _ rfl) e5 (by show (0 : Int) + (1 * rr 2 + 0) = _; rw [e2]; rfl) i1
     have c2 : k_fn w' ts 59 2 (rr 11) := k_fnD (b := 5) (q3 1 _ rfl) e6 (by show (0 : Int) + (1 * rr 2 + 0) = _; rw [e2]; rfl) i2
     simp only [List.forall_mem_cons, c_ev, c_evs, List.not_mem_nil, false_implies, implies_true, and_true, e3, e4, e7, e8, er] at q4
     exact ⟨rr 10, rr 11, c1, c2, by omega⟩)
theorem k_trayC3 {w w' : cWld} {a so si : Nat} {x2 x3 s z r : Int} (h : c_Post k_c123_6 (k_rv [(a : Int), (3 : Int), x2, x3, (so : Int), (si : Int), s, z]) w w' [r]) (i1 : c_in w' so 14) (i2 : c_in w' si 15) : ∃ s' z' : Int, k_fn w' so 14 3 s' ∧ k_fn w' si 15 3 z' ∧ ((0 ≤ x2 ∧ x2 ≤ 3 ∧ 0 ≤ x3 ∧ x3 ≤ 60 ∧ s' = x2 ∧ z' = x3) ∨ (¬ (0 ≤ x2 ∧ x2 ≤ 3 ∧ 0 ≤ x3 ∧ x3 ≤ 60) ∧ s' = s ∧ z' = z)) := by
  obtain ⟨-, -, d, hd, rr, q1, q2, q3, q4, -⟩ := h
  have e1 : rr 1 = (a : Int) := q1 1 (by decide)
  have e2 : rr 2 = (3 : Int) := q1 2 (by decide)
  have e3 : rr 3 = x2 := q1 3 (by decide)
  have e4 : rr 4 = x3 := q1 4 (by decide)
  have e5 : rr 5 = (so : Int) := q1 5 (by decide)
  have e6 : rr 6 = (si : Int) := q1 6 (by decide)
  have e7 : rr 7 = s := q1 7 (by decide)
  have e8 : rr 8 = z := q1 8 (by decide)
  have er : rr 9 = r := q2 0 _ rfl
  have hd : d ∈ ct_post k_c123_6 := hd
  simp only [ct_post, k_c123_6, List.mem_cons, List.not_mem_nil, or_false] at hd
  rcases hd with rfl | rfl | rfl | rfl | rfl <;>
    (have c1 : k_fn w' so 14 3 (rr 10) := k_fnD (b := 4) (q3 0 _ rfl) e5 (by show (0 : Int) + (1 * rr 2 + 0) = _; rw [e2]; rfl) i1
     have c2 : k_fn w' si 15 3 (rr 11) := k_fnD (b := 5) (q3 1 _ rfl) e6 (by show (0 : Int) + (1 * rr 2 + 0) = _; rw [e2]; rfl) i2
     simp only [List.forall_mem_cons, c_ev, c_evs, List.not_mem_nil, false_implies, implies_true, and_true, e3, e4, e7, e8, er] at q4
     exact ⟨rr 10, rr 11, c1, c2, by omega⟩)
theorem k_trayM3 {w w' : cWld} {a tm ts : Nat} {x2 x3 s z r : Int} (h : c_Post k_c210_6 (k_rv [(a : Int), (3 : Int), x2, x3, (tm : Int), (ts : Int), s, z]) w w' [r]) (i1 : c_in w' tm 60) (i2 : c_in w' ts 59) : ∃ s' z' : Int, k_fn w' tm 60 3 s' ∧ k_fn w' ts 59 3 z' ∧ ((0 ≤ x2 ∧ x2 ≤ 3 ∧ 0 ≤ x3 ∧ x3 ≤ 60 ∧ s' = x3 ∧ z' = x2) ∨ (¬ (0 ≤ x2 ∧ x2 ≤ 3 ∧ 0 ≤ x3 ∧ x3 ≤ 60) ∧ s' = s ∧ z' = z)) := by
  obtain ⟨-, -, d, hd, rr, q1, q2, q3, q4, -⟩ := h
  have e1 : rr 1 = (a : Int) := q1 1 (by decide)
  have e2 : rr 2 = (3 : Int) := q1 2 (by decide)
  have e3 : rr 3 = x2 := q1 3 (by decide)
  have e4 : rr 4 = x3 := q1 4 (by decide)
  have e5 : rr 5 = (tm : Int) := q1 5 (by decide)
  have e6 : rr 6 = (ts : Int) := q1 6 (by decide)
  have e7 : rr 7 = s := q1 7 (by decide)
  have e8 : rr 8 = z := q1 8 (by decide)
  have er : rr 9 = r := q2 0 _ rfl
  have hd : d ∈ ct_post k_c210_6 := hd
  simp only [ct_post, k_c210_6, List.mem_cons, List.not_mem_nil, or_false] at hd
  rcases hd with rfl | rfl | rfl | rfl | rfl <;>
    (have c1 : k_fn w' tm 60 3 (rr 10) := k_fnD (b := 4) (q3 0 _ rfl) e5 (by show (0 : Int) + (1 * rr 2 + 0) = _; rw [e2]; rfl) i1
     have c2 : k_fn w' ts 59 3 (rr 11) := k_fnD (b := 5) (q3 1 _ rfl) e6 (by show (0 : Int) + (1 * rr 2 + 0) = _; rw [e2]; rfl) i2
     simp only [List.forall_mem_cons, c_ev, c_evs, List.not_mem_nil, false_implies, implies_true, and_true, e3, e4, e7, e8, er] at q4
     exact ⟨rr 10, rr 11, c1, c2, by omega⟩)
theorem k_writeC {w w' : cWld} {a so si : Nat} {x1 x2 v s z r : Int} (h : c_Post k_c125_3 (k_rv [(a : Int), x1, x2, v, (so : Int), (si : Int), s, z]) w w' [r]) : (r = 1 ∧ (0 ≤ s ∧ 0 ≤ x2 ∧ x2 < z)) ∨ (r = 0 ∧ ¬ (0 ≤ s ∧ 0 ≤ x2 ∧ x2 < z)) := by
  obtain ⟨-, -, d, hd, rr, q1, q2, q3, q4, -⟩ := h
  have e1 : rr 1 = (a : Int) := q1 1 (by decide)
  have e2 : rr 2 = x1 := q1 2 (by decide)
  have e3 : rr 3 = x2 := q1 3 (by decide)
  have e4 : rr 4 = v := q1 4 (by decide)
  have e5 : rr 5 = (so : Int) := q1 5 (by decide)
  have e6 : rr 6 = (si : Int) := q1 6 (by decide)
  have e7 : rr 7 = s := q1 7 (by decide)
  have e8 : rr 8 = z := q1 8 (by decide)
  have er : rr 9 = r := q2 0 _ rfl
  have hd : d ∈ ct_post k_c125_3 := hd
  simp only [ct_post, k_c125_3, List.mem_cons, List.not_mem_nil, or_false] at hd
  rcases hd with rfl | rfl | rfl | rfl | rfl | rfl | rfl <;>
    (simp only [List.forall_mem_cons, c_ev, c_evs, List.not_mem_nil, false_implies, implies_true, and_true, e3, e7, e8, er] at q4
     omega)
theorem k_writeM {w w' : cWld} {a tm : Nat} {x1 x2 v m r : Int} (h : c_Post k_c213_3 (k_rv [(a : Int), x1, x2, v, (tm : Int), m]) w w' [r]) : (r = 1 ∧ (0 ≤ x2 ∧ x2 < m)) ∨ (r = 0 ∧ ¬ (0 ≤ x2 ∧ x2 < m)) := by
  obtain ⟨-, -, d, hd, rr, q1, q2, q3, q4, -⟩ := h
  have e1 : rr 1 = (a : Int) := q1 1 (by decide)
  have e2 : rr 2 = x1 := q1 2 (by decide)
  have e3 : rr 3 = x2 := q1 3 (by decide)
  have e4 : rr 4 = v := q1 4 (by decide)
  have e5 : rr 5 = (tm : Int) := q1 5 (by decide)
  have e6 : rr 6 = m := q1 6 (by decide)
  have er : rr 7 = r := q2 0 _ rfl
  have hd : d ∈ ct_post k_c213_3 := hd
  simp only [ct_post, k_c213_3, List.mem_cons, List.not_mem_nil, or_false] at hd
  rcases hd with rfl | rfl | rfl | rfl <;>
    (simp only [List.forall_mem_cons, c_ev, c_evs, List.not_mem_nil, false_implies, implies_true, and_true, e3, e6, er] at q4
     omega)
theorem k_pourC {w w' : cWld} {a so si : Nat} {x1 x2 x3 x4 x5 s z s2 z2 r : Int} (h : c_Post k_c128_5 (k_rv [(a : Int), x1, x2, x3, x4, x5, (so : Int), (si : Int), s, z, s2, z2]) w w' [r]) : (r = 1 ∧ (0 ≤ s ∧ 0 ≤ s2 ∧ s = s2 ∧ 0 ≤ x5 ∧ 0 ≤ x2 ∧ 0 ≤ x4 ∧ x2 + x5 ≤ z ∧ x4 + x5 ≤ z2)) ∨ (r = 0 ∧ ¬ (0 ≤ s ∧ 0 ≤ s2 ∧ s = s2 ∧ 0 ≤ x5 ∧ 0 ≤ x2 ∧ 0 ≤ x4 ∧ x2 + x5 ≤ z ∧ x4 + x5 ≤ z2)) := by
  obtain ⟨-, -, d, hd, rr, q1, q2, q3, q4, -⟩ := h
  have e1 : rr 1 = (a : Int) := q1 1 (by decide)
  have e2 : rr 2 = x1 := q1 2 (by decide)
  have e3 : rr 3 = x2 := q1 3 (by decide)
  have e4 : rr 4 = x3 := q1 4 (by decide)
  have e5 : rr 5 = x4 := q1 5 (by decide)
  have e6 : rr 6 = x5 := q1 6 (by decide)
  have e7 : rr 7 = (so : Int) := q1 7 (by decide)
  have e8 : rr 8 = (si : Int) := q1 8 (by decide)
  have e9 : rr 9 = s := q1 9 (by decide)
  have e10 : rr 10 = z := q1 10 (by decide)
  have e11 : rr 11 = s2 := q1 11 (by decide)
  have e12 : rr 12 = z2 := q1 12 (by decide)
  have er : rr 13 = r := q2 0 _ rfl
  have hd : d ∈ ct_post k_c128_5 := hd
  simp only [ct_post, k_c128_5, List.mem_cons, List.not_mem_nil, or_false] at hd
  rcases hd with rfl | rfl | rfl | rfl | rfl | rfl | rfl <;>
    (simp only [List.forall_mem_cons, c_ev, c_evs, List.not_mem_nil, false_implies, implies_true, and_true, e3, e5, e6, e9, e10, e11, e12, er] at q4
     omega)
theorem k_pourM {w w' : cWld} {a tm ts : Nat} {x1 x2 x3 x4 x5 m u m2 u2 r : Int} (h : c_Post k_c215_5 (k_rv [(a : Int), x1, x2, x3, x4, x5, (tm : Int), (ts : Int), m, u, m2, u2]) w w' [r]) : (r = 1 ∧ (0 ≤ m ∧ 0 ≤ m2 ∧ u = u2 ∧ 0 ≤ x5 ∧ 0 ≤ x2 ∧ 0 ≤ x4 ∧ x2 + x5 ≤ m ∧ x4 + x5 ≤ m2)) ∨ (r = 0 ∧ ¬ (0 ≤ m ∧ 0 ≤ m2 ∧ u = u2 ∧ 0 ≤ x5 ∧ 0 ≤ x2 ∧ 0 ≤ x4 ∧ x2 + x5 ≤ m ∧ x4 + x5 ≤ m2)) := by
  obtain ⟨-, -, d, hd, rr, q1, q2, q3, q4, -⟩ := h
  have e1 : rr 1 = (a : Int) := q1 1 (by decide)
  have e2 : rr 2 = x1 := q1 2 (by decide)
  have e3 : rr 3 = x2 := q1 3 (by decide)
  have e4 : rr 4 = x3 := q1 4 (by decide)
  have e5 : rr 5 = x4 := q1 5 (by decide)
  have e6 : rr 6 = x5 := q1 6 (by decide)
  have e7 : rr 7 = (tm : Int) := q1 7 (by decide)
  have e8 : rr 8 = (ts : Int) := q1 8 (by decide)
  have e9 : rr 9 = m := q1 9 (by decide)
  have e10 : rr 10 = u := q1 10 (by decide)
  have e11 : rr 11 = m2 := q1 11 (by decide)
  have e12 : rr 12 = u2 := q1 12 (by decide)
  have er : rr 13 = r := q2 0 _ rfl
  have hd : d ∈ ct_post k_c215_5 := hd
  simp only [ct_post, k_c215_5, List.mem_cons, List.not_mem_nil, or_false] at hd
  rcases hd with rfl | rfl | rfl | rfl | rfl | rfl | rfl | rfl <;>
    (simp only [List.forall_mem_cons, c_ev, c_evs, List.not_mem_nil, false_implies, implies_true, and_true, e3, e5, e6, e9, e10, e11, e12, er] at q4
     omega)
theorem k_writeCL {w w' : cWld} {a : Nat} {x1 x2 x3 r : Int} (h : c_Post k_c125_1 (k_rv [(a : Int), x1, x2, x3]) w w' [r]) : r = 0 := by
  obtain ⟨-, -, d, hd, rr, q1, q2, q3, q4, -⟩ := h
  have er : rr 5 = r := q2 0 _ rfl
  have hd : d ∈ ct_post k_c125_1 := hd
  simp only [ct_post, k_c125_1, List.mem_cons, List.not_mem_nil, or_false] at hd
  rcases hd with rfl <;>
    (simp only [List.forall_mem_cons, c_ev, c_evs, List.not_mem_nil, false_implies, implies_true, and_true, er] at q4
     omega)
theorem k_writeML {w w' : cWld} {a : Nat} {x1 x2 x3 r : Int} (h : c_Post k_c213_1 (k_rv [(a : Int), x1, x2, x3]) w w' [r]) : r = 0 := by
  obtain ⟨-, -, d, hd, rr, q1, q2, q3, q4, -⟩ := h
  have er : rr 5 = r := q2 0 _ rfl
  have hd : d ∈ ct_post k_c213_1 := hd
  simp only [ct_post, k_c213_1, List.mem_cons, List.not_mem_nil, or_false] at hd
  rcases hd with rfl <;>
    (simp only [List.forall_mem_cons, c_ev, c_evs, List.not_mem_nil, false_implies, implies_true, and_true, er] at q4
     omega)
theorem k_writeCH {w w' : cWld} {a : Nat} {x1 x2 x3 r : Int} (h : c_Post k_c125_2 (k_rv [(a : Int), x1, x2, x3]) w w' [r]) : r = 0 := by
  obtain ⟨-, -, d, hd, rr, q1, q2, q3, q4, -⟩ := h
  have er : rr 5 = r := q2 0 _ rfl
  have hd : d ∈ ct_post k_c125_2 := hd
  simp only [ct_post, k_c125_2, List.mem_cons, List.not_mem_nil, or_false] at hd
  rcases hd with rfl <;>
    (simp only [List.forall_mem_cons, c_ev, c_evs, List.not_mem_nil, false_implies, implies_true, and_true, er] at q4
     omega)
theorem k_writeMH {w w' : cWld} {a : Nat} {x1 x2 x3 r : Int} (h : c_Post k_c213_2 (k_rv [(a : Int), x1, x2, x3]) w w' [r]) : r = 0 := by
  obtain ⟨-, -, d, hd, rr, q1, q2, q3, q4, -⟩ := h
  have er : rr 5 = r := q2 0 _ rfl
  have hd : d ∈ ct_post k_c213_2 := hd
  simp only [ct_post, k_c213_2, List.mem_cons, List.not_mem_nil, or_false] at hd
  rcases hd with rfl <;>
    (simp only [List.forall_mem_cons, c_ev, c_evs, List.not_mem_nil, false_implies, implies_true, and_true, er] at q4
     omega)
theorem k_pourCL {w w' : cWld} {a : Nat} {x1 x2 x3 x4 x5 r : Int} (h : c_Post k_c128_1 (k_rv [(a : Int), x1, x2, x3, x4, x5]) w w' [r]) : r = 0 := by
  obtain ⟨-, -, d, hd, rr, q1, q2, q3, q4, -⟩ := h
  have er : rr 7 = r := q2 0 _ rfl
  have hd : d ∈ ct_post k_c128_1 := hd
  simp only [ct_post, k_c128_1, List.mem_cons, List.not_mem_nil, or_false] at hd
  rcases hd with rfl <;>
    (simp only [List.forall_mem_cons, c_ev, c_evs, List.not_mem_nil, false_implies, implies_true, and_true, er] at q4
     omega)
theorem k_pourML {w w' : cWld} {a : Nat} {x1 x2 x3 x4 x5 r : Int} (h : c_Post k_c215_1 (k_rv [(a : Int), x1, x2, x3, x4, x5]) w w' [r]) : r = 0 := by
  obtain ⟨-, -, d, hd, rr, q1, q2, q3, q4, -⟩ := h
  have er : rr 7 = r := q2 0 _ rfl
  have hd : d ∈ ct_post k_c215_1 := hd
  simp only [ct_post, k_c215_1, List.mem_cons, List.not_mem_nil, or_false] at hd
  rcases hd with rfl <;>
    (simp only [List.forall_mem_cons, c_ev, c_evs, List.not_mem_nil, false_implies, implies_true, and_true, er] at q4
     omega)
theorem k_pourCH {w w' : cWld} {a : Nat} {x1 x2 x3 x4 x5 r : Int} (h : c_Post k_c128_2 (k_rv [(a : Int), x1, x2, x3, x4, x5]) w w' [r]) : r = 0 := by
  obtain ⟨-, -, d, hd, rr, q1, q2, q3, q4, -⟩ := h
  have er : rr 7 = r := q2 0 _ rfl
  have hd : d ∈ ct_post k_c128_2 := hd
  simp only [ct_post, k_c128_2, List.mem_cons, List.not_mem_nil, or_false] at hd
  rcases hd with rfl <;>
    (simp only [List.forall_mem_cons, c_ev, c_evs, List.not_mem_nil, false_implies, implies_true, and_true, er] at q4
     omega)
theorem k_pourMH {w w' : cWld} {a : Nat} {x1 x2 x3 x4 x5 r : Int} (h : c_Post k_c215_2 (k_rv [(a : Int), x1, x2, x3, x4, x5]) w w' [r]) : r = 0 := by
  obtain ⟨-, -, d, hd, rr, q1, q2, q3, q4, -⟩ := h
  have er : rr 7 = r := q2 0 _ rfl
  have hd : d ∈ ct_post k_c215_2 := hd
  simp only [ct_post, k_c215_2, List.mem_cons, List.not_mem_nil, or_false] at hd
  rcases hd with rfl <;>
    (simp only [List.forall_mem_cons, c_ev, c_evs, List.not_mem_nil, false_implies, implies_true, and_true, er] at q4
     omega)
theorem k_pourCML {w w' : cWld} {a : Nat} {x1 x2 x3 x4 x5 r : Int} (h : c_Post k_c128_3 (k_rv [(a : Int), x1, x2, x3, x4, x5]) w w' [r]) : r = 0 := by
  obtain ⟨-, -, d, hd, rr, q1, q2, q3, q4, -⟩ := h
  have er : rr 7 = r := q2 0 _ rfl
  have hd : d ∈ ct_post k_c128_3 := hd
  simp only [ct_post, k_c128_3, List.mem_cons, List.not_mem_nil, or_false] at hd
  rcases hd with rfl <;>
    (simp only [List.forall_mem_cons, c_ev, c_evs, List.not_mem_nil, false_implies, implies_true, and_true, er] at q4
     omega)
theorem k_pourMML {w w' : cWld} {a : Nat} {x1 x2 x3 x4 x5 r : Int} (h : c_Post k_c215_3 (k_rv [(a : Int), x1, x2, x3, x4, x5]) w w' [r]) : r = 0 := by
  obtain ⟨-, -, d, hd, rr, q1, q2, q3, q4, -⟩ := h
  have er : rr 7 = r := q2 0 _ rfl
  have hd : d ∈ ct_post k_c215_3 := hd
  simp only [ct_post, k_c215_3, List.mem_cons, List.not_mem_nil, or_false] at hd
  rcases hd with rfl <;>
    (simp only [List.forall_mem_cons, c_ev, c_evs, List.not_mem_nil, false_implies, implies_true, and_true, er] at q4
     omega)
theorem k_pourCMH {w w' : cWld} {a : Nat} {x1 x2 x3 x4 x5 r : Int} (h : c_Post k_c128_4 (k_rv [(a : Int), x1, x2, x3, x4, x5]) w w' [r]) : r = 0 := by
  obtain ⟨-, -, d, hd, rr, q1, q2, q3, q4, -⟩ := h
  have er : rr 7 = r := q2 0 _ rfl
  have hd : d ∈ ct_post k_c128_4 := hd
  simp only [ct_post, k_c128_4, List.mem_cons, List.not_mem_nil, or_false] at hd
  rcases hd with rfl <;>
    (simp only [List.forall_mem_cons, c_ev, c_evs, List.not_mem_nil, false_implies, implies_true, and_true, er] at q4
     omega)
theorem k_pourMMH {w w' : cWld} {a : Nat} {x1 x2 x3 x4 x5 r : Int} (h : c_Post k_c215_4 (k_rv [(a : Int), x1, x2, x3, x4, x5]) w w' [r]) : r = 0 := by
  obtain ⟨-, -, d, hd, rr, q1, q2, q3, q4, -⟩ := h
  have er : rr 7 = r := q2 0 _ rfl
  have hd : d ∈ ct_post k_c215_4 := hd
  simp only [ct_post, k_c215_4, List.mem_cons, List.not_mem_nil, or_false] at hd
  rcases hd with rfl <;>
    (simp only [List.forall_mem_cons, c_ev, c_evs, List.not_mem_nil, false_implies, implies_true, and_true, er] at q4
     omega)
theorem k_pourCMa {w w' : cWld} {a so si : Nat} {x1 x2 x3 x4 x5 s z s2 z2 r : Int} (h : c_Post k_c128_6 (k_rv [(a : Int), x1, x2, x3, x4, x5, (so : Int), (si : Int), s, z, s2, z2]) w w' [r]) : r = 0 := by
  obtain ⟨-, -, d, hd, rr, q1, q2, q3, q4, -⟩ := h
  have er : rr 13 = r := q2 0 _ rfl
  have hd : d ∈ ct_post k_c128_6 := hd
  simp only [ct_post, k_c128_6, List.mem_cons, List.not_mem_nil, or_false] at hd
  rcases hd with rfl | rfl <;>
    (simp only [List.forall_mem_cons, c_ev, c_evs, List.not_mem_nil, false_implies, implies_true, and_true, er] at q4
     omega)
theorem k_pourMMa {w w' : cWld} {a tm ts : Nat} {x1 x2 x3 x4 x5 m u m2 u2 r : Int} (h : c_Post k_c215_6 (k_rv [(a : Int), x1, x2, x3, x4, x5, (tm : Int), (ts : Int), m, u, m2, u2]) w w' [r]) : r = 0 := by
  obtain ⟨-, -, d, hd, rr, q1, q2, q3, q4, -⟩ := h
  have er : rr 13 = r := q2 0 _ rfl
  have hd : d ∈ ct_post k_c215_6 := hd
  simp only [ct_post, k_c215_6, List.mem_cons, List.not_mem_nil, or_false] at hd
  rcases hd with rfl | rfl | rfl <;>
    (simp only [List.forall_mem_cons, c_ev, c_evs, List.not_mem_nil, false_implies, implies_true, and_true, er] at q4
     omega)
theorem k_pourCMc {w w' : cWld} {a so si : Nat} {x1 x2 x3 x4 x5 s z s2 z2 r : Int} (h : c_Post k_c128_7 (k_rv [(a : Int), x1, x2, x3, x4, x5, (so : Int), (si : Int), s, z, s2, z2]) w w' [r]) : r = 0 := by
  obtain ⟨-, -, d, hd, rr, q1, q2, q3, q4, -⟩ := h
  have er : rr 13 = r := q2 0 _ rfl
  have hd : d ∈ ct_post k_c128_7 := hd
  simp only [ct_post, k_c128_7, List.mem_cons, List.not_mem_nil, or_false] at hd
  rcases hd with rfl | rfl <;>
    (simp only [List.forall_mem_cons, c_ev, c_evs, List.not_mem_nil, false_implies, implies_true, and_true, er] at q4
     omega)
theorem k_pourMMc {w w' : cWld} {a tm ts : Nat} {x1 x2 x3 x4 x5 m u m2 u2 r : Int} (h : c_Post k_c215_7 (k_rv [(a : Int), x1, x2, x3, x4, x5, (tm : Int), (ts : Int), m, u, m2, u2]) w w' [r]) : r = 0 := by
  obtain ⟨-, -, d, hd, rr, q1, q2, q3, q4, -⟩ := h
  have er : rr 13 = r := q2 0 _ rfl
  have hd : d ∈ ct_post k_c215_7 := hd
  simp only [ct_post, k_c215_7, List.mem_cons, List.not_mem_nil, or_false] at hd
  rcases hd with rfl | rfl | rfl <;>
    (simp only [List.forall_mem_cons, c_ev, c_evs, List.not_mem_nil, false_implies, implies_true, and_true, er] at q4
     omega)
