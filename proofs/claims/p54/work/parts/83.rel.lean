/-! marks: class and reference have as many; those below the count are there -/
theorem k_inK {E : cEff} {pros : List Nat} {w w' : cWld} {a t : Nat} (h : c_ext E pros w w') (hp : pros.all (fun t => Nat.ble 101 t) = true) (ht : t ≤ 100) (hf : c_in w a t) : c_in w' a t := by
  obtain ⟨e, h1, h2⟩ := hf
  obtain ⟨e', g1, g2⟩ := h.1 _ h1
  rcases g2 with ⟨g2, g3⟩ | g2
  · exact ⟨e', g1, g2.trans h2⟩
  · exfalso
    have h5 := Nat.le_of_ble_eq_true (List.all_eq_true.mp hp _ g2)
    dsimp only at h5
    omega
theorem k_fnU {AA : Nat → Prop} {w : cWld} {a t t' i : Nat} {z z' : Int} (hD : va_D AA w.2.1) (h : k_fn w a t i z) (h' : k_fn w a t' i z') : z = z' :=
  c_cell_fun (p := fun _ => (a : Int)) (p' := fun _ => (a : Int)) (b := 0 + 1) (idx := ((i : Int), [])) hD (fun _ => rfl) rfl (k_fnC h rfl (by show (i : Int) + 0 = _; omega)) (k_fnC h' rfl (by show (i : Int) + 0 = _; omega))
theorem k_fnT {w : cWld} {dA : Nat → ClassId} {a t i : Nat} {z lo hi : Int} (hT : c_TW k_K dA w) (hf : k_fn w a t i z) (hty : c_ty k_K t i = (0, lo, hi)) : lo ≤ z ∧ z ≤ hi := by
  obtain ⟨e, v, h1, h2, h3, h4⟩ := hf
  have h := (hT _ h1).2.1 i v h3
  dsimp only at h
  rw [h2, hty] at h
  obtain ⟨x, rfl, h5, h6⟩ := h
  have h4 : x.toInt = z := h4
  exact ⟨h4 ▸ h5, h4 ▸ h6⟩
theorem k_fnRf {w : cWld} {dA : Nat → ClassId} {a t i t' : Nat} {z : Int} (hT : c_TW k_K dA w) (hf : k_fn w a t i z) (hty : c_ty k_K t i = (3, (t' : Int), 0)) : ∃ x : Nat, z = (x : Int) ∧ c_in w x t' := by
  obtain ⟨e, v, h1, h2, h3, h4⟩ := hf
  have h := (hT _ h1).2.1 i v h3
  dsimp only at h
  rw [h2, hty] at h
  obtain ⟨x, rfl, h5⟩ := h
  exact ⟨x, h4.symm, h5⟩
def k_nn (w : cWld) (ms k : Nat) : Prop := ∃ b : Int, 0 ≤ b ∧ k_fn w ms 19 k b
def k_R1 (a1 : Nat) (w : cWld) (z : Int) (ms : Nat) : Prop := k_fn w a1 12 14 z ∧ k_fn w a1 12 13 (ms : Int) ∧ c_in w ms 19 ∧ (1 ≤ z → k_nn w ms 0) ∧ (2 ≤ z → k_nn w ms 1) ∧ (3 ≤ z → k_nn w ms 2)
def k_R (a1 a2 : Nat) (w : cWld) : Prop := ∃ (z : Int) (ms : Nat), k_R1 a1 w z ms ∧ k_fn w a2 13 25 z
def k_off0 (E : cEff) : Bool := c_off E 12 13 13 && c_off E 19 0 0 && c_off E 19 1 1 && c_off E 19 2 2
def k_offR (E : cEff) : Bool := k_off0 E && c_off E 12 14 14 && c_off E 13 25 25
section RM
variable {E : cEff} {pros : List Nat} {w w' : cWld} {a1 a2 ms k : Nat} {z z' : Int}
theorem k_nnK (h : c_ext E pros w w') (hp : pros.all (fun t => Nat.ble 101 t) = true) (hE : c_off E 19 (k : Int) (k : Int) = true) (hf : k_nn w ms k) : k_nn w' ms k := by
  obtain ⟨b, h1, h2⟩ := hf
  exact ⟨b, h1, k_fnK h hp (by decide) hE h2⟩
/-- the count becomes z', not above what is there -/
theorem k_R1K (h : c_ext E pros w w') (hp : pros.all (fun t => Nat.ble 101 t) = true) (hE : k_off0 E = true) (hR : k_R1 a1 w z ms) (hz : z' ≤ z) (hn : k_fn w' a1 12 14 z') : k_R1 a1 w' z' ms := by
  unfold k_off0 at hE
  rw [Bool.and_eq_true, Bool.and_eq_true, Bool.and_eq_true] at hE
  obtain ⟨⟨⟨e1, e2⟩, e3⟩, e4⟩ := hE
  obtain ⟨h1, h2, h3, h4, h5, h6⟩ := hR
  exact ⟨hn, k_fnK h hp (by decide) e1 h2, k_inK h hp (by decide) h3, fun g => k_nnK (k := 0) h hp e2 (h4 (by omega)), fun g => k_nnK (k := 1) h hp e3 (h5 (by omega)), fun g => k_nnK (k := 2) h hp e4 (h6 (by omega))⟩
theorem k_RK (h : c_ext E pros w w') (hp : pros.all (fun t => Nat.ble 101 t) = true) (hE : k_offR E = true) (hR : k_R a1 a2 w) : k_R a1 a2 w' := by
  unfold k_offR at hE
  rw [Bool.and_eq_true, Bool.and_eq_true] at hE
  obtain ⟨⟨e1, e2⟩, e3⟩ := hE
  obtain ⟨z, ms, h1, h2⟩ := hR
  exact ⟨z, ms, k_R1K h hp e1 h1 (Int.le_refl _) (k_fnK h hp (by decide) e2 h1.1), k_fnK h hp (by decide) e3 h2⟩
theorem k_backC {AA : Nat → Prop} {r : Int} (h : c_Post k_c199_0 (k_rv [(a1 : Int), z]) w w' [r]) (hD : va_D AA w'.2.1) (hin : c_in w' a1 12) (h0 : 0 ≤ z) (h3 : z ≤ 3) (hR : k_R1 a1 w z ms) : ∃ z', k_R1 a1 w' z' ms ∧ ((1 ≤ z ∧ r = z - 1 ∧ z' = z - 1) ∨ (z = 0 ∧ r = -1 ∧ z' = z)) := by
  obtain ⟨he, -, d, hd, rr, q1, q2, q3, q4, -⟩ := h
  have e1 : rr 1 = (a1 : Int) := q1 1 (by decide)
  have e2 : rr 2 = z := q1 2 (by decide)
  have e3 : rr 3 = r := q2 0 _ rfl
  have hd : d ∈ ct_post k_c199_0 := hd
  have hpr : (ct_pros k_c199_0).all (fun t => Nat.ble 101 t) = true := by decide +kernel
  simp only [ct_post, k_c199_0, List.mem_cons, List.not_mem_nil, or_false] at hd
  have fin : ∀ v : Int, k_fn w' a1 12 14 v → v ≤ z → k_R1 a1 w' v ms := fun v hv hz => k_R1K he hpr (by decide +kernel) hR hz hv
  rcases hd with rfl | rfl | rfl
  · have hc : k_fn w' a1 12 14 (rr 4) := k_fnD (b := 0) (q3 0 _ rfl) e1 rfl hin
    simp only [List.forall_mem_cons, c_ev, c_evs, List.not_mem_nil, false_implies, implies_true, and_true, e2, e3] at q4
    exact ⟨rr 4, fin _ hc (by omega), by omega⟩
  · have hc : k_fn w' a1 12 14 (rr 4) := k_fnD (b := 0) (q3 0 _ rfl) e1 rfl hin
    simp only [List.forall_mem_cons, c_ev, c_evs, List.not_mem_nil, false_implies, implies_true, and_true, e2, e3] at q4
    exact ⟨rr 4, fin _ hc (by omega), by omega⟩
  · exfalso
    have hc : k_fn w' a1 12 14 (rr 4) := k_fnD (b := 0) (q3 0 _ rfl) e1 rfl hin
    have hm : k_fn w' a1 12 13 (rr 5) := k_fnD (b := 0) (q3 1 _ rfl) e1 rfl hin
    have hb : c_cell w' rr (4 + 1) ((-1), [(2, 1)]) (rr 6) := q3 2 _ rfl
    simp only [List.forall_mem_cons, c_ev, c_evs, List.not_mem_nil, false_implies, implies_true, and_true, e2, e3] at q4
    obtain ⟨-, g2, g3, g4, g5, g6⟩ := fin _ hc (by omega)
    have e5 : rr 5 = (ms : Int) := k_fnU hD hm g2
    have key : ∀ k : Nat, z = (k : Int) + 1 → k_nn w' ms k → False := fun k hk hn => by
      obtain ⟨b, b1, b2⟩ := hn
      have hb' : k_fn w' ms 19 k (rr 6) := k_fnD hb e5 (by show (-1 : Int) + (1 * rr 2 + 0) = _; rw [e2]; omega) g3
      have := k_fnU hD hb' b2
      omega
    rcases (show z = 1 ∨ z = 2 ∨ z = 3 by omega) with h | h | h
    · exact key 0 (by rw [h]; rfl) (g4 (by omega))
    · exact key 1 (by rw [h]; rfl) (g5 (by omega))
    · exact key 2 (by rw [h]; rfl) (g6 (by omega))
theorem k_markM {r : Int} (h : c_Post k_c355_0 (k_rv [(a2 : Int), 0, z]) w w' [r]) (hin : c_in w' a2 13) : ∃ n, k_fn w' a2 13 25 n ∧ ((z ≤ 2 ∧ r = z + 1 ∧ n = z + 1) ∨ (z = 3 ∧ r = -1 ∧ n = z)) := by
  obtain ⟨-, -, d, hd, rr, q1, q2, q3, q4, -⟩ := h
  have e1 : rr 1 = (a2 : Int) := q1 1 (by decide)
  have e2 : rr 3 = z := q1 3 (by decide)
  have e3 : rr 4 = r := q2 0 _ rfl
  have hd : d ∈ ct_post k_c355_0 := hd
  simp only [ct_post, k_c355_0, List.mem_cons, List.not_mem_nil, or_false] at hd
  rcases hd with rfl | rfl <;>
    (have hc : k_fn w' a2 13 25 (rr 6) := k_fnD (b := 0) (q3 1 _ rfl) e1 rfl hin
     simp only [List.forall_mem_cons, c_ev, c_evs, List.not_mem_nil, false_implies, implies_true, and_true, e2, e3] at q4
     exact ⟨rr 6, hc, by omega⟩)
theorem k_backM {r : Int} (h : c_Post k_c356_0 (k_rv [(a2 : Int), 0, z]) w w' [r]) (hin : c_in w' a2 13) : ∃ n, k_fn w' a2 13 25 n ∧ ((1 ≤ z ∧ r = z - 1 ∧ n = z - 1) ∨ (z = 0 ∧ r = -1 ∧ n = z)) := by
  obtain ⟨-, -, d, hd, rr, q1, q2, q3, q4, -⟩ := h
  have e1 : rr 1 = (a2 : Int) := q1 1 (by decide)
  have e2 : rr 3 = z := q1 3 (by decide)
  have e3 : rr 4 = r := q2 0 _ rfl
  have hd : d ∈ ct_post k_c356_0 := hd
  simp only [ct_post, k_c356_0, List.mem_cons, List.not_mem_nil, or_false] at hd
  rcases hd with rfl | rfl <;>
    (have hc : k_fn w' a2 13 25 (rr 6) := k_fnD (b := 0) (q3 1 _ rfl) e1 rfl hin
     simp only [List.forall_mem_cons, c_ev, c_evs, List.not_mem_nil, false_implies, implies_true, and_true, e2, e3] at q4
     exact ⟨rr 6, hc, by omega⟩)
theorem k_mark0 {AA : Nat → Prop} {r : Int} (h : c_Post k_c198_1 (k_rv [(a1 : Int), 0]) w w' [r]) (hD : va_D AA w'.2.1) (hin : c_in w' a1 12) (hR : k_R1 a1 w 0 ms) : r = 1 ∧ k_R1 a1 w' 1 ms := by
  obtain ⟨he, -, d, hd, rr, q1, q2, q3, q4, q5⟩ := h
  have e1 : rr 1 = (a1 : Int) := q1 1 (by decide)
  have e2 : rr 2 = 0 := q1 2 (by decide)
  have e3 : rr 3 = r := q2 0 _ rfl
  have hd : d ∈ ct_post k_c198_1 := hd
  have hpr : (ct_pros k_c198_1).all (fun t => Nat.ble 101 t) = true := by decide +kernel
  simp only [ct_post, k_c198_1, List.mem_cons, List.not_mem_nil, or_false] at hd
  subst hd
  have hc : k_fn w' a1 12 14 (rr 4) := k_fnD (b := 0) (q3 0 _ rfl) e1 rfl hin
  have hm : k_fn w' a1 12 13 (rr 5) := k_fnD (b := 0) (q3 1 _ rfl) e1 rfl hin
  have hb : c_cell w' rr (4 + 1) (0, [(2, 1)]) (rr 6) := q3 2 _ rfl
  have hn : (0 : Int) ≤ rr 6 := q5 (6, 3) List.mem_cons_self (Or.inr rfl)
  simp only [List.forall_mem_cons, c_ev, c_evs, List.not_mem_nil, false_implies, implies_true, and_true, e2, e3] at q4
  obtain ⟨h1, h2, h3, h4, h5, h6⟩ := hR
  have g2 : k_fn w' a1 12 13 (ms : Int) := k_fnK he hpr (by decide) (by decide +kernel) h2
  have g3 := k_inK he hpr (by decide) h3
  have e5 : rr 5 = (ms : Int) := k_fnU hD hm g2
  have hb' : k_nn w' ms 0 := ⟨rr 6, hn, k_fnD hb e5 (by show (0 : Int) + (1 * rr 2 + 0) = _; rw [e2]; rfl) g3⟩
  have e4 : rr 4 = 1 := by omega
  rw [e4] at hc
  exact ⟨by omega, hc, g2, g3, fun _ => hb', fun g => absurd g (by decide), fun g => absurd g (by decide)⟩
theorem k_mark1 {AA : Nat → Prop} {r : Int} (h : c_Post k_c198_2 (k_rv [(a1 : Int), 1]) w w' [r]) (hD : va_D AA w'.2.1) (hin : c_in w' a1 12) (hR : k_R1 a1 w 1 ms) : r = 2 ∧ k_R1 a1 w' 2 ms := by
  obtain ⟨he, -, d, hd, rr, q1, q2, q3, q4, q5⟩ := h
  have e1 : rr 1 = (a1 : Int) := q1 1 (by decide)
  have e2 : rr 2 = 1 := q1 2 (by decide)
  have e3 : rr 3 = r := q2 0 _ rfl
  have hd : d ∈ ct_post k_c198_2 := hd
  have hpr : (ct_pros k_c198_2).all (fun t => Nat.ble 101 t) = true := by decide +kernel
  simp only [ct_post, k_c198_2, List.mem_cons, List.not_mem_nil, or_false] at hd
  subst hd
  have hc : k_fn w' a1 12 14 (rr 4) := k_fnD (b := 0) (q3 0 _ rfl) e1 rfl hin
  have hm : k_fn w' a1 12 13 (rr 5) := k_fnD (b := 0) (q3 1 _ rfl) e1 rfl hin
  have hb : c_cell w' rr (4 + 1) (0, [(2, 1)]) (rr 6) := q3 2 _ rfl
  have hn : (0 : Int) ≤ rr 6 := q5 (6, 3) List.mem_cons_self (Or.inr rfl)
  simp only [List.forall_mem_cons, c_ev, c_evs, List.not_mem_nil, false_implies, implies_true, and_true, e2, e3] at q4
  obtain ⟨h1, h2, h3, h4, h5, h6⟩ := hR
  have g2 : k_fn w' a1 12 13 (ms : Int) := k_fnK he hpr (by decide) (by decide +kernel) h2
  have g3 := k_inK he hpr (by decide) h3
  have e5 : rr 5 = (ms : Int) := k_fnU hD hm g2
  have hb' : k_nn w' ms 1 := ⟨rr 6, hn, k_fnD hb e5 (by show (0 : Int) + (1 * rr 2 + 0) = _; rw [e2]; rfl) g3⟩
  have e4 : rr 4 = 2 := by omega
  rw [e4] at hc
  exact ⟨by omega, hc, g2, g3, fun _ => k_nnK (k := 0) he hpr (by decide +kernel) (h4 (by decide)), fun _ => hb', fun g => absurd g (by decide)⟩
theorem k_mark2 {AA : Nat → Prop} {r : Int} (h : c_Post k_c198_3 (k_rv [(a1 : Int), 2]) w w' [r]) (hD : va_D AA w'.2.1) (hin : c_in w' a1 12) (hR : k_R1 a1 w 2 ms) : r = 3 ∧ k_R1 a1 w' 3 ms := by
  obtain ⟨he, -, d, hd, rr, q1, q2, q3, q4, q5⟩ := h
  have e1 : rr 1 = (a1 : Int) := q1 1 (by decide)
  have e2 : rr 2 = 2 := q1 2 (by decide)
  have e3 : rr 3 = r := q2 0 _ rfl
  have hd : d ∈ ct_post k_c198_3 := hd
  have hpr : (ct_pros k_c198_3).all (fun t => Nat.ble 101 t) = true := by decide +kernel
  simp only [ct_post, k_c198_3, List.mem_cons, List.not_mem_nil, or_false] at hd
  subst hd
  have hc : k_fn w' a1 12 14 (rr 4) := k_fnD (b := 0) (q3 0 _ rfl) e1 rfl hin
  have hm : k_fn w' a1 12 13 (rr 5) := k_fnD (b := 0) (q3 1 _ rfl) e1 rfl hin
  have hb : c_cell w' rr (4 + 1) (0, [(2, 1)]) (rr 6) := q3 2 _ rfl
  have hn : (0 : Int) ≤ rr 6 := q5 (6, 3) List.mem_cons_self (Or.inr rfl)
  simp only [List.forall_mem_cons, c_ev, c_evs, List.not_mem_nil, false_implies, implies_true, and_true, e2, e3] at q4
  obtain ⟨h1, h2, h3, h4, h5, h6⟩ := hR
  have g2 : k_fn w' a1 12 13 (ms : Int) := k_fnK he hpr (by decide) (by decide +kernel) h2
  have g3 := k_inK he hpr (by decide) h3
  have e5 : rr 5 = (ms : Int) := k_fnU hD hm g2
  have hb' : k_nn w' ms 2 := ⟨rr 6, hn, k_fnD hb e5 (by show (0 : Int) + (1 * rr 2 + 0) = _; rw [e2]; rfl) g3⟩
  have e4 : rr 4 = 3 := by omega
  rw [e4] at hc
  exact ⟨by omega, hc, g2, g3, fun _ => k_nnK (k := 0) he hpr (by decide +kernel) (h4 (by decide)), fun _ => k_nnK (k := 1) he hpr (by decide +kernel) (h5 (by decide)), fun _ => hb'⟩
theorem k_mark3 {r : Int} (h : c_Post k_c198_4 (k_rv [(a1 : Int), 3]) w w' [r]) (hin : c_in w' a1 12) (hR : k_R1 a1 w 3 ms) : r = -1 ∧ k_R1 a1 w' 3 ms := by
  obtain ⟨he, -, d, hd, rr, q1, q2, q3, q4, -⟩ := h
  have e1 : rr 1 = (a1 : Int) := q1 1 (by decide)
  have e3 : rr 3 = r := q2 0 _ rfl
  have hd : d ∈ ct_post k_c198_4 := hd
  simp only [ct_post, k_c198_4, List.mem_cons, List.not_mem_nil, or_false] at hd
  subst hd
  have hc : k_fn w' a1 12 14 (rr 4) := k_fnD (b := 0) (q3 0 _ rfl) e1 rfl hin
  simp only [List.forall_mem_cons, c_ev, c_evs, List.not_mem_nil, false_implies, implies_true, and_true, e3] at q4
  have e4 : rr 4 = 3 := by omega
  rw [e4] at hc
  exact ⟨by omega, k_R1K he (by decide +kernel) (by decide +kernel) hR (Int.le_refl _) hc⟩
/-- the start -/
theorem k_R0 {dA : Nat → ClassId} (hT : c_TW k_K dA w) (hin : c_in w a1 12) (h1 : k_fn w a1 12 14 0) (h2 : k_fn w a2 13 25 0) : k_R a1 a2 w := by
  obtain ⟨y, hy⟩ := k_fnE (i := 13) hT hin k_sh12 (by decide)
  obtain ⟨ms, rfl, hm⟩ := k_fnRf (t' := 19) hT hy (by decide +kernel)
  exact ⟨0, ms, ⟨h1, hy, hm, fun g => absurd g (by decide), fun g => absurd g (by decide), fun g => absurd g (by decide)⟩, h2⟩
end RM
