/-! narrowing of ranges by a fact; assumptions -/
def c_setV (A : cSt) (v : cEnv) : cSt := (A.1, v, A.2.2)
def c_setG (A : cSt) (g : List (Nat × Nat)) : cSt := (A.1, A.2.1, g, A.2.2.2)
def c_setR (A : cSt) (g : List (Nat × Nat)) : cSt := (A.1, A.2.1, A.2.2.1, g, A.2.2.2.2)
def c_setF (A : cSt) (f : List cLin) : cSt := (A.1, A.2.1, A.2.2.1, A.2.2.2.1, f, A.2.2.2.2.2)
def c_setL (A : cSt) (o : List (Nat × cAV)) : cSt := (A.1, A.2.1, A.2.2.1, A.2.2.2.1, A.2.2.2.2.1, o, A.2.2.2.2.2.2)
def c_setS (A : cSt) (S : List cAV) : cSt := (A.1, A.2.1, A.2.2.1, A.2.2.2.1, A.2.2.2.2.1, A.2.2.2.2.2.1, S, A.2.2.2.2.2.2.2)
def c_setM (A : cSt) (M : List (Nat × cLin × cAV)) : cSt := (A.1, A.2.1, A.2.2.1, A.2.2.2.1, A.2.2.2.2.1, A.2.2.2.2.2.1, A.2.2.2.2.2.2.1, M, A.2.2.2.2.2.2.2.2)
def c_setC (A : cSt) (cu su : Nat) : cSt := (A.1, A.2.1, A.2.2.1, A.2.2.2.1, A.2.2.2.2.1, A.2.2.2.2.2.1, A.2.2.2.2.2.2.1, A.2.2.2.2.2.2.2.1, cu, su)
/-- one new symbol with a range -/
def c_newY (A : cSt) (lo hi : Int) : cSt := (A.1 + 1, (A.1, lo, hi) :: A.2.1, A.2.2)
def c_drop (s : Nat) : List (Nat × Int) → List (Nat × Int)
  | [] => []
  | q :: t => if Nat.beq q.1 s then t else q :: c_drop s t
theorem c_evs_drop (r : Nat → Int) (s : Nat) : ∀ l : List (Nat × Int), c_evs r l = c_coef s l * r s + c_evs r (c_drop s l)
  | [] => by show (0 : Int) = 0 * r s + 0; omega
  | q :: t => by
    unfold c_coef c_drop
    by_cases h : Nat.beq q.1 s = true
    · rw [if_pos h, if_pos h]
      show q.2 * r q.1 + c_evs r t = _
      rw [Nat.eq_of_beq_eq_true h]
    · rw [if_neg h, if_neg h]
      show q.2 * r q.1 + c_evs r t = c_coef s t * r s + (q.2 * r q.1 + c_evs r (c_drop s t))
      have := c_evs_drop r s t
      omega
/-- the new range of the symbol s of the fact f ≥ 0, if it is narrower; none: there is no such state -/
def c_nar (v : cEnv) (f : cLin) (s : Nat) : Option cEnv := match c_look s v, c_rngs v (c_drop s f.2) f.1 f.1 with
  | some x, some u =>
    if 0 < c_coef s f.2 then (if x.1 < -(u.2 / c_coef s f.2) then (if x.2 < -(u.2 / c_coef s f.2) then none else some ((s, -(u.2 / c_coef s f.2), x.2) :: v)) else some v)
    else if c_coef s f.2 < 0 then (if u.2 / (-(c_coef s f.2)) < x.2 then (if u.2 / (-(c_coef s f.2)) < x.1 then none else some ((s, x.1, u.2 / (-(c_coef s f.2))) :: v)) else some v)
    else some v
  | _, _ => some v
theorem c_envOk_cons {r : Nat → Int} {v : cEnv} {s : Nat} {a b : Int} (h1 : a ≤ r s) (h2 : r s ≤ b) (hv : c_envOk r v) : c_envOk r ((s, a, b) :: v) := by
  intro q hq
  rcases List.mem_cons.mp hq with rfl | hq
  · exact ⟨h1, h2⟩
  · exact hv q hq
theorem c_nar_ok {r : Nat → Int} {v : cEnv} {f : cLin} (hv : c_envOk r v) (hf : 0 ≤ c_ev r f) (s : Nat) : ∃ v', c_nar v f s = some v' ∧ c_envOk r v' := by
  unfold c_nar
  cases hl : c_look s v with
  | none => exact ⟨v, rfl, hv⟩
  | some x =>
    cases hu : c_rngs v (c_drop s f.2) f.1 f.1 with
    | none => exact ⟨v, rfl, hv⟩
    | some u =>
      dsimp only
      have hx := c_look_ok hv hl
      have hU := (c_rngs_ok hv _ _ _ u hu f.1 (Int.le_refl _) (Int.le_refl _)).2
      have he : c_ev r f = f.1 + (c_coef s f.2 * r s + c_evs r (c_drop s f.2)) := by unfold c_ev; rw [← c_evs_drop]
      generalize c_coef s f.2 = k at *
      generalize c_evs r (c_drop s f.2) = z at *
      have key : 0 ≤ k * r s + u.2 := by omega
      by_cases hk : 0 < k
      · rw [if_pos hk]
        have hb : -(u.2 / k) ≤ r s := by
          have h3 : (-(r s)) * k ≤ u.2 := by rw [Int.neg_mul, Int.mul_comm]; omega
          have := (Int.le_ediv_iff_mul_le hk).mpr h3
          omega
        by_cases h1 : x.1 < -(u.2 / k)
        · rw [if_pos h1, if_neg (by omega)]
          exact ⟨_, rfl, c_envOk_cons hb hx.2 hv⟩
        · rw [if_neg h1]
          exact ⟨v, rfl, hv⟩
      · rw [if_neg hk]
        by_cases hk2 : k < 0
        · rw [if_pos hk2]
          have hb : r s ≤ u.2 / (-k) := by
            refine (Int.le_ediv_iff_mul_le (by omega)).mpr ?_
            rw [Int.mul_neg, Int.mul_comm]; omega
          by_cases h1 : u.2 / (-k) < x.2
          · rw [if_pos h1, if_neg (by omega)]
            exact ⟨_, rfl, c_envOk_cons hx.1 hb hv⟩
          · rw [if_neg h1]
            exact ⟨v, rfl, hv⟩
        · rw [if_neg hk2]
          exact ⟨v, rfl, hv⟩
def c_narAll (f : cLin) : List (Nat × Int) → cEnv → Option cEnv
  | [], v => some v
  | q :: t, v => match c_nar v f q.1 with
    | none => none
    | some v' => c_narAll f t v'
theorem c_narAll_ok {r : Nat → Int} {f : cLin} (hf : 0 ≤ c_ev r f) : ∀ (l : List (Nat × Int)) (v : cEnv), c_envOk r v → ∃ v', c_narAll f l v = some v' ∧ c_envOk r v'
  | [], v, hv => ⟨v, rfl, hv⟩
  | q :: t, v, hv => by
    obtain ⟨v1, e1, h1⟩ := c_nar_ok hv hf q.1
    unfold c_narAll
    rw [e1]
    exact c_narAll_ok hf t v1 h1
def c_refine (v : cEnv) (f : cLin) : Option cEnv := if f.2.isEmpty && decide (f.1 < 0) then none else c_narAll f f.2 v
theorem c_refine_ok {r : Nat → Int} {f : cLin} {v : cEnv} (hv : c_envOk r v) (hf : 0 ≤ c_ev r f) : ∃ v', c_refine v f = some v' ∧ c_envOk r v' := by
  unfold c_refine
  rw [if_neg]
  · exact c_narAll_ok hf _ v hv
  · intro h
    rw [Bool.and_eq_true] at h
    have h1 := of_decide_eq_true h.2
    have h2 : f.2 = [] := List.isEmpty_iff.mp h.1
    unfold c_ev at hf
    rw [h2] at hf
    have h3 : f.1 + 0 = f.1 := by omega
    have : 0 ≤ f.1 + 0 := hf
    omega
def c_refAll : List cLin → cEnv → Option cEnv
  | [], v => some v
  | f :: t, v => match c_refine v f with
    | none => none
    | some v' => c_refAll t v'
theorem c_refAll_ok {r : Nat → Int} : ∀ (l : List cLin) (v : cEnv), c_envOk r v → (∀ f ∈ l, 0 ≤ c_ev r f) → ∃ v', c_refAll l v = some v' ∧ c_envOk r v'
  | [], v, hv, _ => ⟨v, rfl, hv⟩
  | f :: t, v, hv, h => by
    obtain ⟨v1, e1, h1⟩ := c_refine_ok hv (h f List.mem_cons_self)
    unfold c_refAll
    rw [e1]
    exact c_refAll_ok t v1 h1 (fun g hg => h g (List.mem_cons_of_mem _ hg))
def c_two : List (Nat × Int) → Bool
  | _ :: _ :: _ => true
  | _ => false
/-- the facts that share a symbol with f -/
def c_near (f : cLin) (F : List cLin) : List cLin := F.filter (fun g => f.2.any (fun q => g.2.any (fun x => Nat.beq q.1 x.1)))
/-- f ≥ 0 is assumed; none: no such state -/
def c_assume (A : cSt) (f : cLin) : Option cSt := if c_two f.2 && c_ent A.2.1 A.2.2.2.2.1 1 (c_addc (c_mul (-1) f) (-1)) then none else match c_refine A.2.1 f with
  | none => none
  | some v => if c_two f.2 then (match c_refAll (c_near f A.2.2.2.2.1) v with
      | none => none
      | some v' => some (c_setF (c_setV A v') (f :: A.2.2.2.2.1))) else (match c_refAll (c_near f A.2.2.2.2.1) v with
      | none => none
      | some v' => some (c_setV A v'))
/-- states that say the same, but for ranges, facts, flags -/
def c_like (A B : cSt) : Prop := B.1 = A.1 ∧ B.2.2.2.1 = A.2.2.2.1 ∧ B.2.2.2.2.2 = A.2.2.2.2.2
theorem c_like.rf (A : cSt) : c_like A A := ⟨rfl, rfl, rfl⟩
theorem c_like.tr {A B C : cSt} (h : c_like A B) (k : c_like B C) : c_like A C := ⟨k.1.trans h.1, k.2.1.trans h.2.1, k.2.2.trans h.2.2⟩
theorem c_assume_like {A B : cSt} {f : cLin} (h : c_assume A f = some B) : c_like A B := by
  unfold c_assume at h
  split at h
  · cases h
  cases h1 : c_refine A.2.1 f with
  | none => rw [h1] at h; cases h
  | some v =>
    rw [h1] at h
    dsimp only at h
    cases h2 : c_refAll (c_near f A.2.2.2.2.1) v with
    | none => rw [h2] at h; dsimp only at h; split at h <;> cases h
    | some v' =>
      rw [h2] at h
      dsimp only at h
      split at h <;> cases h <;> exact ⟨rfl, rfl, rfl⟩
theorem c_assume_ok {A : cSt} {f : cLin} {r : Nat → Int} {lv : List (Nat × Value)} {st : List Value} {w : cWld} (h : c_satR A r lv st w) (hf : 0 ≤ c_ev r f) : ∃ B, c_assume A f = some B ∧ c_satR B r lv st w := by
  obtain ⟨hv, hg, hr, hF, hL, hS, hM⟩ := h
  obtain ⟨v, e1, h1⟩ := c_refine_ok hv hf
  obtain ⟨v', e2, h2⟩ := c_refAll_ok (c_near f A.2.2.2.2.1) v h1 (fun g hg => hF g (List.mem_filter.mp hg).1)
  unfold c_assume
  rw [if_neg (fun hc => by
    rw [Bool.and_eq_true] at hc
    have hz := c_ent_ok hv hF _ _ hc.2
    rw [c_ev_addc, c_ev_mul] at hz
    omega)]
  rw [e1]
  dsimp only
  rw [e2]
  dsimp only
  split
  · refine ⟨_, rfl, h2, hg, hr, ?_, hL, hS, hM⟩
    intro g hgm
    rcases List.mem_cons.mp hgm with rfl | hgm
    · exact hf
    · exact hF g hgm
  · exact ⟨_, rfl, h2, hg, hr, hF, hL, hS, hM⟩
theorem c_nar_sub {v v' : cEnv} {f : cLin} {s : Nat} (h : c_nar v f s = some v') : ∀ q ∈ v, q ∈ v' := by
  unfold c_nar at h
  split at h
  · split at h
    · split at h
      · split at h
        · cases h
        · cases h; exact fun q hq => List.mem_cons_of_mem _ hq
      · cases h; exact fun q hq => hq
    · split at h
      · split at h
        · split at h
          · cases h
          · cases h; exact fun q hq => List.mem_cons_of_mem _ hq
        · cases h; exact fun q hq => hq
      · cases h; exact fun q hq => hq
  · cases h; exact fun q hq => hq
theorem c_narAll_sub {f : cLin} : ∀ {l : List (Nat × Int)} {v v' : cEnv}, c_narAll f l v = some v' → ∀ q ∈ v, q ∈ v'
  | [], v, v', h => by cases h; exact fun q hq => hq
  | x :: t, v, v', h => by
    unfold c_narAll at h
    split at h
    · cases h
    · rename_i v1 h1
      exact fun q hq => c_narAll_sub h q (c_nar_sub h1 q hq)
theorem c_refine_sub {f : cLin} {v v' : cEnv} (h : c_refine v f = some v') : ∀ q ∈ v, q ∈ v' := by
  unfold c_refine at h
  split at h
  · cases h
  · exact c_narAll_sub h
theorem c_refAll_sub : ∀ {l : List cLin} {v v' : cEnv}, c_refAll l v = some v' → ∀ q ∈ v, q ∈ v'
  | [], v, v', h => by cases h; exact fun q hq => hq
  | x :: t, v, v', h => by
    unfold c_refAll at h
    split at h
    · cases h
    · rename_i v1 h1
      exact fun q hq => c_refAll_sub h q (c_refine_sub h1 q hq)
/-- nothing is lost by an assumption -/
theorem c_assume_back {A B : cSt} {f : cLin} {r : Nat → Int} {lv : List (Nat × Value)} {st : List Value} {w : cWld} (h : c_assume A f = some B) (hB : c_satR B r lv st w) : c_satR A r lv st w := by
  unfold c_assume at h
  split at h
  · cases h
  cases h1 : c_refine A.2.1 f with
  | none => rw [h1] at h; cases h
  | some v =>
    rw [h1] at h
    dsimp only at h
    cases h2 : c_refAll (c_near f A.2.2.2.2.1) v with
    | none => rw [h2] at h; dsimp only at h; split at h <;> cases h
    | some v' =>
      rw [h2] at h
      dsimp only at h
      have hsub : ∀ q ∈ A.2.1, q ∈ v' := fun q hq => c_refAll_sub h2 q (c_refine_sub h1 q hq)
      split at h
      · cases h
        exact ⟨fun q hq => hB.1 q (hsub q hq), hB.2.1, hB.2.2.1, fun g hg => hB.2.2.2.1 g (List.mem_cons_of_mem _ hg), hB.2.2.2.2⟩
      · cases h
        exact ⟨fun q hq => hB.1 q (hsub q hq), hB.2⟩
/-- a fact that holds under every valuation of the state -/
theorem c_sat.assume {n0 : Nat} {r0 : Nat → Int} {A : cSt} {f : cLin} {lv : List (Nat × Value)} {st : List Value} {w : cWld} (h : c_sat n0 r0 A lv st w) (hf : ∀ r, c_agr n0 r0 r → c_satR A r lv st w → 0 ≤ c_ev r f) : ∃ B, c_assume A f = some B ∧ c_sat n0 r0 B lv st w := by
  obtain ⟨r, h1, h2⟩ := h.at
  obtain ⟨B, e, -⟩ := c_assume_ok h2 (hf r h1 h2)
  refine ⟨B, e, h.to (c_assume_like e).1 fun r' h9 hr' => ?_⟩
  obtain ⟨B', e', hB'⟩ := c_assume_ok hr' (hf r' h9 hr')
  cases e.symm.trans e'
  exact hB'
def c_unit : cLin → Option Nat
  | (0, [(s, 1)]) => some s
  | (0, [(s, -1)]) => some s
  | _ => none
def c_mem2 (s : Nat) : List (Nat × Nat) → Bool
  | [] => false
  | q :: t => (Nat.beq q.1 s && Nat.ble q.2 2) || c_mem2 s t
/-- 0 eq, 1 ne, 2 lt, 3 ge, 4 gt, 5 le, of e and 0 -/
def c_asm (A : cSt) (o : Nat) (e : cLin) : Option cSt := match o with
  | 0 => (match c_unit e with
    | some s => if c_mem2 s A.2.2.1 then none else (match c_assume A e with
      | none => none
      | some B => c_assume B (c_mul (-1) e))
    | none => (match c_assume A e with
      | none => none
      | some B => c_assume B (c_mul (-1) e)))
  | 1 => if c_ent A.2.1 A.2.2.2.2.1 1 e then c_assume A (c_addc e (-1)) else if c_ent A.2.1 A.2.2.2.2.1 1 (c_mul (-1) e) then c_assume A (c_addc (c_mul (-1) e) (-1)) else (match c_unit e with
      | some s => some (c_setG A ((s, 1) :: A.2.2.1))
      | none => some A)
  | 2 => c_assume A (c_addc (c_mul (-1) e) (-1))
  | 3 => c_assume A e
  | 4 => c_assume A (c_addc e (-1))
  | _ => c_assume A (c_mul (-1) e)
def c_rel (o : Nat) (x : Int) : Prop := match o with
  | 0 => x = 0
  | 1 => x ≠ 0
  | 2 => x < 0
  | 3 => 0 ≤ x
  | 4 => 0 < x
  | _ => x ≤ 0
theorem c_unit_ok {e : cLin} {s : Nat} (h : c_unit e = some s) (r : Nat → Int) : c_ev r e = r s ∨ c_ev r e = - r s := by
  unfold c_unit at h
  split at h
  · cases h
    left
    show (0 : Int) + (1 * r s + 0) = r s
    omega
  · cases h
    right
    show (0 : Int) + (-1 * r s + 0) = - r s
    omega
  · cases h
theorem c_mem2_ok {s : Nat} : ∀ {l : List (Nat × Nat)}, c_mem2 s l = true → ∃ q ∈ l, q.1 = s ∧ q.2 ≤ 2
  | [], h => by cases h
  | q :: t, h => by
    unfold c_mem2 at h
    rw [Bool.or_eq_true, Bool.and_eq_true] at h
    rcases h with h | h
    · exact ⟨q, List.mem_cons_self, Nat.eq_of_beq_eq_true h.1, Nat.le_of_ble_eq_true h.2⟩
    · obtain ⟨z, h1, h2⟩ := c_mem2_ok h
      exact ⟨z, List.mem_cons_of_mem _ h1, h2⟩
theorem c_flag_ne {k : Nat} {x : Int} (hk : k ≤ 2) (h : c_flag k x) : x ≠ 0 := by
  unfold c_flag at h
  split at h
  · exact h
  · omega
  · intro e
    rw [e] at h
    exact h rfl
theorem c_asm_like {A B : cSt} {o : Nat} {e : cLin} (h : c_asm A o e = some B) : c_like A B := by
  have two : ∀ {B : cSt}, (match c_assume A e with | none => none | some B => c_assume B (c_mul (-1) e)) = some B → c_like A B := by
    intro B h
    cases h1 : c_assume A e with
    | none => rw [h1] at h; cases h
    | some C =>
      rw [h1] at h
      exact (c_assume_like h1).tr (c_assume_like h)
  have ne : ∀ {B : cSt}, (match c_unit e with | some s => some (c_setG A ((s, 1) :: A.2.2.1)) | none => some A) = some B → c_like A B := by
    intro B h
    cases h1 : c_unit e with
    | none => rw [h1] at h; cases h; exact c_like.rf A
    | some C => rw [h1] at h; cases h; exact ⟨rfl, rfl, rfl⟩
  unfold c_asm at h
  split at h
  · split at h
    · split at h
      · cases h
      · exact two h
    · exact two h
  · split at h
    · exact c_assume_like h
    · split at h
      · exact c_assume_like h
      · exact ne h
  · exact c_assume_like h
  · exact c_assume_like h
  · exact c_assume_like h
  · exact c_assume_like h
theorem c_asm_ok {A : cSt} {o : Nat} {e : cLin} {r : Nat → Int} {lv : List (Nat × Value)} {st : List Value} {w : cWld} (h : c_satR A r lv st w) (hf : c_rel o (c_ev r e)) : ∃ B, c_asm A o e = some B ∧ c_satR B r lv st w := by
  have two : c_ev r e = 0 → ∃ B, (match c_assume A e with | none => none | some B => c_assume B (c_mul (-1) e)) = some B ∧ c_satR B r lv st w := by
    intro hf
    obtain ⟨B, e1, h1⟩ := c_assume_ok h (f := e) (by omega)
    rw [e1]
    exact c_assume_ok h1 (by rw [c_ev_mul]; omega)
  have ne : c_ev r e ≠ 0 → ∃ B, (match c_unit e with | some s => some (c_setG A ((s, 1) :: A.2.2.1)) | none => some A) = some B ∧ c_satR B r lv st w := by
    intro hf
    cases h1 : c_unit e with
    | none => exact ⟨A, rfl, h⟩
    | some s =>
      refine ⟨_, rfl, h.1, ?_, h.2.2⟩
      intro q hq
      rcases List.mem_cons.mp hq with rfl | hq
      · show r s ≠ 0
        rcases c_unit_ok h1 r with h2 | h2 <;> omega
      · exact h.2.1 q hq
  unfold c_asm
  split
  · have hf : c_ev r e = 0 := hf
    split
    · rename_i s hs
      split
      · rename_i hm
        obtain ⟨q, hq, hqs, hq2⟩ := c_mem2_ok hm
        have := c_flag_ne hq2 (h.2.1 q hq)
        rw [hqs] at this
        rcases c_unit_ok hs r with h2 | h2 <;> omega
      · exact two hf
    · exact two hf
  · have hf : c_ev r e ≠ 0 := hf
    split
    · rename_i hx
      have hr := c_ent_ok h.1 h.2.2.2.1 _ _ hx
      exact c_assume_ok h (by rw [c_ev_addc]; omega)
    · split
      · rename_i hx
        have hr := c_ent_ok h.1 h.2.2.2.1 _ _ hx
        rw [c_ev_mul] at hr
        exact c_assume_ok h (by rw [c_ev_addc, c_ev_mul]; omega)
      · exact ne hf
  · have hf : c_ev r e < 0 := hf
    exact c_assume_ok h (by rw [c_ev_addc, c_ev_mul]; omega)
  · exact c_assume_ok h hf
  · have hf : 0 < c_ev r e := hf
    exact c_assume_ok h (by rw [c_ev_addc]; omega)
  · rename_i h0 h1 h2 h3 h4
    have hf : c_ev r e ≤ 0 := by
      unfold c_rel at hf
      split at hf
      · exact absurd rfl h0
      · exact absurd rfl h1
      · exact absurd rfl h2
      · exact absurd rfl h3
      · exact absurd rfl h4
      · exact hf
    exact c_assume_ok h (by rw [c_ev_mul]; omega)
theorem c_sat.asm {n0 : Nat} {r0 : Nat → Int} {A : cSt} {o : Nat} {e : cLin} {lv : List (Nat × Value)} {st : List Value} {w : cWld} (h : c_sat n0 r0 A lv st w) (hf : ∀ r, c_satR A r lv st w → c_rel o (c_ev r e)) : ∃ B, c_asm A o e = some B ∧ c_sat n0 r0 B lv st w := by
  obtain ⟨r, h1, h2⟩ := h.at
  obtain ⟨B, e', -⟩ := c_asm_ok h2 (hf r h2)
  refine ⟨B, e', h.to (c_asm_like e').1 fun r' _ hr' => ?_⟩
  obtain ⟨B', e2, hB'⟩ := c_asm_ok hr' (hf r' hr')
  cases e'.symm.trans e2
  exact hB'
