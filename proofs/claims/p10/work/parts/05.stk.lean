/-! the stack and the locals of an abstract state -/
section CS
variable {n0 : Nat} {r0 : Nat → Int} {A : cSt} {lv : List (Nat × Value)} {st ss : List Value} {w : cWld} {S : List cAV}
theorem c_sat.setS (h : c_sat n0 r0 A lv st w) (k : ∀ r, c_satR A r lv st w → c_F2 (c_DV r) S ss) : c_sat n0 r0 (c_setS A S) lv ss w :=
  h.to rfl fun r _ hr => ⟨hr.1, hr.2.1, hr.2.2.1, hr.2.2.2.1, hr.2.2.2.2.1, k r hr, hr.2.2.2.2.2.2⟩
theorem c_sat.newS (h : c_sat n0 r0 A lv st w) (z lo hi : Int) (h1 : lo ≤ z) (h2 : z ≤ hi) (k : ∀ r, c_satR A r lv st w → r A.1 = z → c_F2 (c_DV r) S ss) : c_sat n0 r0 (c_setS (c_newY A lo hi) S) lv ss w :=
  h.new z rfl fun r _ hz hr => ⟨c_envOk_cons (by rw [hz]; exact h1) (by rw [hz]; exact h2) hr.1, hr.2.1, hr.2.2.1, hr.2.2.2.1, hr.2.2.2.2.1, k r hr hz, hr.2.2.2.2.2.2⟩
def c_in2 (A : cSt) (lo hi : Int) (e : cLin) : Bool := (match c_rng A.2.1 e with
  | some x => decide (lo ≤ x.1) && decide (x.2 ≤ hi)
  | none => false) || (c_ent A.2.1 A.2.2.2.2.1 1 (c_addc e (-lo)) && c_ent A.2.1 A.2.2.2.2.1 1 (c_addc (c_mul (-1) e) hi))
theorem c_in2_ok {r : Nat → Int} {lo hi : Int} {e : cLin} (hr : c_satR A r lv st w) (h : c_in2 A lo hi e = true) : lo ≤ c_ev r e ∧ c_ev r e ≤ hi := by
  unfold c_in2 at h
  rw [Bool.or_eq_true] at h
  rcases h with h | h
  · cases hx : c_rng A.2.1 e with
    | none => rw [hx] at h; cases h
    | some x =>
      rw [hx] at h
      dsimp only at h
      rw [Bool.and_eq_true] at h
      have h1 := of_decide_eq_true h.1
      have h2 := of_decide_eq_true h.2
      have := c_rng_ok hr.1 hx
      omega
  · rw [Bool.and_eq_true] at h
    have h1 := c_ent_ok hr.1 hr.2.2.2.1 _ _ h.1
    have h2 := c_ent_ok hr.1 hr.2.2.2.1 _ _ h.2
    rw [c_ev_addc] at h1 h2
    rw [c_ev_mul] at h2
    omega
/-- the same, by up to three facts -/
def c_in3 (A : cSt) (lo hi : Int) (e : cLin) : Bool := c_in2 A lo hi e || (c_ent A.2.1 A.2.2.2.2.1 3 (c_addc e (-lo)) && c_ent A.2.1 A.2.2.2.2.1 3 (c_addc (c_mul (-1) e) hi))
theorem c_in3_ok {r : Nat → Int} {lo hi : Int} {e : cLin} (hr : c_satR A r lv st w) (h : c_in3 A lo hi e = true) : lo ≤ c_ev r e ∧ c_ev r e ≤ hi := by
  unfold c_in3 at h
  rw [Bool.or_eq_true] at h
  rcases h with h | h
  · exact c_in2_ok hr h
  · rw [Bool.and_eq_true] at h
    have h1 := c_ent_ok hr.1 hr.2.2.2.1 _ _ h.1
    have h2 := c_ent_ok hr.1 hr.2.2.2.1 _ _ h.2
    rw [c_ev_addc] at h1 h2
    rw [c_ev_mul] at h2
    omega
/-- a number that the machine cuts: e where it surely fits, else a new symbol -/
def c_norm (A : cSt) (k : Nat) (e : cLin) (S : List cAV) : cSt := if c_in2 A (c_lo k) (c_hi k) e then c_setS A ((k, e) :: S) else c_setS (c_newY A (c_lo k) (c_hi k)) ((k, c_sym A.1) :: S)
theorem c_DV_sym0 {r : Nat → Int} {n : Nat} {x : Int32} (h : r n = x.toInt) : c_DV r (0, c_sym n) (.int x) := ⟨x, rfl, by rw [c_ev_sym]; exact h.symm⟩
theorem c_DV_sym1 {r : Nat → Int} {n : Nat} {x : Int64} (h : r n = x.toInt) : c_DV r (1, c_sym n) (.long x) := ⟨x, rfl, by rw [c_ev_sym]; exact h.symm⟩
theorem c_sat.norm0 {e : cLin} (h : c_sat n0 r0 A lv st w) (z : Int32) (hz : ∀ r, c_satR A r lv st w → -2147483648 ≤ c_ev r e → c_ev r e ≤ 2147483647 → z.toInt = c_ev r e) (k : ∀ r, c_satR A r lv st w → c_F2 (c_DV r) S ss) : c_sat n0 r0 (c_norm A 0 e S) lv (.int z :: ss) w := by
  unfold c_norm
  split
  · rename_i hb
    exact h.setS fun r hr => ⟨⟨z, rfl, hz r hr (c_in2_ok hr hb).1 (c_in2_ok hr hb).2⟩, k r hr⟩
  · exact h.newS z.toInt _ _ (c_i32 z).1 (c_i32 z).2 fun r hr hn => ⟨c_DV_sym0 hn, k r hr⟩
theorem c_sat.norm1 {e : cLin} (h : c_sat n0 r0 A lv st w) (z : Int64) (hz : ∀ r, c_satR A r lv st w → -9223372036854775808 ≤ c_ev r e → c_ev r e ≤ 9223372036854775807 → z.toInt = c_ev r e) (k : ∀ r, c_satR A r lv st w → c_F2 (c_DV r) S ss) : c_sat n0 r0 (c_norm A 1 e S) lv (.long z :: ss) w := by
  unfold c_norm
  split
  · rename_i hb
    exact h.setS fun r hr => ⟨⟨z, rfl, hz r hr (c_in2_ok hr hb).1 (c_in2_ok hr hb).2⟩, k r hr⟩
  · exact h.newS z.toInt _ _ (c_i64 z).1 (c_i64 z).2 fun r hr hn => ⟨c_DV_sym1 hn, k r hr⟩
/-- a new symbol on the stack -/
def c_fr (A : cSt) (k : Nat) (lo hi : Int) (S : List cAV) : cSt := c_setS (c_newY A lo hi) ((k, c_sym A.1) :: S)
theorem c_sat.fr0 (h : c_sat n0 r0 A lv st w) (z : Int32) {lo hi : Int} (h1 : lo ≤ z.toInt) (h2 : z.toInt ≤ hi) (k : ∀ r, c_satR A r lv st w → c_F2 (c_DV r) S ss) : c_sat n0 r0 (c_fr A 0 lo hi S) lv (.int z :: ss) w :=
  h.newS z.toInt _ _ h1 h2 fun r hr hn => ⟨c_DV_sym0 hn, k r hr⟩
theorem c_sat.fr1 (h : c_sat n0 r0 A lv st w) (z : Int64) {lo hi : Int} (h1 : lo ≤ z.toInt) (h2 : z.toInt ≤ hi) (k : ∀ r, c_satR A r lv st w → c_F2 (c_DV r) S ss) : c_sat n0 r0 (c_fr A 1 lo hi S) lv (.long z :: ss) w :=
  h.newS z.toInt _ _ h1 h2 fun r hr hn => ⟨c_DV_sym1 hn, k r hr⟩
/-- a new symbol with a flag -/
theorem c_sat.flag {k : Nat} {s : Nat} (h : c_sat n0 r0 A lv st w) (hf : ∀ r, c_satR A r lv st w → c_flag k (r s)) : c_sat n0 r0 (c_setG A ((s, k) :: A.2.2.1)) lv st w :=
  h.to rfl fun r _ hr => ⟨hr.1, fun q hq => by
    rcases List.mem_cons.mp hq with rfl | hq
    · exact hf r hr
    · exact hr.2.1 q hq, hr.2.2⟩
/-- what is not 0 -/
def c_mem3 (s k : Nat) : List (Nat × Nat) → Bool
  | [] => false
  | q :: t => (Nat.beq q.1 s && Nat.beq q.2 k) || c_mem3 s k t
theorem c_mem3_ok {s k : Nat} : ∀ {l : List (Nat × Nat)}, c_mem3 s k l = true → (s, k) ∈ l
  | [], h => by cases h
  | q :: t, h => by
    unfold c_mem3 at h
    rw [Bool.or_eq_true, Bool.and_eq_true] at h
    rcases h with h | h
    · have e1 := Nat.eq_of_beq_eq_true h.1
      have e2 := Nat.eq_of_beq_eq_true h.2
      rw [← e1, ← e2]
      exact List.mem_cons_self
    · exact List.mem_cons_of_mem _ (c_mem3_ok h)
def c_nz (A : cSt) (e : cLin) : Bool := (match c_rng A.2.1 e with
  | some x => decide (0 < x.1) || decide (x.2 < 0)
  | none => false) || (match c_unit e with
  | some s => c_mem2 s A.2.2.1
  | none => false)
theorem c_nz_ok {r : Nat → Int} {e : cLin} (hr : c_satR A r lv st w) (h : c_nz A e = true) : c_ev r e ≠ 0 := by
  unfold c_nz at h
  rw [Bool.or_eq_true] at h
  rcases h with h | h
  · cases hx : c_rng A.2.1 e with
    | none => rw [hx] at h; cases h
    | some x =>
      rw [hx] at h
      dsimp only at h
      rw [Bool.or_eq_true] at h
      have := c_rng_ok hr.1 hx
      rcases h with h | h
      · have := of_decide_eq_true h
        omega
      · have := of_decide_eq_true h
        omega
  · cases hs : c_unit e with
    | none => rw [hs] at h; cases h
    | some s =>
      rw [hs] at h
      obtain ⟨q, hq, hqs, hq2⟩ := c_mem2_ok h
      have := c_flag_ne hq2 (hr.2.1 q hq)
      rw [hqs] at this
      rcases c_unit_ok hs r with h2 | h2 <;> omega
def c_n32 (A : cSt) (e : cLin) : Bool := (match c_rng A.2.1 e with
  | some x => (decide (0 < x.1) && decide (x.2 < 4294967296)) || (decide (x.2 < 0) && decide (-4294967296 < x.1))
  | none => false) || (match c_unit e with
  | some s => c_mem3 s 2 A.2.2.1
  | none => false)
theorem c_n32_ok {r : Nat → Int} {e : cLin} (hr : c_satR A r lv st w) (h : c_n32 A e = true) : c_flag 2 (c_ev r e) := by
  unfold c_n32 at h
  rw [Bool.or_eq_true] at h
  show c_ev r e % 4294967296 ≠ 0
  rcases h with h | h
  · cases hx : c_rng A.2.1 e with
    | none => rw [hx] at h; cases h
    | some x =>
      rw [hx] at h
      dsimp only at h
      rw [Bool.or_eq_true, Bool.and_eq_true, Bool.and_eq_true] at h
      have := c_rng_ok hr.1 hx
      rcases h with h | h
      · have h1 := of_decide_eq_true h.1
        have h2 := of_decide_eq_true h.2
        omega
      · have h1 := of_decide_eq_true h.1
        have h2 := of_decide_eq_true h.2
        omega
  · cases hs : c_unit e with
    | none => rw [hs] at h; cases h
    | some s =>
      rw [hs] at h
      have : r s % 4294967296 ≠ 0 := hr.2.1 _ (c_mem3_ok h)
      rcases c_unit_ok hs r with h2 | h2 <;> omega
/-- locals -/
def c_locGet (i : Nat) : List (Nat × cAV) → Option cAV
  | [] => none
  | q :: t => if Nat.beq q.1 i then some q.2 else c_locGet i t
theorem c_locGet_ok {r : Nat → Int} {i : Nat} {a : cAV} : ∀ {o : List (Nat × cAV)} {lv : List (Nat × Value)}, c_F2 (c_lr r) o lv → c_locGet i o = some a → ∃ (k : Nat) (v : Value), lv[k]? = some (i, v) ∧ o[k]? = some (i, a) ∧ c_DV r a v
  | [], _, _, h => by cases h
  | _ :: _, [], hF, _ => hF.elim
  | q :: t, p :: u, hF, h => by
    unfold c_locGet at h
    by_cases hb : Nat.beq q.1 i = true
    · rw [if_pos hb] at h
      cases h
      have e := Nat.eq_of_beq_eq_true hb
      refine ⟨0, p.2, ?_, ?_, hF.1.2⟩
      · show some p = some (i, p.2)
        rw [← e, hF.1.1]
      · show some q = some (i, q.2)
        rw [← e]
    · rw [if_neg hb] at h
      obtain ⟨k, v, h1, h2, h3⟩ := c_locGet_ok hF.2 h
      exact ⟨k + 1, v, h1, h2, h3⟩
def c_lset1 (i : Nat) (a : cAV) (o : List (Nat × cAV)) : List (Nat × cAV) := (i, a) :: o.filter (fun q => !(q.1 == i) && !(q.1 + 1 == i && q.2.1 == 1))
def c_lset2 (i : Nat) (a : cAV) (o : List (Nat × cAV)) : List (Nat × cAV) := (i, a) :: o.filter (fun q => !(q.1 == i) && (!(q.1 == i + 1) && !(q.1 + 1 == i && q.2.1 == 1)))
theorem c_DV_cat {r : Nat → Int} {a : cAV} {v : Value} (h : c_DV r a v) : (a.1 == 1) = (v.category == 2) := by
  unfold c_DV at h
  split at h
  · rename_i e; obtain ⟨x, rfl, -⟩ := h; rw [e]; rfl
  · rename_i e; obtain ⟨x, rfl, -⟩ := h; rw [e]; rfl
  · rename_i e
    rw [e]
    rcases h with ⟨rfl, -⟩ | ⟨x, rfl, -⟩ <;> rfl
  · rename_i h0 h1 h2
    obtain ⟨x, rfl, -⟩ := h
    have : (a.1 == 1) = false := by
      cases hb : a.1 == 1 with
      | false => rfl
      | true => exact absurd (beq_iff_eq.mp hb) (fun q => h1 q)
    rw [this]; rfl
theorem c_lset1_ok {r : Nat → Int} {i : Nat} {a : cAV} {v : Value} {o : List (Nat × cAV)} (hF : c_F2 (c_lr r) o lv) (hd : c_DV r a v) : c_F2 (c_lr r) (c_lset1 i a o) ((i, v) :: lv.filter (fun q => !(q.1 == i) && !(q.1 + 1 == i && q.2.category == 2))) := by
  refine ⟨⟨rfl, hd⟩, c_F2_filter (fun x y hxy => ?_) hF⟩
  rw [hxy.1, c_DV_cat hxy.2]
theorem c_lset2_ok {r : Nat → Int} {i : Nat} {a : cAV} {v : Value} {o : List (Nat × cAV)} (hF : c_F2 (c_lr r) o lv) (hd : c_DV r a v) : c_F2 (c_lr r) (c_lset2 i a o) ((i, v) :: lv.filter (fun q => !(q.1 == i) && (!(q.1 == i + 1) && !(q.1 + 1 == i && q.2.category == 2)))) := by
  refine ⟨⟨rfl, hd⟩, c_F2_filter (fun x y hxy => ?_) hF⟩
  rw [hxy.1, c_DV_cat hxy.2]
theorem c_sat.setL {o : List (Nat × cAV)} {lv' : List (Nat × Value)} (h : c_sat n0 r0 A lv st w) (k : ∀ r, c_satR A r lv st w → c_F2 (c_lr r) o lv') (kS : ∀ r, c_satR A r lv st w → c_F2 (c_DV r) S ss) : c_sat n0 r0 (c_setL (c_setS A S) o) lv' ss w :=
  h.to rfl fun r _ hr => ⟨hr.1, hr.2.1, hr.2.2.1, hr.2.2.2.1, k r hr, kS r hr, hr.2.2.2.2.2.2⟩
end CS
