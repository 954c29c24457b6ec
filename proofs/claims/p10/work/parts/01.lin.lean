/-! linear expressions over symbols: a constant and (symbol, coefficient) pairs -/
abbrev cLin : Type := Int × List (Nat × Int)
def c_evs (r : Nat → Int) : List (Nat × Int) → Int
  | [] => 0
  | q :: t => q.2 * r q.1 + c_evs r t
def c_ev (r : Nat → Int) (e : cLin) : Int := e.1 + c_evs r e.2
def c_ins (s : Nat) (k : Int) : List (Nat × Int) → List (Nat × Int)
  | [] => [(s, k)]
  | q :: t => if Nat.beq q.1 s then (if q.2 + k = 0 then t else (s, q.2 + k) :: t) else q :: c_ins s k t
theorem c_evs_ins (r : Nat → Int) (s : Nat) (k : Int) : ∀ l : List (Nat × Int), c_evs r (c_ins s k l) = k * r s + c_evs r l
  | [] => rfl
  | q :: t => by
    unfold c_ins
    by_cases h : Nat.beq q.1 s = true
    · have hs : q.1 = s := Nat.eq_of_beq_eq_true h
      rw [if_pos h]
      by_cases h2 : q.2 + k = 0
      · rw [if_pos h2]
        have hk : k = - q.2 := by omega
        show c_evs r t = k * r s + (q.2 * r q.1 + c_evs r t)
        rw [hs, hk, Int.neg_mul]; omega
      · rw [if_neg h2]
        show (q.2 + k) * r s + c_evs r t = k * r s + (q.2 * r q.1 + c_evs r t)
        rw [hs, Int.add_mul]; omega
    · rw [if_neg h]
      show q.2 * r q.1 + c_evs r (c_ins s k t) = k * r s + (q.2 * r q.1 + c_evs r t)
      rw [c_evs_ins r s k t]; omega
def c_adds : List (Nat × Int) → List (Nat × Int) → List (Nat × Int)
  | [], b => b
  | q :: t, b => c_adds t (c_ins q.1 q.2 b)
theorem c_evs_adds (r : Nat → Int) : ∀ a b : List (Nat × Int), c_evs r (c_adds a b) = c_evs r a + c_evs r b
  | [], b => by show c_evs r b = 0 + c_evs r b; omega
  | q :: t, b => by
    show c_evs r (c_adds t (c_ins q.1 q.2 b)) = q.2 * r q.1 + c_evs r t + c_evs r b
    rw [c_evs_adds r t, c_evs_ins]; omega
def c_muls (k : Int) : List (Nat × Int) → List (Nat × Int)
  | [] => []
  | q :: t => (q.1, k * q.2) :: c_muls k t
theorem c_evs_muls (r : Nat → Int) (k : Int) : ∀ a : List (Nat × Int), c_evs r (c_muls k a) = k * c_evs r a
  | [] => by show (0 : Int) = k * 0; omega
  | q :: t => by
    show k * q.2 * r q.1 + c_evs r (c_muls k t) = k * (q.2 * r q.1 + c_evs r t)
    rw [c_evs_muls r k t, Int.mul_add, Int.mul_assoc]
def c_add (a b : cLin) : cLin := (a.1 + b.1, c_adds a.2 b.2)
def c_mul (k : Int) (a : cLin) : cLin := if k = 0 then (0, []) else (k * a.1, c_muls k a.2)
def c_sub (a b : cLin) : cLin := c_add (c_mul (-1) b) a
def c_con (k : Int) : cLin := (k, [])
def c_sym (s : Nat) : cLin := (0, [(s, 1)])
def c_addc (a : cLin) (k : Int) : cLin := (a.1 + k, a.2)
theorem c_ev_add (r : Nat → Int) (a b : cLin) : c_ev r (c_add a b) = c_ev r a + c_ev r b := by
  unfold c_ev c_add
  show a.1 + b.1 + c_evs r (c_adds a.2 b.2) = _
  rw [c_evs_adds]; omega
theorem c_ev_mul (r : Nat → Int) (k : Int) (a : cLin) : c_ev r (c_mul k a) = k * c_ev r a := by
  unfold c_ev c_mul
  by_cases h : k = 0
  · rw [if_pos h, h]; show (0 : Int) + 0 = 0 * _; omega
  · rw [if_neg h]
    show k * a.1 + c_evs r (c_muls k a.2) = _
    rw [c_evs_muls, Int.mul_add]
theorem c_ev_sub (r : Nat → Int) (a b : cLin) : c_ev r (c_sub a b) = c_ev r a - c_ev r b := by
  unfold c_sub
  rw [c_ev_add, c_ev_mul]; omega
theorem c_ev_con (r : Nat → Int) (k : Int) : c_ev r (c_con k) = k := by unfold c_ev c_con; show k + 0 = k; omega
theorem c_ev_sym (r : Nat → Int) (s : Nat) : c_ev r (c_sym s) = r s := by
  unfold c_ev c_sym
  show (0 : Int) + (1 * r s + 0) = r s
  omega
theorem c_ev_addc (r : Nat → Int) (a : cLin) (k : Int) : c_ev r (c_addc a k) = c_ev r a + k := by
  unfold c_ev c_addc
  show a.1 + k + c_evs r a.2 = _
  omega
/-! ranges: env is a list of (symbol, least, greatest), all of which hold; the first found counts -/
abbrev cEnv : Type := List (Nat × Int × Int)
def c_look (s : Nat) : cEnv → Option (Int × Int)
  | [] => none
  | q :: t => if Nat.beq q.1 s then some q.2 else c_look s t
def c_envOk (r : Nat → Int) (v : cEnv) : Prop := ∀ q ∈ v, q.2.1 ≤ r q.1 ∧ r q.1 ≤ q.2.2
theorem c_look_ok {r : Nat → Int} {s : Nat} {x : Int × Int} : ∀ {v : cEnv}, c_envOk r v → c_look s v = some x → x.1 ≤ r s ∧ r s ≤ x.2
  | [], _, h => by cases h
  | q :: t, hv, h => by
    unfold c_look at h
    by_cases hb : Nat.beq q.1 s = true
    · rw [if_pos hb] at h
      cases h
      rw [← Nat.eq_of_beq_eq_true hb]
      exact hv q List.mem_cons_self
    · rw [if_neg hb] at h
      exact c_look_ok (fun z hz => hv z (List.mem_cons_of_mem _ hz)) h
/-- range of a sum of terms, begun at (lo, hi) -/
def c_rngs (v : cEnv) : List (Nat × Int) → Int → Int → Option (Int × Int)
  | [], lo, hi => some (lo, hi)
  | q :: t, lo, hi => match c_look q.1 v with
    | none => none
    | some x => if 0 ≤ q.2 then c_rngs v t (lo + q.2 * x.1) (hi + q.2 * x.2) else c_rngs v t (lo + q.2 * x.2) (hi + q.2 * x.1)
def c_rng (v : cEnv) (e : cLin) : Option (Int × Int) := c_rngs v e.2 e.1 e.1
theorem c_rngs_ok {r : Nat → Int} {v : cEnv} (hv : c_envOk r v) : ∀ (l : List (Nat × Int)) (lo hi : Int) (x : Int × Int), c_rngs v l lo hi = some x → ∀ y : Int, lo ≤ y → y ≤ hi → x.1 ≤ y + c_evs r l ∧ y + c_evs r l ≤ x.2
  | [], lo, hi, x, h, y, h1, h2 => by
    cases h
    show lo ≤ y + 0 ∧ y + 0 ≤ hi
    omega
  | q :: t, lo, hi, x, h, y, h1, h2 => by
    unfold c_rngs at h
    cases hl : c_look q.1 v with
    | none => rw [hl] at h; cases h
    | some z =>
      rw [hl] at h
      have hz := c_look_ok hv hl
      show x.1 ≤ y + (q.2 * r q.1 + c_evs r t) ∧ y + (q.2 * r q.1 + c_evs r t) ≤ x.2
      rw [← Int.add_assoc]
      dsimp only at h
      by_cases hq : 0 ≤ q.2
      · rw [if_pos hq] at h
        have g1 := Int.mul_le_mul_of_nonneg_left hz.1 hq
        have g2 := Int.mul_le_mul_of_nonneg_left hz.2 hq
        exact c_rngs_ok hv t _ _ x h _ (by omega) (by omega)
      · rw [if_neg hq] at h
        have hq' : q.2 ≤ 0 := by omega
        have g1 := Int.mul_le_mul_of_nonpos_left hq' hz.1
        have g2 := Int.mul_le_mul_of_nonpos_left hq' hz.2
        exact c_rngs_ok hv t _ _ x h _ (by omega) (by omega)
theorem c_rng_ok {r : Nat → Int} {v : cEnv} {e : cLin} {x : Int × Int} (hv : c_envOk r v) (h : c_rng v e = some x) : x.1 ≤ c_ev r e ∧ c_ev r e ≤ x.2 :=
  c_rngs_ok hv e.2 e.1 e.1 x h e.1 (Int.le_refl _) (Int.le_refl _)
def c_nonneg (v : cEnv) (e : cLin) : Bool := match c_rng v e with
  | none => false
  | some x => decide (0 ≤ x.1)
theorem c_nonneg_ok {r : Nat → Int} {v : cEnv} {e : cLin} (hv : c_envOk r v) (h : c_nonneg v e = true) : 0 ≤ c_ev r e := by
  unfold c_nonneg at h
  cases hr : c_rng v e with
  | none => rw [hr] at h; cases h
  | some x =>
    rw [hr] at h
    have h1 := (c_rng_ok hv hr).1
    have h2 : 0 ≤ x.1 := of_decide_eq_true h
    omega
/-- does a fact share a symbol with e, with the same sign? -/
def c_coef (s : Nat) : List (Nat × Int) → Int
  | [] => 0
  | q :: t => if Nat.beq q.1 s then q.2 else c_coef s t
def c_shares (e : List (Nat × Int)) : List (Nat × Int) → Bool
  | [] => false
  | q :: t => decide (0 < q.2 * c_coef q.1 e) || c_shares e t
/-- how often a fact goes into e -/
def c_rat (e : List (Nat × Int)) : List (Nat × Int) → Int
  | [] => 0
  | q :: t => if 0 < q.2 * c_coef q.1 e then (if c_coef q.1 e % q.2 = 0 then c_coef q.1 e / q.2 else 0) else c_rat e t
/-- all numbers of e are multiples of 5: then 0 ≤ e + 4 is enough -/
def c_d5 (e : cLin) : Bool := decide (e.1 % 5 = 0) && e.2.all (fun q => decide (q.2 % 5 = 0))
theorem c_d5s {r : Nat → Int} : ∀ {l : List (Nat × Int)}, l.all (fun q => decide (q.2 % 5 = 0)) = true → (5 : Int) ∣ c_evs r l
  | [], _ => ⟨0, rfl⟩
  | q :: t, h => by
    rw [List.all_cons, Bool.and_eq_true] at h
    have h1 := of_decide_eq_true h.1
    obtain ⟨a, ha⟩ := Int.dvd_of_emod_eq_zero h1
    obtain ⟨b, hb⟩ := c_d5s (r := r) h.2
    refine ⟨a * r q.1 + b, ?_⟩
    show q.2 * r q.1 + c_evs r t = _
    rw [ha, hb, Int.mul_add, Int.mul_assoc]
theorem c_d5_ok {r : Nat → Int} {e : cLin} (h : c_d5 e = true) (h4 : 0 ≤ c_ev r (c_addc e 4)) : 0 ≤ c_ev r e := by
  unfold c_d5 at h
  rw [Bool.and_eq_true] at h
  have h1 := of_decide_eq_true h.1
  obtain ⟨b, hb⟩ := c_d5s (r := r) h.2
  rw [c_ev_addc] at h4
  unfold c_ev at h4 ⊢
  omega
/-- 0 ≤ e, out of ranges and up to n facts (each taken once or twice) -/
def c_entF (v : cEnv) (fs : List cLin) : Nat → cLin → Bool
  | 0, e => c_nonneg v e || (c_d5 e && c_nonneg v (c_addc e 4))
  | n + 1, e => c_nonneg v e || (c_d5 e && c_nonneg v (c_addc e 4)) || fs.any (fun f => c_shares e.2 f.2 && (c_entF v fs n (c_sub e f) || c_entF v fs n (c_sub e (c_mul 2 f)) || (c_d5 e && c_entF v fs n (c_sub (c_addc e 4) f)) || (decide (2 < c_rat e.2 f.2) && c_entF v fs n (c_sub e (c_mul (c_rat e.2 f.2) f)))))
theorem c_entF_ok {r : Nat → Int} {v : cEnv} {fs : List cLin} (hv : c_envOk r v) (hf : ∀ f ∈ fs, 0 ≤ c_ev r f) : ∀ (n : Nat) (e : cLin), c_entF v fs n e = true → 0 ≤ c_ev r e
  | 0, e, h => by
    unfold c_entF at h
    rw [Bool.or_eq_true, Bool.and_eq_true] at h
    rcases h with h | h
    · exact c_nonneg_ok hv h
    · exact c_d5_ok h.1 (c_nonneg_ok hv h.2)
  | n + 1, e, h => by
    unfold c_entF at h
    rw [Bool.or_eq_true, Bool.or_eq_true, Bool.and_eq_true] at h
    rcases h with (h | h) | h
    · exact c_nonneg_ok hv h
    · exact c_d5_ok h.1 (c_nonneg_ok hv h.2)
    · obtain ⟨f, hm, h⟩ := List.any_eq_true.mp h
      have hf1 := hf f hm
      rw [Bool.and_eq_true, Bool.or_eq_true, Bool.or_eq_true, Bool.or_eq_true, Bool.and_eq_true, Bool.and_eq_true] at h
      rcases h.2 with ((h | h) | h) | h
      · have := c_entF_ok hv hf n _ h
        rw [c_ev_sub] at this; omega
      · have := c_entF_ok hv hf n _ h
        rw [c_ev_sub, c_ev_mul] at this; omega
      · refine c_d5_ok h.1 ?_
        have := c_entF_ok hv hf n _ h.2
        rw [c_ev_sub] at this; omega
      · have h2 := of_decide_eq_true h.1
        have := c_entF_ok hv hf n _ h.2
        have h3 := Int.mul_nonneg (show 0 ≤ c_rat e.2 f.2 by omega) hf1
        rw [c_ev_sub, c_ev_mul] at this; omega
/-- the newest symbol -/
def c_maxS : List (Nat × Int) → Nat × Int → Nat × Int
  | [], m => m
  | q :: t, m => c_maxS t (if Nat.blt m.1 q.1 then q else m)
/-- how often a fact is taken so that the newest symbol goes (k of k') -/
def c_tms (k k' : Int) : Int := if k % k' = 0 then k / k' else 1
/-- the same as c_entF, but along the newest symbol alone -/
def c_entH (v : cEnv) (fs : List cLin) : Nat → cLin → Bool
  | 0, e => c_nonneg v e || (c_d5 e && c_nonneg v (c_addc e 4))
  | n + 1, e => c_nonneg v e || (c_d5 e && c_nonneg v (c_addc e 4)) || (match e.2 with
    | [] => false
    | q :: t => fs.any (fun f => decide (0 < (c_maxS t q).2 * c_coef (c_maxS t q).1 f.2) && ((decide (0 ≤ c_tms (c_maxS t q).2 (c_coef (c_maxS t q).1 f.2)) && c_entH v fs n (c_sub e (c_mul (c_tms (c_maxS t q).2 (c_coef (c_maxS t q).1 f.2)) f))) || (c_d5 e && c_entH v fs n (c_sub (c_addc e 4) f)))))
theorem c_entH_ok {r : Nat → Int} {v : cEnv} {fs : List cLin} (hv : c_envOk r v) (hf : ∀ f ∈ fs, 0 ≤ c_ev r f) : ∀ (n : Nat) (e : cLin), c_entH v fs n e = true → 0 ≤ c_ev r e
  | 0, e, h => by
    unfold c_entH at h
    rw [Bool.or_eq_true, Bool.and_eq_true] at h
    rcases h with h | h
    · exact c_nonneg_ok hv h
    · exact c_d5_ok h.1 (c_nonneg_ok hv h.2)
  | n + 1, e, h => by
    unfold c_entH at h
    rw [Bool.or_eq_true, Bool.or_eq_true, Bool.and_eq_true] at h
    rcases h with (h | h) | h
    · exact c_nonneg_ok hv h
    · exact c_d5_ok h.1 (c_nonneg_ok hv h.2)
    · split at h
      · cases h
      · rename_i q t he
        obtain ⟨f, hm, h⟩ := List.any_eq_true.mp h
        have hf1 := hf f hm
        rw [Bool.and_eq_true, Bool.or_eq_true, Bool.and_eq_true, Bool.and_eq_true] at h
        rcases h.2 with h | h
        · have h2 := of_decide_eq_true h.1
          have := c_entH_ok hv hf n _ h.2
          have h3 := Int.mul_nonneg h2 hf1
          rw [c_ev_sub, c_ev_mul] at this
          omega
        · refine c_d5_ok h.1 ?_
          have := c_entH_ok hv hf n _ h.2
          rw [c_ev_sub] at this
          omega
/-- 0 ≤ e, out of ranges and up to n facts -/
def c_ent (v : cEnv) (fs : List cLin) (n : Nat) (e : cLin) : Bool := c_entH v fs n e || c_entF v fs n e
theorem c_ent_ok {r : Nat → Int} {v : cEnv} {fs : List cLin} (hv : c_envOk r v) (hf : ∀ f ∈ fs, 0 ≤ c_ev r f) (n : Nat) (e : cLin) (h : c_ent v fs n e = true) : 0 ≤ c_ev r e := by
  unfold c_ent at h
  rw [Bool.or_eq_true] at h
  rcases h with h | h
  · exact c_entH_ok hv hf n e h
  · exact c_entF_ok hv hf n e h
