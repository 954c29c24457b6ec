section
/-! linear expressions over symbols: a constant and (symbol, coefficient) pairs -/
abbrev cLin : Type := Int × List (Nat × Int)
def c_evs (r : Nat → Int) : List (Nat × Int) → Int
  | [] => 0
  | q :: t => q.2 * r q.1 + c_evs r t
def c_ev (r : Nat → Int) (e : cLin) : Int := e.1 + c_evs r e.2
def c_ins (s : Nat) (k : Int) : List (Nat × Int) → List (Nat × Int)
  | [] => [(s, k)]
  | q :: t => if Nat.beq q.1 s then (if q.2 + k = 0 then t else (s, q.2 + k) :: t) else q :: c_ins s k t
theorem c_evs_ins (r : Nat → Int) (s : Nat) (k : Int) : ∀ l : List (Nat × Int), c_evs r (c_ins s k l) = k * r s + c_evs r l
  | [] => rfl
  | q :: t => by
    unfold c_ins
    by_cases h : Nat.beq q.1 s = true
    · have hs : q.1 = s := Nat.eq_of_beq_eq_true h
      rw [if_pos h]
      by_cases h2 : q.2 + k = 0
      · rw [if_pos h2]
        have hk : k = - q.2 := by omega
        show c_evs r t = k * r s + (q.2 * r q.1 + c_evs r t)
        rw [hs, hk, Int.neg_mul]; omega
      · rw [if_neg h2]
        show (q.2 + k) * r s + c_evs r t = k * r s + (q.2 * r q.1 + c_evs r t)
        rw [hs, Int.add_mul]; omega
    · rw [if_neg h]
      show q.2 * r q.1 + c_evs r (c_ins s k t) = k * r s + (q.2 * r q.1 + c_evs r t)
      rw [c_evs_ins r s k t]; omega
def c_adds : List (Nat × Int) → List (Nat × Int) → List (Nat × Int)
  | [], b => b
  | q :: t, b => c_adds t (c_ins q.1 q.2 b)
theorem c_evs_adds (r : Nat → Int) : ∀ a b : List (Nat × Int), c_evs r (c_adds a b) = c_evs r a + c_evs r b
  | [], b => by show c_evs r b = 0 + c_evs r b; omega
  | q :: t, b => by
    show c_evs r (c_adds t (c_ins q.1 q.2 b)) = q.2 * r q.1 + c_evs r t + c_evs r b
    rw [c_evs_adds r t, c_evs_ins]; omega
def c_muls (k : Int) : List (Nat × Int) → List (Nat × Int)
  | [] => []
  | q :: t => (q.1, k * q.2) :: c_muls k t
theorem c_evs_muls (r : Nat → Int) (k : Int) : ∀ a : List (Nat × Int), c_evs r (c_muls k a) = k * c_evs r a
  | [] => by show (0 : Int) = k * 0; omega
  | q :: t => by
    show k * q.2 * r q.1 + c_evs r (c_muls k t) = k * (q.2 * r q.1 + c_evs r t)
    rw [c_evs_muls r k t, Int.mul_add, Int.mul_assoc]
def c_add (a b : cLin) : cLin := (a.1 + b.1, c_adds a.2 b.2)
def c_mul (k : Int) (a : cLin) : cLin := if k = 0 then (0, []) else (k * a.1, c_muls k a.2)
def c_sub (a b : cLin) : cLin := c_add (c_mul (-1) b) a
def c_con (k : Int) : cLin := (k, [])
def c_sym (s : Nat) : cLin := (0, [(s, 1)])
def c_addc (a : cLin) (k : Int) : cLin := (a.1 + k, a.2)
theorem c_ev_add (r : Nat → Int) (a b : cLin) : c_ev r (c_add a b) = c_ev r a + c_ev r b := by
  unfold c_ev c_add
  show a.1 + b.1 + c_evs r (c_adds a.2 b.2) = _
  rw [c_evs_adds]; omega
theorem c_ev_mul (r : Nat → Int) (k : Int) (a : cLin) : c_ev r (c_mul k a) = k * c_ev r a := by
  unfold c_ev c_mul
  by_cases h : k = 0
  · rw [if_pos h, h]; show (0 : Int) + 0 = 0 * _; omega
  · rw [if_neg h]
    show k * a.1 + c_evs r (c_muls k a.2) = _
    rw [c_evs_muls, Int.mul_add]
theorem c_ev_sub (r : Nat → Int) (a b : cLin) : c_ev r (c_sub a b) = c_ev r a - c_ev r b := by
  unfold c_sub
  rw [c_ev_add, c_ev_mul]; omega
theorem c_ev_con (r : Nat → Int) (k : Int) : c_ev r (c_con k) = k := by unfold c_ev c_con; show k + 0 = k; omega
theorem c_ev_sym (r : Nat → Int) (s : Nat) : c_ev r (c_sym s) = r s := by
  unfold c_ev c_sym
  show (0 : Int) + (1 * r s + 0) = r s
  omega
theorem c_ev_addc (r : Nat → Int) (a : cLin) (k : Int) : c_ev r (c_addc a k) = c_ev r a + k := by
  unfold c_ev c_addc
  show a.1 + k + c_evs r a.2 = _
  omega
/-! ranges: env is a list of (symbol, least, greatest), all of which hold; the first found counts -/
abbrev cEnv : Type := List (Nat × Int × Int)
def c_look (s : Nat) : cEnv → Option (Int × Int)
  | [] => none
  | q :: t => if Nat.beq q.1 s then some q.2 else c_look s t
def c_envOk (r : Nat → Int) (v : cEnv) : Prop := ∀ q ∈ v, q.2.1 ≤ r q.1 ∧ r q.1 ≤ q.2.2
theorem c_look_ok {r : Nat → Int} {s : Nat} {x : Int × Int} : ∀ {v : cEnv}, c_envOk r v → c_look s v = some x → x.1 ≤ r s ∧ r s ≤ x.2
  | [], _, h => by cases h
  | q :: t, hv, h => by
    unfold c_look at h
    by_cases hb : Nat.beq q.1 s = true
    · rw [if_pos hb] at h
      cases h
      rw [← Nat.eq_of_beq_eq_true hb]
      exact hv q List.mem_cons_self
    · rw [if_neg hb] at h
      exact c_look_ok (fun z hz => hv z (List.mem_cons_of_mem _ hz)) h
/-- range of a sum of terms, begun at (lo, hi) -/
def c_rngs (v : cEnv) : List (Nat × Int) → Int → Int → Option (Int × Int)
  | [], lo, hi => some (lo, hi)
  | q :: t, lo, hi => match c_look q.1 v with
    | none => none
    | some x => if 0 ≤ q.2 then c_rngs v t (lo + q.2 * x.1) (hi + q.2 * x.2) else c_rngs v t (lo + q.2 * x.2) (hi + q.2 * x.1)
def c_rng (v : cEnv) (e : cLin) : Option (Int × Int) := c_rngs v e.2 e.1 e.1
theorem c_rngs_ok {r : Nat → Int} {v : cEnv} (hv : c_envOk r v) : ∀ (l : List (Nat × Int)) (lo hi : Int) (x : Int × Int), c_rngs v l lo hi = some x → ∀ y : Int, lo ≤ y → y ≤ hi → x.1 ≤ y + c_evs r l ∧ y + c_evs r l ≤ x.2
  | [], lo, hi, x, h, y, h1, h2 => by
    cases h
    show lo ≤ y + 0 ∧ y + 0 ≤ hi
    omega
  | q :: t, lo, hi, x, h, y, h1, h2 => by
    unfold c_rngs at h
    cases hl : c_look q.1 v with
    | none => rw [hl] at h; cases h
    | some z =>
      rw [hl] at h
      have hz := c_look_ok hv hl
      show x.1 ≤ y + (q.2 * r q.1 + c_evs r t) ∧ y + (q.2 * r q.1 + c_evs r t) ≤ x.2
      rw [← Int.add_assoc]
      dsimp only at h
      by_cases hq : 0 ≤ q.2
      · rw [if_pos hq] at h
        have g1 := Int.mul_le_mul_of_nonneg_left hz.1 hq
        have g2 := Int.mul_le_mul_of_nonneg_left hz.2 hq
        exact c_rngs_ok hv t _ _ x h _ (by omega) (by omega)
      · rw [if_neg hq] at h
        have hq' : q.2 ≤ 0 := by omega
        have g1 := Int.mul_le_mul_of_nonpos_left hq' hz.1
        have g2 := Int.mul_le_mul_of_nonpos_left hq' hz.2
        exact c_rngs_ok hv t _ _ x h _ (by omega) (by omega)
theorem c_rng_ok {r : Nat → Int} {v : cEnv} {e : cLin} {x : Int × Int} (hv : c_envOk r v) (h : c_rng v e = some x) : x.1 ≤ c_ev r e ∧ c_ev r e ≤ x.2 :=
  c_rngs_ok hv e.2 e.1 e.1 x h e.1 (Int.le_refl _) (Int.le_refl _)
def c_nonneg (v : cEnv) (e : cLin) : Bool := match c_rng v e with
  | none => false
  | some x => decide (0 ≤ x.1)
theorem c_nonneg_ok {r : Nat → Int} {v : cEnv} {e : cLin} (hv : c_envOk r v) (h : c_nonneg v e = true) : 0 ≤ c_ev r e := by
  unfold c_nonneg at h
  cases hr : c_rng v e with
  | none => rw [hr] at h; cases h
  | some x =>
    rw [hr] at h
    have h1 := (c_rng_ok hv hr).1
    have h2 : 0 ≤ x.1 := of_decide_eq_true h
    omega
/-- does a fact share a symbol with e, with the same sign? -/
def c_coef (s : Nat) : List (Nat × Int) → Int
  | [] => 0
  | q :: t => if Nat.beq q.1 s then q.2 else c_coef s t
def c_shares (e : List (Nat × Int)) : List (Nat × Int) → Bool
  | [] => false
  | q :: t => decide (0 < q.2 * c_coef q.1 e) || c_shares e t
/-- 0 ≤ e, out of ranges and up to n facts (each taken once or twice) -/
def c_ent (v : cEnv) (fs : List cLin) : Nat → cLin → Bool
  | 0, e => c_nonneg v e
  | n + 1, e => c_nonneg v e || fs.any (fun f => c_shares e.2 f.2 && (c_ent v fs n (c_sub e f) || c_ent v fs n (c_sub e (c_mul 2 f))))
theorem c_ent_ok {r : Nat → Int} {v : cEnv} {fs : List cLin} (hv : c_envOk r v) (hf : ∀ f ∈ fs, 0 ≤ c_ev r f) : ∀ (n : Nat) (e : cLin), c_ent v fs n e = true → 0 ≤ c_ev r e
  | 0, e, h => c_nonneg_ok hv h
  | n + 1, e, h => by
    unfold c_ent at h
    rcases Bool.or_eq_true _ _ ▸ h with h | h
    · exact c_nonneg_ok hv h
    · obtain ⟨f, hm, h⟩ := List.any_eq_true.mp h
      have hf1 := hf f hm
      rw [Bool.and_eq_true, Bool.or_eq_true] at h
      rcases h.2 with h | h
      · have := c_ent_ok hv hf n _ h
        rw [c_ev_sub] at this; omega
      · have := c_ent_ok hv hf n _ h
        rw [c_ev_sub, c_ev_mul] at this; omega
end
section
/-! values, cells, worlds: what an abstract state says of the machine -/
abbrev cAV : Type := Nat × cLin
abbrev cVT : Type := Nat × Int × Int
abbrev cWld : Type := (Nat → Nat) × va_W × (Nat → Int)
def c_flag (k : Nat) (x : Int) : Prop := match k with
  | 1 => x ≠ 0
  | _ => x % 4294967296 ≠ 0
/-- what an abstract value says: 0 an int, 1 a long, 2 a reference (-1: null), 3 the outcome of a comparison -/
def c_DV (r : Nat → Int) (a : cAV) (v : Value) : Prop := match a.1 with
  | 0 => ∃ x : Int32, v = .int x ∧ x.toInt = c_ev r a.2
  | 1 => ∃ x : Int64, v = .long x ∧ x.toInt = c_ev r a.2
  | 2 => (v = .null ∧ c_ev r a.2 = -1) ∨ ∃ x : Nat, v = .ref x ∧ c_ev r a.2 = (x : Int)
  | _ => ∃ x : Int32, v = .int x ∧ ((0 < x.toInt ∧ 0 < c_ev r a.2) ∨ (x.toInt = 0 ∧ c_ev r a.2 = 0) ∨ (x.toInt < 0 ∧ c_ev r a.2 < 0))
def c_rdA : vp_A → Nat → Value
  | (_, .inl f), j => .int (f j)
  | (_, .inr (.inl f)), j => .long (f j)
  | (_, .inr (.inr (.inl f))), j => .float (f j)
  | (_, .inr (.inr (.inr (.inl f)))), j => .double (f j)
  | (_, .inr (.inr (.inr (.inr f)))), j => va_rf (f j)
def c_rd : va_E → Nat → Option Value
  | .inr o, j => o.2[j]?
  | .inl a, j => if j < a.2.1 then some (c_rdA a.2 j) else none
def c_in (w : cWld) (a t : Nat) : Prop := ∃ e : va_E, (a, e) ∈ w.2.1 ∧ w.1 a = t
def c_okV (w : cWld) (t : cVT) (v : Value) : Prop := match t.1 with
  | 0 => ∃ x : Int32, v = .int x ∧ t.2.1 ≤ x.toInt ∧ x.toInt ≤ t.2.2
  | 1 => ∃ x : Int64, v = .long x ∧ t.2.1 ≤ x.toInt ∧ x.toInt ≤ t.2.2
  | 2 => ∃ x : Int64, v = .long x ∧ c_flag 2 x.toInt
  | 3 => ∃ a : Nat, v = .ref a ∧ c_in w a t.2.1.toNat
  | 4 => v = .null ∨ ∃ a : Nat, v = .ref a ∧ c_in w a t.2.1.toNat
  | _ => True
/-- shapes: (0, fields, class) an object; (1 int, 2 long, 3 byte, 4 short, 5 boolean, 6 and on references; length, _) an array -/
abbrev cShp : Type := Nat × Nat × Nat
def c_form (dA : Nat → ClassId) (h : cShp) (e : va_E) : Prop := match h.1 with
  | 0 => ∃ fs : List Value, e = .inr (h.2.2, fs) ∧ fs.length = h.2.1
  | 2 => ∃ f : Nat → Int64, e = .inl (dA 2, h.2.1, .inr (.inl f))
  | 1 => ∃ f : Nat → Int32, e = .inl (dA 1, h.2.1, .inl f)
  | 3 => ∃ f : Nat → Int32, e = .inl (dA 3, h.2.1, .inl f)
  | 4 => ∃ f : Nat → Int32, e = .inl (dA 4, h.2.1, .inl f)
  | 5 => ∃ f : Nat → Int32, e = .inl (dA 5, h.2.1, .inl f)
  | k => ∃ f : Nat → Option Nat, e = .inl (dA k, h.2.1, .inr (.inr (.inr (.inr f))))
/-- (tag, place a, place b, type): where a isn't 0, b is of that type -/
abbrev cImp : Type := Nat × Nat × Nat × cVT
/-- the tables of a claim: types, shapes, conditions between fields, a free word on a cell and the ghost -/
abbrev cTab : Type := (Nat → Nat → cVT) × (Nat → cShp) × List cImp × (Nat → (Nat → Option Value) → (Nat → Int) → Prop)
def c_TW (K : cTab) (dA : Nat → ClassId) (w : cWld) : Prop := ∀ q ∈ w.2.1, c_form dA (K.2.1 (w.1 q.1)) q.2 ∧ (∀ (j : Nat) (v : Value), c_rd q.2 j = some v → c_okV w (K.1 (w.1 q.1) j) v) ∧
  (∀ i ∈ K.2.2.1, i.1 = w.1 q.1 → ∀ x : Int32, c_rd q.2 i.2.1 = some (.int x) → x ≠ 0 → ∀ v : Value, c_rd q.2 i.2.2.1 = some v → c_okV w i.2.2.2 v) ∧ K.2.2.2 (w.1 q.1) (c_rd q.2) w.2.2
abbrev cEff : Type := List (Nat × Nat × Nat)
def c_hits (E : cEff) (t j : Nat) : Prop := ∃ x ∈ E, x.1 = t ∧ x.2.1 ≤ j ∧ j ≤ x.2.2
/-- a later world: no cell goes, a tag stays (but the one that is promoted), what isn't hit stays -/
def c_ext (E : cEff) (pro : Nat) (w w' : cWld) : Prop := (∀ q ∈ w.2.1, ∃ e : va_E, (q.1, e) ∈ w'.2.1 ∧ (w'.1 q.1 = w.1 q.1 ∨ (pro ≠ 0 ∧ w.1 q.1 = pro)) ∧ ∀ j : Nat, ¬ c_hits E (w.1 q.1) j → c_rd e j = c_rd q.2 j) ∧
  ∀ j : Nat, ¬ c_hits E 0 j → w'.2.2 j = w.2.2 j
def c_F2 {α β : Type} (R : α → β → Prop) : List α → List β → Prop
  | [], [] => True
  | a :: s, b :: t => R a b ∧ c_F2 R s t
  | _, _ => False
theorem c_F2_cons {α β : Type} {R : α → β → Prop} {a : α} {s : List α} {l : List β} (h : c_F2 R (a :: s) l) : ∃ b t, l = b :: t ∧ R a b ∧ c_F2 R s t := by
  cases l with
  | nil => exact h.elim
  | cons b t => exact ⟨b, t, rfl, h.1, h.2⟩
theorem c_F2_nil {α β : Type} {R : α → β → Prop} {l : List β} (h : c_F2 R ([] : List α) l) : l = [] := by
  cases l with
  | nil => rfl
  | cons b t => exact h.elim
theorem c_F2_len {α β : Type} {R : α → β → Prop} : ∀ {s : List α} {l : List β}, c_F2 R s l → s.length = l.length
  | [], [], _ => rfl
  | _ :: _, _ :: _, h => congrArg (· + 1) (c_F2_len h.2)
  | [], _ :: _, h => h.elim
  | _ :: _, [], h => h.elim
theorem c_F2_app {α β : Type} {R : α → β → Prop} : ∀ {s : List α} {l : List β} {s' : List α} {l' : List β}, c_F2 R s l → c_F2 R s' l' → c_F2 R (s ++ s') (l ++ l')
  | [], [], _, _, _, h => h
  | _ :: _, _ :: _, _, _, h, h' => ⟨h.1, c_F2_app h.2 h'⟩
  | [], _ :: _, _, _, h, _ => h.elim
  | _ :: _, [], _, _, h, _ => h.elim
theorem c_F2_mono {α β : Type} {R R' : α → β → Prop} (hR : ∀ a b, R a b → R' a b) : ∀ {s : List α} {l : List β}, c_F2 R s l → c_F2 R' s l
  | [], [], _ => trivial
  | _ :: _, _ :: _, h => ⟨hR _ _ h.1, c_F2_mono hR h.2⟩
  | [], _ :: _, h => h.elim
  | _ :: _, [], h => h.elim
theorem c_F2_get {α β : Type} {R : α → β → Prop} : ∀ {s : List α} {l : List β} {k : Nat} {a : α}, c_F2 R s l → s[k]? = some a → ∃ b, l[k]? = some b ∧ R a b
  | _ :: _, b :: _, 0, _, h, hk => by cases hk; exact ⟨b, rfl, h.1⟩
  | _ :: s, _ :: t, k + 1, _, h, hk => by
    obtain ⟨b, h1, h2⟩ := c_F2_get (s := s) (l := t) (k := k) h.2 (by simpa using hk)
    exact ⟨b, by simpa using h1, h2⟩
  | [], _, _, _, _, hk => by simp at hk
  | _ :: _, [], _, _, h, _ => h.elim
/-- filters that agree -/
theorem c_F2_filter {α β : Type} {R : α → β → Prop} {p : α → Bool} {q : β → Bool} (hpq : ∀ a b, R a b → p a = q b) : ∀ {s : List α} {l : List β}, c_F2 R s l → c_F2 R (s.filter p) (l.filter q)
  | [], [], _ => trivial
  | a :: s, b :: t, h => by
    have e := hpq a b h.1
    have ih := c_F2_filter hpq h.2
    rw [List.filter_cons, List.filter_cons, e]
    cases q b
    · exact ih
    · exact ⟨h.1, ih⟩
  | [], _ :: _, h => h.elim
  | _ :: _, [], h => h.elim
/-- an abstract state: symbols below n; ranges; flags; tags of references; facts (≥ 0); locals; stack; known places; cells and slots made -/
abbrev cSt : Type := Nat × cEnv × List (Nat × Nat) × List (Nat × Nat) × List cLin × List (Nat × cAV) × List cAV × List (Nat × cLin × cAV) × Nat × Nat
def c_mem (r : Nat → Int) (w : cWld) (q : Nat × cLin × cAV) : Prop := match q.1 with
  | 0 => ∃ j : Nat, c_ev r q.2.1 = (j : Int) ∧ w.2.2 j = c_ev r q.2.2.2
  | _ => ∃ (a : Nat) (e : va_E) (j : Nat) (v : Value), r q.1 = (a : Int) ∧ (a, e) ∈ w.2.1 ∧ c_ev r q.2.1 = (j : Int) ∧ c_rd e j = some v ∧ c_DV r q.2.2 v
def c_lr (r : Nat → Int) (q : Nat × cAV) (p : Nat × Value) : Prop := q.1 = p.1 ∧ c_DV r q.2 p.2
def c_tag (r : Nat → Int) (w : cWld) (q : Nat × Nat) : Prop := 0 ≤ r q.1 → ∃ a : Nat, r q.1 = (a : Int) ∧ c_in w a q.2
def c_satR (A : cSt) (r : Nat → Int) (lv : List (Nat × Value)) (st : List Value) (w : cWld) : Prop :=
  c_envOk r A.2.1 ∧ (∀ q ∈ A.2.2.1, c_flag q.2 (r q.1)) ∧ (∀ q ∈ A.2.2.2.1, c_tag r w q) ∧ (∀ f ∈ A.2.2.2.2.1, 0 ≤ c_ev r f) ∧
  c_F2 (c_lr r) A.2.2.2.2.2.1 lv ∧ c_F2 (c_DV r) A.2.2.2.2.2.2.1 st ∧ ∀ q ∈ A.2.2.2.2.2.2.2.1, c_mem r w q
def c_agr (n : Nat) (r r' : Nat → Int) : Prop := ∀ i, i < n → r' i = r i
def c_sat (n0 : Nat) (r0 : Nat → Int) (A : cSt) (lv : List (Nat × Value)) (st : List Value) (w : cWld) : Prop :=
  n0 ≤ A.1 ∧ ∃ r, c_agr n0 r0 r ∧ ∀ r', c_agr A.1 r r' → c_satR A r' lv st w
theorem c_agr_rf (n : Nat) (r : Nat → Int) : c_agr n r r := fun _ _ => rfl
theorem c_sat.at {n0 : Nat} {r0 : Nat → Int} {A : cSt} {lv : List (Nat × Value)} {st : List Value} {w : cWld} (h : c_sat n0 r0 A lv st w) : ∃ r, c_agr n0 r0 r ∧ c_satR A r lv st w := by
  obtain ⟨-, r, h1, h2⟩ := h
  exact ⟨r, h1, h2 r (c_agr_rf _ _)⟩
/-- no new symbol -/
theorem c_sat.to {n0 : Nat} {r0 : Nat → Int} {A B : cSt} {lv lv' : List (Nat × Value)} {st st' : List Value} {w w' : cWld} (h : c_sat n0 r0 A lv st w) (hn : B.1 = A.1)
    (k : ∀ r, c_agr n0 r0 r → c_satR A r lv st w → c_satR B r lv' st' w') : c_sat n0 r0 B lv' st' w' := by
  obtain ⟨h0, r, h1, h2⟩ := h
  refine ⟨by rw [hn]; exact h0, r, h1, fun r' hr' => ?_⟩
  rw [hn] at hr'
  exact k r' (fun i hi => (hr' i (Nat.lt_of_lt_of_le hi h0)).trans (h1 i hi)) (h2 r' hr')
/-- one new symbol, of value z -/
theorem c_sat.new {n0 : Nat} {r0 : Nat → Int} {A B : cSt} {lv lv' : List (Nat × Value)} {st st' : List Value} {w w' : cWld} (h : c_sat n0 r0 A lv st w) (z : Int) (hn : B.1 = A.1 + 1)
    (k : ∀ r, c_agr n0 r0 r → r A.1 = z → c_satR A r lv st w → c_satR B r lv' st' w') : c_sat n0 r0 B lv' st' w' := by
  obtain ⟨h0, r, h1, h2⟩ := h
  refine ⟨by rw [hn]; omega, fun i => if i = A.1 then z else r i, fun i hi => ?_, fun r' hr' => ?_⟩
  · show (if i = A.1 then z else r i) = r0 i
    rw [if_neg (by omega)]
    exact h1 i hi
  · rw [hn] at hr'
    have e1 : ∀ i, i < A.1 → r' i = r i := fun i hi => by
      have := hr' i (by omega)
      dsimp only at this
      rw [if_neg (by omega)] at this
      exact this
    have e2 : r' A.1 = z := by
      have := hr' A.1 (by omega)
      dsimp only at this
      rw [if_pos rfl] at this
      exact this
    exact k r' (fun i hi => (e1 i (Nat.lt_of_lt_of_le hi h0)).trans (h1 i hi)) e2 (h2 r' e1)
theorem c_ext_rf (E : cEff) (w : cWld) : c_ext E 0 w w := ⟨fun q hq => ⟨q.2, hq, Or.inl rfl, fun _ _ => rfl⟩, fun _ _ => rfl⟩
end
section
/-! narrowing of ranges by a fact; assumptions -/
def c_setV (A : cSt) (v : cEnv) : cSt := (A.1, v, A.2.2)
def c_setG (A : cSt) (g : List (Nat × Nat)) : cSt := (A.1, A.2.1, g, A.2.2.2)
def c_setR (A : cSt) (g : List (Nat × Nat)) : cSt := (A.1, A.2.1, A.2.2.1, g, A.2.2.2.2)
def c_setF (A : cSt) (f : List cLin) : cSt := (A.1, A.2.1, A.2.2.1, A.2.2.2.1, f, A.2.2.2.2.2)
def c_setL (A : cSt) (o : List (Nat × cAV)) : cSt := (A.1, A.2.1, A.2.2.1, A.2.2.2.1, A.2.2.2.2.1, o, A.2.2.2.2.2.2)
def c_setS (A : cSt) (S : List cAV) : cSt := (A.1, A.2.1, A.2.2.1, A.2.2.2.1, A.2.2.2.2.1, A.2.2.2.2.2.1, S, A.2.2.2.2.2.2.2)
def c_setM (A : cSt) (M : List (Nat × cLin × cAV)) : cSt := (A.1, A.2.1, A.2.2.1, A.2.2.2.1, A.2.2.2.2.1, A.2.2.2.2.2.1, A.2.2.2.2.2.2.1, M, A.2.2.2.2.2.2.2.2)
def c_setC (A : cSt) (cu su : Nat) : cSt := (A.1, A.2.1, A.2.2.1, A.2.2.2.1, A.2.2.2.2.1, A.2.2.2.2.2.1, A.2.2.2.2.2.2.1, A.2.2.2.2.2.2.2.1, cu, su)
/-- one new symbol with a range -/
def c_newY (A : cSt) (lo hi : Int) : cSt := (A.1 + 1, (A.1, lo, hi) :: A.2.1, A.2.2)
def c_drop (s : Nat) : List (Nat × Int) → List (Nat × Int)
  | [] => []
  | q :: t => if Nat.beq q.1 s then t else q :: c_drop s t
theorem c_evs_drop (r : Nat → Int) (s : Nat) : ∀ l : List (Nat × Int), c_evs r l = c_coef s l * r s + c_evs r (c_drop s l)
  | [] => by show (0 : Int) = 0 * r s + 0; omega
  | q :: t => by
    unfold c_coef c_drop
    by_cases h : Nat.beq q.1 s = true
    · rw [if_pos h, if_pos h]
      show q.2 * r q.1 + c_evs r t = _
      rw [Nat.eq_of_beq_eq_true h]
    · rw [if_neg h, if_neg h]
      show q.2 * r q.1 + c_evs r t = c_coef s t * r s + (q.2 * r q.1 + c_evs r (c_drop s t))
      have := c_evs_drop r s t
      omega
/-- the new range of the symbol s of the fact f ≥ 0, if it is narrower; none: there is no such state -/
def c_nar (v : cEnv) (f : cLin) (s : Nat) : Option cEnv := match c_look s v, c_rngs v (c_drop s f.2) f.1 f.1 with
  | some x, some u =>
    if 0 < c_coef s f.2 then (if x.1 < -(u.2 / c_coef s f.2) then (if x.2 < -(u.2 / c_coef s f.2) then none else some ((s, -(u.2 / c_coef s f.2), x.2) :: v)) else some v)
    else if c_coef s f.2 < 0 then (if u.2 / (-(c_coef s f.2)) < x.2 then (if u.2 / (-(c_coef s f.2)) < x.1 then none else some ((s, x.1, u.2 / (-(c_coef s f.2))) :: v)) else some v)
    else some v
  | _, _ => some v
theorem c_envOk_cons {r : Nat → Int} {v : cEnv} {s : Nat} {a b : Int} (h1 : a ≤ r s) (h2 : r s ≤ b) (hv : c_envOk r v) : c_envOk r ((s, a, b) :: v) := by
  intro q hq
  rcases List.mem_cons.mp hq with rfl | hq
  · exact ⟨h1, h2⟩
  · exact hv q hq
theorem c_nar_ok {r : Nat → Int} {v : cEnv} {f : cLin} (hv : c_envOk r v) (hf : 0 ≤ c_ev r f) (s : Nat) : ∃ v', c_nar v f s = some v' ∧ c_envOk r v' := by
  unfold c_nar
  cases hl : c_look s v with
  | none => exact ⟨v, rfl, hv⟩
  | some x =>
    cases hu : c_rngs v (c_drop s f.2) f.1 f.1 with
    | none => exact ⟨v, rfl, hv⟩
    | some u =>
      dsimp only
      have hx := c_look_ok hv hl
      have hU := (c_rngs_ok hv _ _ _ u hu f.1 (Int.le_refl _) (Int.le_refl _)).2
      have he : c_ev r f = f.1 + (c_coef s f.2 * r s + c_evs r (c_drop s f.2)) := by unfold c_ev; rw [← c_evs_drop]
      generalize c_coef s f.2 = k at *
      generalize c_evs r (c_drop s f.2) = z at *
      have key : 0 ≤ k * r s + u.2 := by omega
      by_cases hk : 0 < k
      · rw [if_pos hk]
        have hb : -(u.2 / k) ≤ r s := by
          have h3 : (-(r s)) * k ≤ u.2 := by rw [Int.neg_mul, Int.mul_comm]; omega
          have := (Int.le_ediv_iff_mul_le hk).mpr h3
          omega
        by_cases h1 : x.1 < -(u.2 / k)
        · rw [if_pos h1, if_neg (by omega)]
          exact ⟨_, rfl, c_envOk_cons hb hx.2 hv⟩
        · rw [if_neg h1]
          exact ⟨v, rfl, hv⟩
      · rw [if_neg hk]
        by_cases hk2 : k < 0
        · rw [if_pos hk2]
          have hb : r s ≤ u.2 / (-k) := by
            refine (Int.le_ediv_iff_mul_le (by omega)).mpr ?_
            rw [Int.mul_neg, Int.mul_comm]; omega
          by_cases h1 : u.2 / (-k) < x.2
          · rw [if_pos h1, if_neg (by omega)]
            exact ⟨_, rfl, c_envOk_cons hx.1 hb hv⟩
          · rw [if_neg h1]
            exact ⟨v, rfl, hv⟩
        · rw [if_neg hk2]
          exact ⟨v, rfl, hv⟩
def c_narAll (f : cLin) : List (Nat × Int) → cEnv → Option cEnv
  | [], v => some v
  | q :: t, v => match c_nar v f q.1 with
    | none => none
    | some v' => c_narAll f t v'
theorem c_narAll_ok {r : Nat → Int} {f : cLin} (hf : 0 ≤ c_ev r f) : ∀ (l : List (Nat × Int)) (v : cEnv), c_envOk r v → ∃ v', c_narAll f l v = some v' ∧ c_envOk r v'
  | [], v, hv => ⟨v, rfl, hv⟩
  | q :: t, v, hv => by
    obtain ⟨v1, e1, h1⟩ := c_nar_ok hv hf q.1
    unfold c_narAll
    rw [e1]
    exact c_narAll_ok hf t v1 h1
def c_refine (v : cEnv) (f : cLin) : Option cEnv := if f.2.isEmpty && decide (f.1 < 0) then none else c_narAll f f.2 v
theorem c_refine_ok {r : Nat → Int} {f : cLin} {v : cEnv} (hv : c_envOk r v) (hf : 0 ≤ c_ev r f) : ∃ v', c_refine v f = some v' ∧ c_envOk r v' := by
  unfold c_refine
  rw [if_neg]
  · exact c_narAll_ok hf _ v hv
  · intro h
    rw [Bool.and_eq_true] at h
    have h1 := of_decide_eq_true h.2
    have h2 : f.2 = [] := List.isEmpty_iff.mp h.1
    unfold c_ev at hf
    rw [h2] at hf
    have h3 : f.1 + 0 = f.1 := by omega
    have : 0 ≤ f.1 + 0 := hf
    omega
def c_refAll : List cLin → cEnv → Option cEnv
  | [], v => some v
  | f :: t, v => match c_refine v f with
    | none => none
    | some v' => c_refAll t v'
theorem c_refAll_ok {r : Nat → Int} : ∀ (l : List cLin) (v : cEnv), c_envOk r v → (∀ f ∈ l, 0 ≤ c_ev r f) → ∃ v', c_refAll l v = some v' ∧ c_envOk r v'
  | [], v, hv, _ => ⟨v, rfl, hv⟩
  | f :: t, v, hv, h => by
    obtain ⟨v1, e1, h1⟩ := c_refine_ok hv (h f List.mem_cons_self)
    unfold c_refAll
    rw [e1]
    exact c_refAll_ok t v1 h1 (fun g hg => h g (List.mem_cons_of_mem _ hg))
def c_two : List (Nat × Int) → Bool
  | _ :: _ :: _ => true
  | _ => false
/-- f ≥ 0 is assumed; none: no such state -/
def c_assume (A : cSt) (f : cLin) : Option cSt := match c_refine A.2.1 f with
  | none => none
  | some v => if c_two f.2 then (match c_refAll A.2.2.2.2.1 v with
      | none => none
      | some v' => some (c_setF (c_setV A v') (f :: A.2.2.2.2.1))) else (match c_refAll A.2.2.2.2.1 v with
      | none => none
      | some v' => some (c_setV A v'))
/-- states that say the same, but for ranges, facts, flags -/
def c_like (A B : cSt) : Prop := B.1 = A.1 ∧ B.2.2.2.1 = A.2.2.2.1 ∧ B.2.2.2.2.2 = A.2.2.2.2.2
theorem c_like.rf (A : cSt) : c_like A A := ⟨rfl, rfl, rfl⟩
theorem c_like.tr {A B C : cSt} (h : c_like A B) (k : c_like B C) : c_like A C := ⟨k.1.trans h.1, k.2.1.trans h.2.1, k.2.2.trans h.2.2⟩
theorem c_assume_like {A B : cSt} {f : cLin} (h : c_assume A f = some B) : c_like A B := by
  unfold c_assume at h
  cases h1 : c_refine A.2.1 f with
  | none => rw [h1] at h; cases h
  | some v =>
    rw [h1] at h
    dsimp only at h
    cases h2 : c_refAll A.2.2.2.2.1 v with
    | none => rw [h2] at h; dsimp only at h; split at h <;> cases h
    | some v' =>
      rw [h2] at h
      dsimp only at h
      split at h <;> cases h <;> exact ⟨rfl, rfl, rfl⟩
theorem c_assume_ok {A : cSt} {f : cLin} {r : Nat → Int} {lv : List (Nat × Value)} {st : List Value} {w : cWld} (h : c_satR A r lv st w) (hf : 0 ≤ c_ev r f) : ∃ B, c_assume A f = some B ∧ c_satR B r lv st w := by
  obtain ⟨hv, hg, hr, hF, hL, hS, hM⟩ := h
  obtain ⟨v, e1, h1⟩ := c_refine_ok hv hf
  obtain ⟨v', e2, h2⟩ := c_refAll_ok A.2.2.2.2.1 v h1 hF
  unfold c_assume
  rw [e1]
  dsimp only
  rw [e2]
  dsimp only
  split
  · refine ⟨_, rfl, h2, hg, hr, ?_, hL, hS, hM⟩
    intro g hgm
    rcases List.mem_cons.mp hgm with rfl | hgm
    · exact hf
    · exact hF g hgm
  · exact ⟨_, rfl, h2, hg, hr, hF, hL, hS, hM⟩
/-- a fact that holds under every valuation of the state -/
theorem c_sat.assume {n0 : Nat} {r0 : Nat → Int} {A : cSt} {f : cLin} {lv : List (Nat × Value)} {st : List Value} {w : cWld} (h : c_sat n0 r0 A lv st w) (hf : ∀ r, c_satR A r lv st w → 0 ≤ c_ev r f) : ∃ B, c_assume A f = some B ∧ c_sat n0 r0 B lv st w := by
  obtain ⟨r, h1, h2⟩ := h.at
  obtain ⟨B, e, -⟩ := c_assume_ok h2 (hf r h2)
  refine ⟨B, e, h.to (c_assume_like e).1 fun r' _ hr' => ?_⟩
  obtain ⟨B', e', hB'⟩ := c_assume_ok hr' (hf r' hr')
  cases e.symm.trans e'
  exact hB'
def c_unit : cLin → Option Nat
  | (0, [(s, 1)]) => some s
  | (0, [(s, -1)]) => some s
  | _ => none
def c_mem2 (s : Nat) : List (Nat × Nat) → Bool
  | [] => false
  | q :: t => Nat.beq q.1 s || c_mem2 s t
/-- 0 eq, 1 ne, 2 lt, 3 ge, 4 gt, 5 le, of e and 0 -/
def c_asm (A : cSt) (o : Nat) (e : cLin) : Option cSt := match o with
  | 0 => (match c_unit e with
    | some s => if c_mem2 s A.2.2.1 then none else (match c_assume A e with
      | none => none
      | some B => c_assume B (c_mul (-1) e))
    | none => (match c_assume A e with
      | none => none
      | some B => c_assume B (c_mul (-1) e)))
  | 1 => (match c_rng A.2.1 e with
    | some x => if x.1 = 0 then c_assume A (c_addc e (-1)) else if x.2 = 0 then c_assume A (c_addc (c_mul (-1) e) (-1)) else (match c_unit e with
      | some s => some (c_setG A ((s, 1) :: A.2.2.1))
      | none => some A)
    | none => (match c_unit e with
      | some s => some (c_setG A ((s, 1) :: A.2.2.1))
      | none => some A))
  | 2 => c_assume A (c_addc (c_mul (-1) e) (-1))
  | 3 => c_assume A e
  | 4 => c_assume A (c_addc e (-1))
  | _ => c_assume A (c_mul (-1) e)
def c_rel (o : Nat) (x : Int) : Prop := match o with
  | 0 => x = 0
  | 1 => x ≠ 0
  | 2 => x < 0
  | 3 => 0 ≤ x
  | 4 => 0 < x
  | _ => x ≤ 0
theorem c_unit_ok {e : cLin} {s : Nat} (h : c_unit e = some s) (r : Nat → Int) : c_ev r e = r s ∨ c_ev r e = - r s := by
  unfold c_unit at h
  split at h
  · cases h
    left
    show (0 : Int) + (1 * r s + 0) = r s
    omega
  · cases h
    right
    show (0 : Int) + (-1 * r s + 0) = - r s
    omega
  · cases h
theorem c_mem2_ok {s : Nat} : ∀ {l : List (Nat × Nat)}, c_mem2 s l = true → ∃ q ∈ l, q.1 = s
  | [], h => by cases h
  | q :: t, h => by
    unfold c_mem2 at h
    rw [Bool.or_eq_true] at h
    rcases h with h | h
    · exact ⟨q, List.mem_cons_self, Nat.eq_of_beq_eq_true h⟩
    · obtain ⟨z, h1, h2⟩ := c_mem2_ok h
      exact ⟨z, List.mem_cons_of_mem _ h1, h2⟩
theorem c_flag_ne {k : Nat} {x : Int} (h : c_flag k x) : x ≠ 0 := by
  unfold c_flag at h
  split at h
  · exact h
  · intro e
    rw [e] at h
    exact h rfl
theorem c_asm_like {A B : cSt} {o : Nat} {e : cLin} (h : c_asm A o e = some B) : c_like A B := by
  have two : ∀ {B : cSt}, (match c_assume A e with | none => none | some B => c_assume B (c_mul (-1) e)) = some B → c_like A B := by
    intro B h
    cases h1 : c_assume A e with
    | none => rw [h1] at h; cases h
    | some C =>
      rw [h1] at h
      exact (c_assume_like h1).tr (c_assume_like h)
  have ne : ∀ {B : cSt}, (match c_unit e with | some s => some (c_setG A ((s, 1) :: A.2.2.1)) | none => some A) = some B → c_like A B := by
    intro B h
    cases h1 : c_unit e with
    | none => rw [h1] at h; cases h; exact c_like.rf A
    | some C => rw [h1] at h; cases h; exact ⟨rfl, rfl, rfl⟩
  unfold c_asm at h
  split at h
  · split at h
    · split at h
      · cases h
      · exact two h
    · exact two h
  · split at h
    · split at h
      · exact c_assume_like h
      · split at h
        · exact c_assume_like h
        · exact ne h
    · exact ne h
  · exact c_assume_like h
  · exact c_assume_like h
  · exact c_assume_like h
  · exact c_assume_like h
theorem c_asm_ok {A : cSt} {o : Nat} {e : cLin} {r : Nat → Int} {lv : List (Nat × Value)} {st : List Value} {w : cWld} (h : c_satR A r lv st w) (hf : c_rel o (c_ev r e)) : ∃ B, c_asm A o e = some B ∧ c_satR B r lv st w := by
  have two : c_ev r e = 0 → ∃ B, (match c_assume A e with | none => none | some B => c_assume B (c_mul (-1) e)) = some B ∧ c_satR B r lv st w := by
    intro hf
    obtain ⟨B, e1, h1⟩ := c_assume_ok h (f := e) (by omega)
    rw [e1]
    exact c_assume_ok h1 (by rw [c_ev_mul]; omega)
  have ne : c_ev r e ≠ 0 → ∃ B, (match c_unit e with | some s => some (c_setG A ((s, 1) :: A.2.2.1)) | none => some A) = some B ∧ c_satR B r lv st w := by
    intro hf
    cases h1 : c_unit e with
    | none => exact ⟨A, rfl, h⟩
    | some s =>
      refine ⟨_, rfl, h.1, ?_, h.2.2⟩
      intro q hq
      rcases List.mem_cons.mp hq with rfl | hq
      · show r s ≠ 0
        rcases c_unit_ok h1 r with h2 | h2 <;> omega
      · exact h.2.1 q hq
  unfold c_asm
  split
  · have hf : c_ev r e = 0 := hf
    split
    · rename_i s hs
      split
      · rename_i hm
        obtain ⟨q, hq, hqs⟩ := c_mem2_ok hm
        have := c_flag_ne (h.2.1 q hq)
        rw [hqs] at this
        rcases c_unit_ok hs r with h2 | h2 <;> omega
      · exact two hf
    · exact two hf
  · have hf : c_ev r e ≠ 0 := hf
    split
    · rename_i x hx
      have hr := c_rng_ok h.1 hx
      split
      · exact c_assume_ok h (by rw [c_ev_addc]; omega)
      · split
        · exact c_assume_ok h (by rw [c_ev_addc, c_ev_mul]; omega)
        · exact ne hf
    · exact ne hf
  · have hf : c_ev r e < 0 := hf
    exact c_assume_ok h (by rw [c_ev_addc, c_ev_mul]; omega)
  · exact c_assume_ok h hf
  · have hf : 0 < c_ev r e := hf
    exact c_assume_ok h (by rw [c_ev_addc]; omega)
  · rename_i h0 h1 h2 h3 h4
    have hf : c_ev r e ≤ 0 := by
      unfold c_rel at hf
      split at hf
      · exact absurd rfl h0
      · exact absurd rfl h1
      · exact absurd rfl h2
      · exact absurd rfl h3
      · exact absurd rfl h4
      · exact hf
    exact c_assume_ok h (by rw [c_ev_mul]; omega)
theorem c_sat.asm {n0 : Nat} {r0 : Nat → Int} {A : cSt} {o : Nat} {e : cLin} {lv : List (Nat × Value)} {st : List Value} {w : cWld} (h : c_sat n0 r0 A lv st w) (hf : ∀ r, c_satR A r lv st w → c_rel o (c_ev r e)) : ∃ B, c_asm A o e = some B ∧ c_sat n0 r0 B lv st w := by
  obtain ⟨r, h1, h2⟩ := h.at
  obtain ⟨B, e', -⟩ := c_asm_ok h2 (hf r h2)
  refine ⟨B, e', h.to (c_asm_like e').1 fun r' _ hr' => ?_⟩
  obtain ⟨B', e2, hB'⟩ := c_asm_ok hr' (hf r' hr')
  cases e'.symm.trans e2
  exact hB'
end
section
theorem i_vc : Claimed_1_1 ∧ Claimed_1_2 := sorry
end
