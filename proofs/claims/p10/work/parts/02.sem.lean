/-! values, cells, worlds: what an abstract state says of the machine -/
abbrev cAV : Type := Nat × cLin
abbrev cVT : Type := Nat × Int × Int
abbrev cWld : Type := (Nat → Nat) × va_W × (Nat → Int)
def c_flag (k : Nat) (x : Int) : Prop := match k with
  | 1 => x ≠ 0
  | 3 => 0 ≤ x
  | _ => x % 4294967296 ≠ 0
/-- what an abstract value says: 0 an int, 1 a long, 2 a reference (-1: null), 3 the outcome of a comparison -/
def c_DV (r : Nat → Int) (a : cAV) (v : Value) : Prop := match a.1 with
  | 0 => ∃ x : Int32, v = .int x ∧ x.toInt = c_ev r a.2
  | 1 => ∃ x : Int64, v = .long x ∧ x.toInt = c_ev r a.2
  | 2 => (v = .null ∧ c_ev r a.2 = -1) ∨ ∃ x : Nat, v = .ref x ∧ c_ev r a.2 = (x : Int)
  | _ => ∃ x : Int32, v = .int x ∧ ((0 < x.toInt ∧ 0 < c_ev r a.2) ∨ (x.toInt = 0 ∧ c_ev r a.2 = 0) ∨ (x.toInt < 0 ∧ c_ev r a.2 < 0))
def c_rdA : vp_A → Nat → Value
  | (_, .inl f), j => .int (f j)
  | (_, .inr (.inl f)), j => .long (f j)
  | (_, .inr (.inr (.inl f))), j => .float (f j)
  | (_, .inr (.inr (.inr (.inl f)))), j => .double (f j)
  | (_, .inr (.inr (.inr (.inr f)))), j => va_rf (f j)
def c_rd : va_E → Nat → Option Value
  | .inr o, j => o.2[j]?
  | .inl a, j => if j < a.2.1 then some (c_rdA a.2 j) else none
def c_in (w : cWld) (a t : Nat) : Prop := ∃ e : va_E, (a, e) ∈ w.2.1 ∧ w.1 a = t
def c_okV (w : cWld) (t : cVT) (v : Value) : Prop := match t.1 with
  | 0 => ∃ x : Int32, v = .int x ∧ t.2.1 ≤ x.toInt ∧ x.toInt ≤ t.2.2
  | 1 => ∃ x : Int64, v = .long x ∧ t.2.1 ≤ x.toInt ∧ x.toInt ≤ t.2.2
  | 2 => ∃ x : Int64, v = .long x ∧ c_flag 2 x.toInt
  | 3 => ∃ a : Nat, v = .ref a ∧ c_in w a t.2.1.toNat
  | 4 => v = .null ∨ ∃ a : Nat, v = .ref a ∧ c_in w a t.2.1.toNat
  | _ => True
/-- shapes: (0, fields, class) an object; (1 int, 2 long, 3 byte, 4 short, 5 boolean, 6 and on references; length, _) an array -/
abbrev cShp : Type := Nat × Nat × Nat
def c_form (dA : Nat → ClassId) (h : cShp) (e : va_E) : Prop := match h.1 with
  | 0 => ∃ fs : List Value, e = .inr (h.2.2, fs) ∧ fs.length = h.2.1
  | 2 => ∃ f : Nat → Int64, e = .inl (dA 2, h.2.1, .inr (.inl f))
  | 1 => ∃ f : Nat → Int32, e = .inl (dA 1, h.2.1, .inl f)
  | 3 => ∃ f : Nat → Int32, e = .inl (dA 3, h.2.1, .inl f)
  | 4 => ∃ f : Nat → Int32, e = .inl (dA 4, h.2.1, .inl f)
  | 5 => ∃ f : Nat → Int32, e = .inl (dA 5, h.2.1, .inl f)
  | k => ∃ f : Nat → Option Nat, e = .inl (dA k, h.2.1, .inr (.inr (.inr (.inr f))))
/-- (tag, place a, place b, type): where a isn't 0, b is of that type -/
abbrev cImp : Type := Nat × Nat × Nat × cVT
abbrev cEff : Type := List (Nat × Nat × Nat)
/-- the tables of a claim: types, shapes, conditions between fields, the type of a tag whose places are all alike, protected places, a free word on a cell and the ghost -/
abbrev cTab : Type := (Nat → Nat → cVT) × (Nat → cShp) × List cImp × (Nat → Option cVT) × cEff × (Nat → Nat → (Nat → Option Value) → (Nat → Int) → Prop)
def c_ty (K : cTab) (t j : Nat) : cVT := match K.2.2.2.1 t with
  | some x => x
  | none => K.1 t j
def c_TW (K : cTab) (dA : Nat → ClassId) (w : cWld) : Prop := ∀ q ∈ w.2.1, c_form dA (K.2.1 (w.1 q.1)) q.2 ∧ (∀ (j : Nat) (v : Value), c_rd q.2 j = some v → c_okV w (c_ty K (w.1 q.1) j) v) ∧
  (∀ i ∈ K.2.2.1, i.1 = w.1 q.1 → ∀ x : Int32, c_rd q.2 i.2.1 = some (.int x) → x ≠ 0 → ∀ v : Value, c_rd q.2 i.2.2.1 = some v → c_okV w i.2.2.2 v) ∧ K.2.2.2.2.2 (w.1 q.1) q.1 (c_rd q.2) w.2.2
def c_hits (E : cEff) (t j : Nat) : Prop := ∃ x ∈ E, x.1 = t ∧ x.2.1 ≤ j ∧ j ≤ x.2.2
/-- a later world: no cell goes, a tag stays (but the one that is promoted), what isn't hit stays -/
def c_ext (E : cEff) (pros : List Nat) (w w' : cWld) : Prop := (∀ q ∈ w.2.1, ∃ e : va_E, (q.1, e) ∈ w'.2.1 ∧ ((w'.1 q.1 = w.1 q.1 ∧ ∀ j : Nat, ¬ c_hits E (w.1 q.1) j → c_rd e j = c_rd q.2 j) ∨ w.1 q.1 ∈ pros)) ∧
  ∀ j : Nat, ¬ c_hits E 0 j → w'.2.2 j = w.2.2 j
def c_F2 {α β : Type} (R : α → β → Prop) : List α → List β → Prop
  | [], [] => True
  | a :: s, b :: t => R a b ∧ c_F2 R s t
  | _, _ => False
theorem c_F2_cons {α β : Type} {R : α → β → Prop} {a : α} {s : List α} {l : List β} (h : c_F2 R (a :: s) l) : ∃ b t, l = b :: t ∧ R a b ∧ c_F2 R s t := by
  cases l with
  | nil => exact h.elim
  | cons b t => exact ⟨b, t, rfl, h.1, h.2⟩
theorem c_F2_nil {α β : Type} {R : α → β → Prop} {l : List β} (h : c_F2 R ([] : List α) l) : l = [] := by
  cases l with
  | nil => rfl
  | cons b t => exact h.elim
theorem c_F2_len {α β : Type} {R : α → β → Prop} : ∀ {s : List α} {l : List β}, c_F2 R s l → s.length = l.length
  | [], [], _ => rfl
  | _ :: _, _ :: _, h => congrArg (· + 1) (c_F2_len h.2)
  | [], _ :: _, h => h.elim
  | _ :: _, [], h => h.elim
theorem c_F2_app {α β : Type} {R : α → β → Prop} : ∀ {s : List α} {l : List β} {s' : List α} {l' : List β}, c_F2 R s l → c_F2 R s' l' → c_F2 R (s ++ s') (l ++ l')
  | [], [], _, _, _, h => h
  | _ :: _, _ :: _, _, _, h, h' => ⟨h.1, c_F2_app h.2 h'⟩
  | [], _ :: _, _, _, h, _ => h.elim
  | _ :: _, [], _, _, h, _ => h.elim
theorem c_F2_mono {α β : Type} {R R' : α → β → Prop} (hR : ∀ a b, R a b → R' a b) : ∀ {s : List α} {l : List β}, c_F2 R s l → c_F2 R' s l
  | [], [], _ => trivial
  | _ :: _, _ :: _, h => ⟨hR _ _ h.1, c_F2_mono hR h.2⟩
  | [], _ :: _, h => h.elim
  | _ :: _, [], h => h.elim
theorem c_F2_get {α β : Type} {R : α → β → Prop} : ∀ {s : List α} {l : List β} {k : Nat} {a : α}, c_F2 R s l → s[k]? = some a → ∃ b, l[k]? = some b ∧ R a b
  | _ :: _, b :: _, 0, _, h, hk => by cases hk; exact ⟨b, rfl, h.1⟩
  | _ :: s, _ :: t, k + 1, _, h, hk => by
    obtain ⟨b, h1, h2⟩ := c_F2_get (s := s) (l := t) (k := k) h.2 (by simpa using hk)
    exact ⟨b, by simpa using h1, h2⟩
  | [], _, _, _, _, hk => by simp at hk
  | _ :: _, [], _, _, h, _ => h.elim
/-- filters that agree -/
theorem c_F2_filter {α β : Type} {R : α → β → Prop} {p : α → Bool} {q : β → Bool} (hpq : ∀ a b, R a b → p a = q b) : ∀ {s : List α} {l : List β}, c_F2 R s l → c_F2 R (s.filter p) (l.filter q)
  | [], [], _ => trivial
  | a :: s, b :: t, h => by
    have e := hpq a b h.1
    have ih := c_F2_filter hpq h.2
    rw [List.filter_cons, List.filter_cons, e]
    cases q b
    · exact ih
    · exact ⟨h.1, ih⟩
  | [], _ :: _, h => h.elim
  | _ :: _, [], h => h.elim
/-- an abstract state: symbols below n; ranges; flags; tags of references; facts (≥ 0); locals; stack; known places; cells and slots made -/
abbrev cSt : Type := Nat × cEnv × List (Nat × Nat) × List (Nat × Nat) × List cLin × List (Nat × cAV) × List cAV × List (Nat × cLin × cAV) × Nat × Nat
/-- a ghost number, as far as it is looked at -/
def c_adr (j : Nat) : Bool := (Nat.ble 321 j && Nat.ble j 329) || Nat.beq j 338 || (Nat.ble 340 j && Nat.ble j 342)
theorem c_adr_off {j : Nat} (h : 343 ≤ j ∨ j ≤ 320) : c_adr j = false := by
  cases hc : c_adr j with
  | false => rfl
  | true =>
    exfalso
    unfold c_adr at hc
    rw [Bool.or_eq_true, Bool.or_eq_true, Bool.and_eq_true, Bool.and_eq_true] at hc
    rcases hc with (⟨h1, h2⟩ | h1) | ⟨h1, h2⟩
    · have h1 := Nat.le_of_ble_eq_true h1
      have h2 := Nat.le_of_ble_eq_true h2
      omega
    · have h1 := Nat.eq_of_beq_eq_true h1
      omega
    · have h1 := Nat.le_of_ble_eq_true h1
      have h2 := Nat.le_of_ble_eq_true h2
      omega
def c_gv (j : Nat) (z : Int) : Int := if j = 40 then max 0 (min 59 z) else if c_adr j = true then z else max (-1099511627776) (min 1099511627776 z)
theorem c_gv_c {j : Nat} {z : Int} (hj : j ≠ 40) (ha : c_adr j = false) : c_gv j z = max (-1099511627776) (min 1099511627776 z) := by
  unfold c_gv
  rw [if_neg hj, ha, if_neg Bool.false_ne_true]
theorem c_gv_a {j : Nat} {z : Int} (h : c_adr j = true) : c_gv j z = z := by
  have hj : j ≠ 40 := fun h9 => by
    rw [h9] at h
    exact absurd h (by decide)
  unfold c_gv
  rw [if_neg hj, if_pos h]
theorem c_gv_rng (j : Nat) (z : Int) (ha : c_adr j = false) : -1099511627776 ≤ c_gv j z ∧ c_gv j z ≤ 1099511627776 := by
  unfold c_gv
  rw [ha]
  split
  · omega
  · rw [if_neg Bool.false_ne_true]
    omega
theorem c_gv_40 (z : Int) : 0 ≤ c_gv 40 z ∧ c_gv 40 z ≤ 59 := by unfold c_gv; rw [if_pos rfl]; omega
theorem c_gv_id {j : Nat} {z : Int} (hj : j ≠ 40) (h1 : -1099511627776 ≤ z) (h2 : z ≤ 1099511627776) : c_gv j z = z := by unfold c_gv; rw [if_neg hj]; split <;> omega
theorem c_gv_id40 {z : Int} (h1 : 0 ≤ z) (h2 : z ≤ 59) : c_gv 40 z = z := by unfold c_gv; rw [if_pos rfl]; omega
/-- the range of a ghost number -/
def c_glo (e : cLin) : Int := if decide (e.1 = 40) && e.2.isEmpty then 0 else -1099511627776
def c_ghi (e : cLin) : Int := if decide (e.1 = 40) && e.2.isEmpty then 59 else 1099511627776
theorem c_gv_gr {e : cLin} {j : Nat} {r : Nat → Int} (h : c_ev r e = (j : Int)) (ha : c_adr j = false) (z : Int) : c_glo e ≤ c_gv j z ∧ c_gv j z ≤ c_ghi e := by
  unfold c_glo c_ghi
  by_cases hc : (decide (e.1 = 40) && e.2.isEmpty) = true
  · rw [if_pos hc, if_pos hc]
    rw [Bool.and_eq_true] at hc
    have h1 := of_decide_eq_true hc.1
    have h2 : e.2 = [] := List.isEmpty_iff.mp hc.2
    unfold c_ev at h
    rw [h2, h1] at h
    have h : (40 : Int) + 0 = (j : Int) := h
    have : j = 40 := by omega
    subst this
    exact c_gv_40 z
  · rw [if_neg hc, if_neg hc]
    exact c_gv_rng j z ha
def c_mem (r : Nat → Int) (w : cWld) (q : Nat × cLin × cAV) : Prop := match q.1 with
  | 0 => ∃ j : Nat, c_ev r q.2.1 = (j : Int) ∧ c_gv j (w.2.2 j) = c_ev r q.2.2.2
  | _ => ∃ (a : Nat) (e : va_E) (j : Nat) (v : Value), r q.1 = (a : Int) ∧ (a, e) ∈ w.2.1 ∧ c_ev r q.2.1 = (j : Int) ∧ c_rd e j = some v ∧ c_DV r q.2.2 v
def c_lr (r : Nat → Int) (q : Nat × cAV) (p : Nat × Value) : Prop := q.1 = p.1 ∧ c_DV r q.2 p.2
def c_tag (r : Nat → Int) (w : cWld) (q : Nat × Nat) : Prop := 0 ≤ r q.1 → ∃ a : Nat, r q.1 = (a : Int) ∧ c_in w a q.2
def c_satR (A : cSt) (r : Nat → Int) (lv : List (Nat × Value)) (st : List Value) (w : cWld) : Prop :=
  c_envOk r A.2.1 ∧ (∀ q ∈ A.2.2.1, c_flag q.2 (r q.1)) ∧ (∀ q ∈ A.2.2.2.1, c_tag r w q) ∧ (∀ f ∈ A.2.2.2.2.1, 0 ≤ c_ev r f) ∧
  c_F2 (c_lr r) A.2.2.2.2.2.1 lv ∧ c_F2 (c_DV r) A.2.2.2.2.2.2.1 st ∧ ∀ q ∈ A.2.2.2.2.2.2.2.1, c_mem r w q
def c_agr (n : Nat) (r r' : Nat → Int) : Prop := ∀ i, i < n → r' i = r i
def c_sat (n0 : Nat) (r0 : Nat → Int) (A : cSt) (lv : List (Nat × Value)) (st : List Value) (w : cWld) : Prop :=
  n0 ≤ A.1 ∧ ∃ r, c_agr n0 r0 r ∧ ∀ r', c_agr A.1 r r' → c_satR A r' lv st w
theorem c_agr_rf (n : Nat) (r : Nat → Int) : c_agr n r r := fun _ _ => rfl
theorem c_sat.at {n0 : Nat} {r0 : Nat → Int} {A : cSt} {lv : List (Nat × Value)} {st : List Value} {w : cWld} (h : c_sat n0 r0 A lv st w) : ∃ r, c_agr n0 r0 r ∧ c_satR A r lv st w := by
  obtain ⟨-, r, h1, h2⟩ := h
  exact ⟨r, h1, h2 r (c_agr_rf _ _)⟩
/-- no new symbol -/
theorem c_sat.to {n0 : Nat} {r0 : Nat → Int} {A B : cSt} {lv lv' : List (Nat × Value)} {st st' : List Value} {w w' : cWld} (h : c_sat n0 r0 A lv st w) (hn : B.1 = A.1)
    (k : ∀ r, c_agr n0 r0 r → c_satR A r lv st w → c_satR B r lv' st' w') : c_sat n0 r0 B lv' st' w' := by
  obtain ⟨h0, r, h1, h2⟩ := h
  refine ⟨by rw [hn]; exact h0, r, h1, fun r' hr' => ?_⟩
  rw [hn] at hr'
  exact k r' (fun i hi => (hr' i (Nat.lt_of_lt_of_le hi h0)).trans (h1 i hi)) (h2 r' hr')
/-- one new symbol, of value z -/
theorem c_sat.new {n0 : Nat} {r0 : Nat → Int} {A B : cSt} {lv lv' : List (Nat × Value)} {st st' : List Value} {w w' : cWld} (h : c_sat n0 r0 A lv st w) (z : Int) (hn : B.1 = A.1 + 1)
    (k : ∀ r, c_agr n0 r0 r → r A.1 = z → c_satR A r lv st w → c_satR B r lv' st' w') : c_sat n0 r0 B lv' st' w' := by
  obtain ⟨h0, r, h1, h2⟩ := h
  refine ⟨by rw [hn]; omega, fun i => if i = A.1 then z else r i, fun i hi => ?_, fun r' hr' => ?_⟩
  · show (if i = A.1 then z else r i) = r0 i
    rw [if_neg (by omega)]
    exact h1 i hi
  · rw [hn] at hr'
    have e1 : ∀ i, i < A.1 → r' i = r i := fun i hi => by
      have := hr' i (by omega)
      dsimp only at this
      rw [if_neg (by omega)] at this
      exact this
    have e2 : r' A.1 = z := by
      have := hr' A.1 (by omega)
      dsimp only at this
      rw [if_pos rfl] at this
      exact this
    exact k r' (fun i hi => (e1 i (Nat.lt_of_lt_of_le hi h0)).trans (h1 i hi)) e2 (h2 r' e1)
theorem c_ext_rf (E : cEff) (pros : List Nat) (w : cWld) : c_ext E pros w w := ⟨fun q hq => ⟨q.2, hq, Or.inl ⟨rfl, fun _ _ => rfl⟩⟩, fun _ _ => rfl⟩
