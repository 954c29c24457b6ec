/-! memory: loads and stores -/
theorem c_mget_ok {rs : Nat} {idx : cLin} {a : cAV} : ∀ {l : List (Nat × cLin × cAV)}, c_mget rs idx l = some a → ∃ q ∈ l, q.1 = rs ∧ (∀ r, c_ev r q.2.1 = c_ev r idx) ∧ q.2.2 = a
  | [], h => by cases h
  | q :: t, h => by
    unfold c_mget at h
    split at h
    · rename_i hb
      rw [Bool.and_eq_true] at hb
      cases h
      exact ⟨q, List.mem_cons_self, Nat.eq_of_beq_eq_true hb.1, c_eqL_ok hb.2, rfl⟩
    · obtain ⟨z, h1, h2⟩ := c_mget_ok h
      exact ⟨z, List.mem_cons_of_mem _ h1, h2⟩
theorem c_tagOf_ok {s t : Nat} : ∀ {l : List (Nat × Nat)}, c_tagOf s l = some t → (s, t) ∈ l
  | [], h => by cases h
  | q :: l, h => by
    unfold c_tagOf at h
    split at h
    · rename_i hb
      cases h
      rw [← Nat.eq_of_beq_eq_true hb]
      exact List.mem_cons_self
    · exact List.mem_cons_of_mem _ (c_tagOf_ok h)
theorem c_refS_ok {A : cSt} {a : cAV} {s : Nat} (h : c_refS A a = some s) : a = (2, c_sym s) ∧ (s, 3) ∈ A.2.2.1 := by
  unfold c_refS at h
  split at h
  · split at h
    · rename_i hb
      cases h
      exact ⟨rfl, c_mem3_ok hb⟩
    · cases h
  · cases h
theorem c_uniq {AA : Nat → Prop} {ws : va_W} (hD : va_D AA ws) {a : Nat} {e e' : va_E} (h1 : (a, e) ∈ ws) (h2 : (a, e') ∈ ws) : e = e' := by
  obtain ⟨i, hi⟩ := List.getElem?_of_mem h1
  obtain ⟨j, hj⟩ := List.getElem?_of_mem h2
  have := hD.1 i j _ _ hi hj rfl
  subst this
  rw [hi] at hj
  cases hj
  rfl
theorem c_form_rd {dA : Nat → ClassId} {h : cShp} {e : va_E} {j : Nat} (hf : c_form dA h e) (hj : j < h.2.1) : ∃ v, c_rd e j = some v := by
  unfold c_form at hf
  split at hf
  · obtain ⟨fs, rfl, hl⟩ := hf
    refine ⟨fs[j]'(by omega), ?_⟩
    show fs[j]? = _
    exact List.getElem?_eq_getElem _
  all_goals
    obtain ⟨f, rfl⟩ := hf
    exact ⟨_, if_pos hj⟩
theorem c_places_ok {A : cSt} {idx : cLin} {p : Int × Int × Nat} {r : Nat → Int} {j : Nat} (hv : c_envOk r A.2.1) (h : c_places A idx = some p) (hj : c_ev r idx = (j : Int)) : 0 ≤ p.1 ∧ 0 < p.2.1 ∧ ∃ m : Nat, m < p.2.2 ∧ (j : Int) = p.1 + p.2.1 * m := by
  unfold c_places at h
  split at h
  · rename_i h0
    split at h
    · rename_i hz
      cases h
      unfold c_ev at hj
      rw [h0] at hj
      have : idx.1 + 0 = (j : Int) := hj
      refine ⟨hz, by show (0 : Int) < 1; decide, 0, by show 0 < 1; decide, ?_⟩
      show (j : Int) = idx.1 + 1 * (0 : Nat)
      omega
    · cases h
  · rename_i q h0
    cases hl : c_look q.1 A.2.1 with
    | none => rw [hl] at h; cases h
    | some x =>
      rw [hl] at h
      dsimp only at h
      split at h
      · rename_i hc
        cases h
        have hx := c_look_ok hv hl
        unfold c_ev at hj
        rw [h0] at hj
        have hj : idx.1 + (q.2 * r q.1 + 0) = (j : Int) := hj
        refine ⟨hc.2.1, hc.1, (r q.1 - x.1).toNat, ?_, ?_⟩
        · show (r q.1 - x.1).toNat < (x.2 - x.1 + 1).toNat
          omega
        · show (j : Int) = idx.1 + q.2 * x.1 + q.2 * ((r q.1 - x.1).toNat : Int)
          rw [Int.toNat_of_nonneg (by omega), Int.mul_sub]
          omega
      · cases h
  · cases hl : c_rng A.2.1 idx with
    | none => rw [hl] at h; cases h
    | some x =>
      rw [hl] at h
      dsimp only at h
      split at h
      · rename_i hc
        cases h
        have hx := c_rng_ok hv hl
        refine ⟨hc.1, by show (0 : Int) < 1; decide, (c_ev r idx - x.1).toNat, ?_, ?_⟩
        · show (c_ev r idx - x.1).toNat < (x.2 - x.1 + 1).toNat
          omega
        · show (j : Int) = x.1 + 1 * ((c_ev r idx - x.1).toNat : Int)
          omega
      · cases h
theorem c_join2_ok {w : cWld} {a b x : cVT} {v : Value} (h : c_join2 a b = some x) : (c_okV w a v → c_okV w x v) ∧ (c_okV w b v → c_okV w x v) := by
  unfold c_join2 at h
  split at h
  · rename_i he
    have he := Nat.eq_of_beq_eq_true he
    split at h
    · rename_i hk
      have hk := Nat.le_of_ble_eq_true hk
      cases h
      constructor
      · intro ha
        rcases (show a.1 = 0 ∨ a.1 = 1 by omega) with e | e
        · unfold c_okV at ha ⊢
          rw [e] at ha ⊢
          obtain ⟨z, h1, h2, h3⟩ := ha
          exact ⟨z, h1, by show min a.2.1 b.2.1 ≤ _; omega, by show _ ≤ max a.2.2 b.2.2; omega⟩
        · unfold c_okV at ha ⊢
          rw [e] at ha ⊢
          obtain ⟨z, h1, h2, h3⟩ := ha
          exact ⟨z, h1, by show min a.2.1 b.2.1 ≤ _; omega, by show _ ≤ max a.2.2 b.2.2; omega⟩
      · intro ha
        rcases (show a.1 = 0 ∨ a.1 = 1 by omega) with e | e
        · unfold c_okV at ha ⊢
          rw [← he, e] at ha
          rw [e]
          obtain ⟨z, h1, h2, h3⟩ := ha
          exact ⟨z, h1, by show min a.2.1 b.2.1 ≤ _; omega, by show _ ≤ max a.2.2 b.2.2; omega⟩
        · unfold c_okV at ha ⊢
          rw [← he, e] at ha
          rw [e]
          obtain ⟨z, h1, h2, h3⟩ := ha
          exact ⟨z, h1, by show min a.2.1 b.2.1 ≤ _; omega, by show _ ≤ max a.2.2 b.2.2; omega⟩
    · split at h
      · rename_i hab
        have hab := of_decide_eq_true hab
        cases h
        exact ⟨id, fun q => by rw [hab]; exact q⟩
      · cases h
  · cases h
theorem c_joinI_ok {w : cWld} {v : Value} {f : Nat → cVT} {k : Int} : ∀ (n : Nat) (i : Int) (x : cVT), c_joinI f i k n = some x → ∀ m : Nat, m < n → c_okV w (f (i + k * m).toNat) v → c_okV w x v
  | 0, _, _, h, _, _, _ => by cases h
  | 1, i, x, h, m, hm, hv => by
    cases h
    have e : m = 0 := by omega
    subst e
    have : i + k * ((0 : Nat) : Int) = i := by simp
    rw [this] at hv
    exact hv
  | n + 2, i, x, h, m, hm, hv => by
    unfold c_joinI at h
    cases hb : c_joinI f (i + k) k (n + 1) with
    | none => rw [hb] at h; cases h
    | some b =>
      rw [hb] at h
      cases m with
      | zero =>
        have : i + k * ((0 : Nat) : Int) = i := by simp
        rw [this] at hv
        exact (c_join2_ok h).1 hv
      | succ m =>
        refine (c_join2_ok h).2 (c_joinI_ok (n + 1) (i + k) b hb m (by omega) ?_)
        have : i + k * ((m + 1 : Nat) : Int) = i + k + k * (m : Int) := by
          rw [show ((m + 1 : Nat) : Int) = (m : Int) + 1 from rfl, Int.mul_add]; omega
        rw [this] at hv
        exact hv
theorem c_typL_ok {K : cTab} {A : cSt} {t : Nat} {idx : cLin} {vt : cVT} {w : cWld} {v : Value} {r : Nat → Int} {j : Nat} (hv : c_envOk r A.2.1) (h : c_typL K A t idx = some vt) (hj : c_ev r idx = (j : Int)) (ho : c_okV w (c_ty K t j) v) : c_okV w vt v := by
  unfold c_typL at h
  unfold c_ty at ho
  cases hu : K.2.2.2.1 t with
  | some x =>
    rw [hu] at h ho
    cases h
    exact ho
  | none =>
    rw [hu] at h ho
    dsimp only at h ho
    cases hp : c_places A idx with
    | none => rw [hp] at h; cases h
    | some p =>
      rw [hp] at h
      obtain ⟨h0, h1, m, hm, he⟩ := c_places_ok hv hp hj
      refine c_joinI_ok p.2.2 p.1 vt h m hm ?_
      rw [← he]
      exact ho
theorem c_allI_ok {f : Int → Bool} {k : Int} : ∀ (n : Nat) (i : Int), c_allI f i k n = true → ∀ m : Nat, m < n → f (i + k * m) = true
  | 0, _, _, _, hm => by omega
  | n + 1, i, h, m, hm => by
    unfold c_allI at h
    rw [Bool.and_eq_true] at h
    cases m with
    | zero =>
      have : i + k * ((0 : Nat) : Int) = i := by simp
      rw [this]
      exact h.1
    | succ m =>
      have : i + k * ((m + 1 : Nat) : Int) = i + k + k * (m : Int) := by
        rw [show ((m + 1 : Nat) : Int) = (m : Int) + 1 from rfl, Int.mul_add]; omega
      rw [this]
      exact c_allI_ok n (i + k) h.2 m (by omega)
theorem c_leT_ok {w : cWld} {a b : cVT} {v : Value} (h : c_leT a b = true) (hv : c_okV w a v) : c_okV w b v := by
  unfold c_leT at h
  rw [Bool.or_eq_true] at h
  rcases h with h | h
  · rw [← of_decide_eq_true h]; exact hv
  · rw [Bool.and_eq_true, Bool.and_eq_true, Bool.and_eq_true] at h
    have e := Nat.eq_of_beq_eq_true h.1.1.1
    have hk := Nat.le_of_ble_eq_true h.1.1.2
    have h1 := of_decide_eq_true h.1.2
    have h2 := of_decide_eq_true h.2
    unfold c_okV at hv ⊢
    rcases (show a.1 = 0 ∨ a.1 = 1 by omega) with q | q
    · rw [← e, q]
      rw [q] at hv
      obtain ⟨z, g1, g2, g3⟩ := hv
      exact ⟨z, g1, by omega, by omega⟩
    · rw [← e, q]
      rw [q] at hv
      obtain ⟨z, g1, g2, g3⟩ := hv
      exact ⟨z, g1, by omega, by omega⟩
section CM
variable {n0 : Nat} {r0 : Nat → Int} {A B : cSt} {lv : List (Nat × Value)} {st ss : List Value} {w : cWld} {S : List cAV} {K : cTab} {dA : Nat → ClassId} {AA : Nat → Prop}
/-- the reference's cell -/
theorem c_sat.cell (hs : c_sat n0 r0 A lv st w) {s t : Nat} (h3 : (s, 3) ∈ A.2.2.1) (ht : (s, t) ∈ A.2.2.2.1) : ∃ (x : Nat) (e : va_E), (x, e) ∈ w.2.1 ∧ w.1 x = t ∧ ∃ r, c_satR A r lv st w ∧ r s = (x : Int) := by
  obtain ⟨r, -, hr⟩ := hs.at
  obtain ⟨x, h1, e, h2, h3⟩ := hr.2.2.1 _ ht (hr.2.1 _ h3)
  exact ⟨x, e, h2, h3, r, hr, h1⟩
def c_impR (A : cSt) (t rs : Nat) (idx : cLin) (vt : cVT) (l : List cImp) : Prop := ∃ i ∈ l, i.1 = t ∧ i.2.2.2 = vt ∧ (∀ r, c_ev r idx = (i.2.2.1 : Int)) ∧ ∃ a : cAV, c_mget rs (c_con (i.2.1 : Int)) A.2.2.2.2.2.2.2.1 = some a ∧ a.1 = 0 ∧ c_nz A a.2 = true
theorem c_impT_ok {t rs : Nat} {idx : cLin} {vt : cVT} : ∀ {l : List cImp}, c_impT A t rs idx l = some vt → c_impR A t rs idx vt l
  | [], h => by cases h
  | i :: l, h => by
    unfold c_impT at h
    have go : c_impT A t rs idx l = some vt → c_impR A t rs idx vt (i :: l) := fun h => by
      obtain ⟨z, h1, h2⟩ := c_impT_ok h
      exact ⟨z, List.mem_cons_of_mem _ h1, h2⟩
    split at h
    · rename_i hb
      rw [Bool.and_eq_true] at hb
      split at h
      · rename_i e hm
        split at h
        · rename_i hz
          cases h
          refine ⟨i, List.mem_cons_self, Nat.eq_of_beq_eq_true hb.1, rfl, fun r => ?_, _, hm, rfl, hz⟩
          have := c_eqL_ok hb.2 r
          rw [c_ev_con] at this
          exact this
        · exact go h
      · exact go h
    · exact go h
theorem c_freshM_ok (hs : c_sat n0 r0 A lv st w) {vt : cVT} {rs : Nat} {idx : cLin} {x : Nat} {e : va_E} {j : Nat} {v : Value} (h0 : rs ≠ 0) (hr : ∀ r, c_agr n0 r0 r → c_satR A r lv st w → r rs = (x : Int) ∧ c_ev r idx = (j : Int)) (he : (x, e) ∈ w.2.1) (hv : c_rd e j = some v) (ho : c_okV w vt v) (kS : ∀ r, c_satR A r lv st w → c_F2 (c_DV r) S ss)
    (h : c_freshM A vt rs idx S = some B) : c_sat n0 r0 B lv (v :: ss) w ∧ c_cu B = c_cu A ∧ c_su B = c_su A := by
  have hmem : ∀ (r : Nat → Int) (a : cAV), c_agr n0 r0 r → c_satR A r lv st w → c_DV r a v → c_mem r w (rs, idx, a) := by
    intro r a h9 h1 h2
    unfold c_mem
    split
    · rename_i hz; exact absurd hz h0
    · exact ⟨x, e, j, v, (hr r h9 h1).1, he, (hr r h9 h1).2, hv, h2⟩
  unfold c_freshM at h
  unfold c_okV at ho
  split at h
  · rename_i hk
    rw [hk] at ho
    obtain ⟨z, rfl, h1, h2⟩ := ho
    cases h
    refine ⟨hs.new z.toInt rfl fun r h9 hz h => ⟨c_envOk_cons (by rw [hz]; exact h1) (by rw [hz]; exact h2) h.1, h.2.1, h.2.2.1, h.2.2.2.1, h.2.2.2.2.1, ⟨c_DV_sym0 hz, kS r h⟩, fun q hq => ?_⟩, rfl, rfl⟩
    rcases List.mem_cons.mp hq with rfl | hq
    · exact hmem r _ h9 h (c_DV_sym0 hz)
    · exact h.2.2.2.2.2.2 q hq
  · rename_i hk
    rw [hk] at ho
    obtain ⟨z, rfl, h1, h2⟩ := ho
    cases h
    refine ⟨hs.new z.toInt rfl fun r h9 hz h => ⟨c_envOk_cons (by rw [hz]; exact h1) (by rw [hz]; exact h2) h.1, h.2.1, h.2.2.1, h.2.2.2.1, h.2.2.2.2.1, ⟨c_DV_sym1 hz, kS r h⟩, fun q hq => ?_⟩, rfl, rfl⟩
    rcases List.mem_cons.mp hq with rfl | hq
    · exact hmem r _ h9 h (c_DV_sym1 hz)
    · exact h.2.2.2.2.2.2 q hq
  · rename_i hk
    rw [hk] at ho
    obtain ⟨z, rfl, h1⟩ := ho
    cases h
    refine ⟨hs.new z.toInt rfl fun r h9 hz h => ⟨c_envOk_cons (by rw [hz]; exact (c_i64 z).1) (by rw [hz]; exact (c_i64 z).2) h.1, fun q hq => ?_, h.2.2.1, h.2.2.2.1, h.2.2.2.2.1, ⟨c_DV_sym1 hz, kS r h⟩, fun q hq => ?_⟩, rfl, rfl⟩
    · rcases List.mem_cons.mp hq with rfl | hq
      · show c_flag 2 (r A.1)
        rw [hz]; exact h1
      · exact h.2.1 q hq
    · rcases List.mem_cons.mp hq with rfl | hq
      · exact hmem r _ h9 h (c_DV_sym1 hz)
      · exact h.2.2.2.2.2.2 q hq
  · rename_i hk
    rw [hk] at ho
    obtain ⟨z, rfl, h1⟩ := ho
    cases h
    have dv : ∀ r : Nat → Int, r A.1 = (z : Int) → c_DV r (2, c_sym A.1) (.ref z) := fun r hz => Or.inr ⟨z, rfl, by rw [c_ev_sym]; exact hz⟩
    refine ⟨hs.new (z : Int) rfl fun r h9 hz h => ⟨h.1, fun q hq => ?_, fun q hq => ?_, h.2.2.2.1, h.2.2.2.2.1, ⟨dv r hz, kS r h⟩, fun q hq => ?_⟩, rfl, rfl⟩
    · rcases List.mem_cons.mp hq with rfl | hq
      · show (0 : Int) ≤ r A.1
        rw [hz]; omega
      · exact h.2.1 q hq
    · rcases List.mem_cons.mp hq with rfl | hq
      · exact fun _ => ⟨z, hz, h1⟩
      · exact h.2.2.1 q hq
    · rcases List.mem_cons.mp hq with rfl | hq
      · exact hmem r _ h9 h (dv r hz)
      · exact h.2.2.2.2.2.2 q hq
  · rename_i hk
    rw [hk] at ho
    cases h
    rcases ho with rfl | ⟨z, rfl, h1⟩
    · have dv : ∀ r : Nat → Int, r A.1 = -1 → c_DV r (2, c_sym A.1) .null := fun r hz => Or.inl ⟨rfl, by rw [c_ev_sym]; exact hz⟩
      refine ⟨hs.new (-1) rfl fun r h9 hz h => ⟨h.1, h.2.1, fun q hq => ?_, h.2.2.2.1, h.2.2.2.2.1, ⟨dv r hz, kS r h⟩, fun q hq => ?_⟩, rfl, rfl⟩
      · rcases List.mem_cons.mp hq with rfl | hq
        · intro h5
          have h5 : (0 : Int) ≤ r A.1 := h5
          rw [hz] at h5
          exact absurd h5 (by decide)
        · exact h.2.2.1 q hq
      · rcases List.mem_cons.mp hq with rfl | hq
        · exact hmem r _ h9 h (dv r hz)
        · exact h.2.2.2.2.2.2 q hq
    · have dv : ∀ r : Nat → Int, r A.1 = (z : Int) → c_DV r (2, c_sym A.1) (.ref z) := fun r hz => Or.inr ⟨z, rfl, by rw [c_ev_sym]; exact hz⟩
      refine ⟨hs.new (z : Int) rfl fun r h9 hz h => ⟨h.1, h.2.1, fun q hq => ?_, h.2.2.2.1, h.2.2.2.2.1, ⟨dv r hz, kS r h⟩, fun q hq => ?_⟩, rfl, rfl⟩
      · rcases List.mem_cons.mp hq with rfl | hq
        · exact fun _ => ⟨z, hz, h1⟩
        · exact h.2.2.1 q hq
      · rcases List.mem_cons.mp hq with rfl | hq
        · exact hmem r _ h9 h (dv r hz)
        · exact h.2.2.2.2.2.2 q hq
  · cases h
/-- a known place, read -/
theorem c_mget_val (hD : va_D AA w.2.1) {rs : Nat} {idx : cLin} {a : cAV} {x : Nat} {e : va_E} {j : Nat} {v : Value} {r : Nat → Int} (hr : c_satR A r lv st w) (h0 : rs ≠ 0) (h1 : r rs = (x : Int)) (h2 : c_ev r idx = (j : Int)) (he : (x, e) ∈ w.2.1) (hv : c_rd e j = some v) (h : c_mget rs idx A.2.2.2.2.2.2.2.1 = some a) : c_DV r a v := by
  obtain ⟨q, hq, e1, e2, e3⟩ := c_mget_ok h
  have hm := hr.2.2.2.2.2.2 q hq
  unfold c_mem at hm
  split at hm
  · rename_i hz; rw [e1] at hz; exact absurd hz h0
  · obtain ⟨x', e', j', v', g1, g2, g3, g4, g5⟩ := hm
    rw [e1, h1] at g1
    rw [e2 r, h2] at g3
    have hx : x = x' := by omega
    have hj : j = j' := by omega
    subst hx; subst hj
    have := c_uniq hD he g2
    subst this
    rw [hv] at g4
    cases g4
    rw [e3] at g5
    exact g5
theorem c_load_ok (hs : c_sat n0 r0 A lv st w) (hT : c_TW K dA w) (hD : va_D AA w.2.1) {rs : Nat} {idx : cLin} {x : Nat} {e : va_E} {j : Nat} {v : Value} (h0 : rs ≠ 0) (hr : ∀ r, c_agr n0 r0 r → c_satR A r lv st w → r rs = (x : Int) ∧ c_ev r idx = (j : Int)) (he : (x, e) ∈ w.2.1) (hv : c_rd e j = some v) (kS : ∀ r, c_satR A r lv st w → c_F2 (c_DV r) S ss)
    (h : c_load K A rs idx S = some B) : c_sat n0 r0 B lv (v :: ss) w ∧ c_cu B = c_cu A ∧ c_su B = c_su A := by
  unfold c_load at h
  cases hm : c_mget rs idx A.2.2.2.2.2.2.2.1 with
  | some a =>
    rw [hm] at h
    cases h
    exact ⟨hs.to rfl fun r h9 h1 => ⟨h1.1, h1.2.1, h1.2.2.1, h1.2.2.2.1, h1.2.2.2.2.1, ⟨c_mget_val hD h1 h0 (hr r h9 h1).1 (hr r h9 h1).2 he hv hm, kS r h1⟩, h1.2.2.2.2.2.2⟩, rfl, rfl⟩
  | none =>
    rw [hm] at h
    dsimp only at h
    cases ht : c_tagOf rs A.2.2.2.1 with
    | none => rw [ht] at h; cases h
    | some t =>
      rw [ht] at h
      dsimp only at h
      obtain ⟨r, hag, hR⟩ := hs.at
      obtain ⟨q1, q2⟩ := hr r hag hR
      obtain ⟨x', g1, e', g2, g3⟩ := hR.2.2.1 _ (c_tagOf_ok ht) (by show (0 : Int) ≤ r rs; rw [q1]; omega)
      have hx : x = x' := by
        have : r rs = (x' : Int) := g1
        omega
      subst hx
      have := c_uniq hD he g2
      subst this
      have g3 : w.1 x = t := g3
      obtain ⟨-, tv, ti, -⟩ := hT _ he
      dsimp only at tv ti
      rw [g3] at tv ti
      split at h
      · cases h
      · split at h
        · cases hi : c_impT A t rs idx K.2.2.1 with
          | some vt =>
            rw [hi] at h
            obtain ⟨i, i1, i2, i3, i4, a, i5, i6, i7⟩ := c_impT_ok hi
            have ej : j = i.2.2.1 := by have := i4 r; omega
            have rdv : ∃ v1, c_rd e i.2.1 = some v1 ∧ c_DV r a v1 := by
              obtain ⟨q, hq, e1, e2, e3⟩ := c_mget_ok i5
              have hm := hR.2.2.2.2.2.2 q hq
              unfold c_mem at hm
              split at hm
              · rename_i hz; rw [e1] at hz; exact absurd hz h0
              · obtain ⟨x', e', j', v', f1, f2, f3, f4, f5⟩ := hm
                rw [e1, q1] at f1
                rw [e2 r, c_ev_con] at f3
                have hx : x = x' := by omega
                have hj : i.2.1 = j' := by omega
                subst hx
                have := c_uniq hD he f2
                subst this
                rw [← hj] at f4
                rw [e3] at f5
                exact ⟨v', f4, f5⟩
            obtain ⟨v1, r1, r2⟩ := rdv
            obtain ⟨z, rfl, hz⟩ := c_DVi r2 i6
            have hnz := c_nz_ok hR i7
            have hv' : c_rd e i.2.2.1 = some v := by rw [← ej]; exact hv
            have ho := ti i i1 i2 z r1 (by rw [Ne, c_eq0]; omega) v hv'
            rw [i3] at ho
            exact c_freshM_ok hs h0 hr he hv ho kS h
          | none =>
            rw [hi] at h
            dsimp only at h
            cases hy : c_typL K A t idx with
            | none => rw [hy] at h; cases h
            | some vt =>
              rw [hy] at h
              exact c_freshM_ok hs h0 hr he hv (c_typL_ok hR.1 hy q2 (tv j v hv)) kS h
        · cases h
end CM
