/-! memory: stores -/
theorem c_in_mono_okV {w w' : cWld} (hin : ∀ a t, c_in w a t → c_in w' a t) {vt : cVT} {v : Value} (h : c_okV w vt v) : c_okV w' vt v := by
  unfold c_okV at h ⊢
  split
  · rename_i e; rw [e] at h; exact h
  · rename_i e; rw [e] at h; exact h
  · rename_i e; rw [e] at h; exact h
  · rename_i e
    rw [e] at h
    obtain ⟨a, h1, h2⟩ := h
    exact ⟨a, h1, hin _ _ h2⟩
  · rename_i e
    rw [e] at h
    rcases h with h | ⟨a, h1, h2⟩
    · exact Or.inl h
    · exact Or.inr ⟨a, h1, hin _ _ h2⟩
  · trivial
theorem c_DV_inj {r : Nat → Int} {a b : cAV} {v u : Value} (hk : a.1 ≤ 2) (he : b.1 = a.1) (hv : c_ev r b.2 = c_ev r a.2) (ha : c_DV r a v) (hb : c_DV r b u) : u = v := by
  rcases (show a.1 = 0 ∨ a.1 = 1 ∨ a.1 = 2 by omega) with h | h | h
  · obtain ⟨x, rfl, h1⟩ := c_DVi ha h
    obtain ⟨y, rfl, h2⟩ := c_DVi hb (by omega)
    congr 1
    exact Int32.toInt_inj.mp (by omega)
  · obtain ⟨x, rfl, h1⟩ := c_DVl ha h
    obtain ⟨y, rfl, h2⟩ := c_DVl hb (by omega)
    congr 1
    exact Int64.toInt_inj.mp (by omega)
  · rcases c_DVr ha h with ⟨rfl, h1⟩ | ⟨x, rfl, h1⟩ <;> rcases c_DVr hb (by omega) with ⟨rfl, h2⟩ | ⟨y, rfl, h2⟩
    · rfl
    · omega
    · omega
    · have hxy : y = x := by omega
      rw [hxy]
section CN
variable {n0 : Nat} {r0 : Nat → Int} {A B : cSt} {lv : List (Nat × Value)} {st ss : List Value} {w w0 : cWld} {S : List cAV} {K : cTab} {dA : Nat → ClassId} {AA : Nat → Prop} {E : cEff} {pros : List Nat}
theorem c_fits_ok {r : Nat → Int} {a : cAV} {vt : cVT} {v : Value} (hr : c_satR A r lv st w) (hd : c_DV r a v) (h : c_fits A a vt = true) : c_okV w vt v := by
  unfold c_fits at h
  unfold c_okV
  split at h
  · rename_i e
    rw [e]
    rw [Bool.and_eq_true, Bool.or_eq_true] at h
    obtain ⟨x, rfl, hx⟩ := c_DVi hd (Nat.eq_of_beq_eq_true h.1)
    refine ⟨x, rfl, ?_⟩
    rcases h.2 with h | h
    · have := c_in2_ok hr h
      omega
    · rw [Bool.and_eq_true] at h
      have h1 := c_ent_ok hr.1 hr.2.2.2.1 _ _ h.1
      have h2 := c_ent_ok hr.1 hr.2.2.2.1 _ _ h.2
      rw [c_ev_addc] at h1 h2
      rw [c_ev_mul] at h2
      omega
  · rename_i e
    rw [e]
    rw [Bool.and_eq_true] at h
    obtain ⟨x, rfl, hx⟩ := c_DVl hd (Nat.eq_of_beq_eq_true h.1)
    have := c_in2_ok hr h.2
    exact ⟨x, rfl, by omega, by omega⟩
  · rename_i e
    rw [e]
    rw [Bool.and_eq_true] at h
    obtain ⟨x, rfl, hx⟩ := c_DVl hd (Nat.eq_of_beq_eq_true h.1)
    have := c_n32_ok hr h.2
    exact ⟨x, rfl, by rw [hx]; exact this⟩
  · rename_i e
    rw [e]
    split at h
    · rename_i s hs
      split at h
      · rename_i t ht
        have ht2 := of_decide_eq_true h
        obtain ⟨rfl, h3⟩ := c_refS_ok hs
        have hp : (0 : Int) ≤ r s := hr.2.1 _ h3
        obtain ⟨x, g1, g2⟩ := hr.2.2.1 _ (c_tagOf_ok ht) hp
        have g1 : r s = (x : Int) := g1
        rcases c_DVr hd rfl with ⟨-, h2⟩ | ⟨y, rfl, h2⟩
        · rw [show c_ev r (2, c_sym s).2 = r s from c_ev_sym r s] at h2
          omega
        · rw [show c_ev r (2, c_sym s).2 = r s from c_ev_sym r s] at h2
          have : y = x := by omega
          subst this
          refine ⟨y, rfl, ?_⟩
          rw [ht2]; exact g2
      · cases h
    · cases h
  · rename_i e
    rw [e]
    split at h
    · rename_i s
      split at h
      · rename_i t ht
        have ht2 := of_decide_eq_true h
        have ev : c_ev r (2, ((0 : Int), [(s, (1 : Int))])).2 = r s := c_ev_sym r s
        rcases c_DVr hd rfl with ⟨rfl, h2⟩ | ⟨y, rfl, h2⟩
        · exact Or.inl rfl
        · rw [ev] at h2
          obtain ⟨x, g1, g2⟩ := hr.2.2.1 _ (c_tagOf_ok ht) (by show (0 : Int) ≤ r s; omega)
          have g1 : r s = (x : Int) := g1
          have : y = x := by omega
          subst this
          refine Or.inr ⟨y, rfl, ?_⟩
          rw [ht2]; exact g2
      · cases h
    · rcases c_DVr hd rfl with ⟨rfl, h2⟩ | ⟨y, rfl, h2⟩
      · exact Or.inl rfl
      · have : c_ev r ((2 : Nat), ((-1 : Int), ([] : List (Nat × Int)))).2 = -1 + 0 := rfl
        omega
    · cases h
  · rename_i h0 h1 h2 h3 h4
    split
    · exact absurd (by assumption) h0
    · exact absurd (by assumption) h1
    · exact absurd (by assumption) h2
    · exact absurd (by assumption) h3
    · exact absurd (by assumption) h4
    · trivial
/-- e' is e with v at place j -/
def c_wr (e e' : va_E) (j : Nat) (v : Value) : Prop := ∀ i, c_rd e' i = if i = j then some v else c_rd e i
theorem c_set_in {ws : va_W} (hD : va_D AA ws) {q0 x : Nat} {e e' : va_E} (h0 : ws[q0]? = some (x, e)) {p : Nat × va_E} (hp : p ∈ ws.set q0 (x, e')) : p = (x, e') ∨ (p ∈ ws ∧ p.1 ≠ x) := by
  obtain ⟨i, hi⟩ := List.getElem?_of_mem hp
  rw [List.getElem?_set] at hi
  split at hi
  · split at hi
    · left; cases hi; rfl
    · cases hi
  · rename_i hne
    right
    exact ⟨List.mem_of_getElem? hi, fun hx => hne (hD.1 q0 i _ _ h0 hi hx.symm)⟩
theorem c_set_new {ws : va_W} {q0 x : Nat} {e e' : va_E} (h0 : ws[q0]? = some (x, e)) : (x, e') ∈ ws.set q0 (x, e') := by
  apply List.mem_of_getElem? (i := q0)
  rw [List.getElem?_set, if_pos rfl, if_pos (List.getElem?_eq_some_iff.mp h0).1]
theorem c_set_old {ws : va_W} {q0 x : Nat} {e e' : va_E} (h0 : ws[q0]? = some (x, e)) {p : Nat × va_E} (hp : p ∈ ws) (hx : p.1 ≠ x) : p ∈ ws.set q0 (x, e') := by
  obtain ⟨i, hi⟩ := List.getElem?_of_mem hp
  apply List.mem_of_getElem? (i := i)
  rw [List.getElem?_set, if_neg, hi]
  rintro rfl
  rw [h0] at hi
  cases hi
  exact hx rfl
theorem c_mem_of_at {ws : va_W} {q0 : Nat} {p : Nat × va_E} (h : ws[q0]? = some p) : p ∈ ws := List.mem_of_getElem? h
theorem c_rng_con (v : cEnv) {idx : cLin} (h : idx.2 = []) : c_rng v idx = some (idx.1, idx.1) := by
  unfold c_rng
  rw [h]
  rfl
theorem c_in2_con {idx : cLin} (h : idx.2 = []) {k : Int} (hk : idx.1 = k) : c_in2 A k k idx = true := by
  unfold c_in2
  rw [c_rng_con _ h]
  dsimp only
  rw [Bool.or_eq_true]
  left
  rw [Bool.and_eq_true]
  exact ⟨decide_eq_true (by omega), decide_eq_true (by omega)⟩
theorem c_ev_nil {idx : cLin} (h : idx.2 = []) (r : Nat → Int) : c_ev r idx = idx.1 := by
  unfold c_ev
  rw [h]
  show idx.1 + 0 = idx.1
  omega
theorem c_effIn_ok {t : Nat} {lo hi : Int} {j : Nat} (h : c_effIn E t lo hi = true) (h1 : lo ≤ (j : Int)) (h2 : (j : Int) ≤ hi) : c_hits E t j := by
  unfold c_effIn at h
  obtain ⟨x, hx, h⟩ := List.any_eq_true.mp h
  rw [Bool.and_eq_true, Bool.and_eq_true] at h
  have a1 := Nat.eq_of_beq_eq_true h.1.1
  have a2 := of_decide_eq_true h.1.2
  have a3 := of_decide_eq_true h.2
  exact ⟨x, hx, a1, by omega, by omega⟩
theorem c_off_ok {t : Nat} {lo hi : Int} {j : Nat} (h : c_off E t lo hi = true) (h1 : lo ≤ (j : Int)) (h2 : (j : Int) ≤ hi) : ¬ c_hits E t j := by
  rintro ⟨x, hx, a1, a2, a3⟩
  have := List.all_eq_true.mp h x hx
  rw [Bool.or_eq_true, Bool.or_eq_true] at this
  rcases this with (h | h) | h
  · rw [a1] at h
    have : Nat.beq t t = true := Nat.beq_refl t
    rw [this] at h
    cases h
  · have := of_decide_eq_true h; omega
  · have := of_decide_eq_true h; omega
theorem c_impsOk_ok {t rs : Nat} {idx : cLin} {a : cAV} : ∀ {l : List cImp}, c_impsOk A t rs idx a l = true → ∀ i ∈ l, i.1 = t → idx.2 = [] ∧ i.2.1 ≠ i.2.2.1 ∧ (idx.1 = (i.2.1 : Int) → (a.1 = 0 ∧ c_in2 A 0 0 a.2 = true) ∨ ∃ b, c_mget rs (c_con (i.2.2.1 : Int)) A.2.2.2.2.2.2.2.1 = some b ∧ c_fits A b i.2.2.2 = true) ∧
    (idx.1 = (i.2.2.1 : Int) → c_fits A a i.2.2.2 = true ∨ ∃ e, c_mget rs (c_con (i.2.1 : Int)) A.2.2.2.2.2.2.2.1 = some (0, e) ∧ c_in2 A 0 0 e = true)
  | [], _, _, hi, _ => by cases hi
  | z :: l, h, i, hi, ht => by
    unfold c_impsOk at h
    rw [Bool.and_eq_true] at h
    rcases List.mem_cons.mp hi with rfl | hi
    · have h := h.1
      rw [Bool.or_eq_true] at h
      rcases h with h | h
      · rw [ht] at h
        have : Nat.beq t t = true := Nat.beq_refl t
        rw [this] at h
        cases h
      · rw [Bool.and_eq_true, Bool.and_eq_true, Bool.and_eq_true] at h
        obtain ⟨⟨⟨h1, h2⟩, h3⟩, h4⟩ := h
        have h4 : idx.2 = [] := List.isEmpty_iff.mp h4
        refine ⟨h4, ?_, ?_, ?_⟩
        · intro q
          rw [q] at h3
          have : Nat.beq i.2.2.1 i.2.2.1 = true := Nat.beq_refl _
          rw [this] at h3
          cases h3
        · intro q
          rw [Bool.or_eq_true, Bool.or_eq_true] at h1
          rcases h1 with (h1 | h1) | h1
          · rw [c_in2_con h4 q] at h1
            cases h1
          · rw [Bool.and_eq_true] at h1
            exact Or.inl ⟨Nat.eq_of_beq_eq_true h1.1, h1.2⟩
          · split at h1
            · rename_i b hb
              exact Or.inr ⟨b, hb, h1⟩
            · cases h1
        · intro q
          rw [Bool.or_eq_true, Bool.or_eq_true] at h2
          rcases h2 with (h2 | h2) | h2
          · rw [c_in2_con h4 q] at h2
            cases h2
          · exact Or.inl h2
          · split at h2
            · rename_i e he
              exact Or.inr ⟨e, he, h2⟩
            · cases h2
    · exact c_impsOk_ok h.2 i hi ht
theorem c_copied_ok {t : Nat} {idx : cLin} {a : cAV} {p : Int × Int × Nat} : ∀ {l : List (Nat × cLin × cAV)}, c_copied K A t idx a p l = true → ∃ q ∈ l, q.2.2.1 = a.1 ∧ a.1 ≤ 2 ∧ (∀ r, c_ev r q.2.2.2 = c_ev r a.2) ∧ q.1 ≠ 0 ∧ c_tagOf q.1 A.2.2.2.1 = some t ∧ ∃ d : Int, (∀ r, c_ev r q.2.1 = c_ev r idx + d) ∧ c_allI (fun j => decide (0 ≤ j + d) && c_leT (c_ty K t (j + d).toNat) (c_ty K t j.toNat)) p.1 p.2.1 p.2.2 = true
  | [], h => by cases h
  | q :: l, h => by
    unfold c_copied at h
    rw [Bool.or_eq_true] at h
    rcases h with h | h
    · rw [Bool.and_eq_true, Bool.and_eq_true, Bool.and_eq_true, Bool.and_eq_true, Bool.and_eq_true] at h
      obtain ⟨⟨⟨⟨⟨h1, h2⟩, h3⟩, h4⟩, h5⟩, h6⟩ := h
      split at h6
      · rename_i t' ht
        rw [Bool.and_eq_true] at h6
        have e := Nat.eq_of_beq_eq_true h6.1
        subst e
        refine ⟨q, List.mem_cons_self, Nat.eq_of_beq_eq_true h1, Nat.le_of_ble_eq_true h2, c_eqL_ok h3, ?_, ht, (c_sub q.2.1 idx).1, fun r => ?_, h6.2⟩
        · intro z
          rw [z] at h4
          cases h4
        · have := c_ev_nil (List.isEmpty_iff.mp h5) r
          rw [c_ev_sub] at this
          omega
      · cases h6
    · obtain ⟨z, hz, g⟩ := c_copied_ok h
      exact ⟨z, List.mem_cons_of_mem _ hz, g⟩
theorem c_keepM_ok {t : Nat} {lo hi : Int} {q : Nat × cLin × cAV} {r : Nat → Int} (hv : c_envOk r A.2.1) (h : c_keepM A t lo hi q = true) (h0 : q.1 ≠ 0) : ∃ t', c_tagOf q.1 A.2.2.2.1 = some t' ∧ (t' ≠ t ∨ c_ev r q.2.1 < lo ∨ hi < c_ev r q.2.1) := by
  unfold c_keepM at h
  split at h
  · rename_i e; exact absurd e h0
  · split at h
    · cases h
    · rename_i t' ht
      refine ⟨t', ht, ?_⟩
      rw [Bool.or_eq_true] at h
      rcases h with h | h
      · left
        rintro rfl
        have : Nat.beq t' t' = true := Nat.beq_refl _
        rw [this] at h
        cases h
      · right
        split at h
        · rename_i x hx
          have := c_rng_ok hv hx
          rw [Bool.or_eq_true] at h
          rcases h with h | h
          · have := of_decide_eq_true h; left; omega
          · have := of_decide_eq_true h; right; omega
        · cases h
/-- the word on a cell doesn't look at what isn't protected -/
def c_Jfr (K : cTab) : Prop := ∀ (t a : Nat) (f f' : Nat → Option Value) (g : Nat → Int), (∀ i, c_hits K.2.2.2.2.1 t i → f' i = f i) → K.2.2.2.2.2 t a f g → K.2.2.2.2.2 t a f' g
theorem c_store_ok (hJ : c_Jfr K) (hs : c_sat n0 r0 A lv st w) (hT : c_TW K dA w) (hD : va_D AA w.2.1) (hE : c_ext E pros w0 w) {rs : Nat} {idx : cLin} {a : cAV} {x q0 : Nat} {e e' : va_E} {j : Nat} {v : Value} (h0 : rs ≠ 0) (hr : ∀ r, c_agr n0 r0 r → c_satR A r lv st w → r rs = (x : Int) ∧ c_ev r idx = (j : Int) ∧ c_DV r a v)
    (he : w.2.1[q0]? = some (x, e)) (hw : c_wr e e' j v) (hf : ∀ h, c_form dA h e → c_form dA h e') (h : c_store K E A rs idx a = some B) :
    c_sat n0 r0 B lv st (w.1, w.2.1.set q0 (x, e'), w.2.2) ∧ c_TW K dA (w.1, w.2.1.set q0 (x, e'), w.2.2) ∧ c_ext E pros w0 (w.1, w.2.1.set q0 (x, e'), w.2.2) ∧ c_cu B = c_cu A ∧ c_su B = c_su A := by
  have hm := c_mem_of_at he
  unfold c_store at h
  split at h
  · rename_i t p y ht hp hy
    split at h
    · rename_i hc
      rw [Bool.and_eq_true, Bool.and_eq_true, Bool.and_eq_true, Bool.and_eq_true, Bool.and_eq_true] at hc
      obtain ⟨⟨⟨⟨⟨c0, c1⟩, c2⟩, c3⟩, c4⟩, c5⟩ := hc
      cases h
      obtain ⟨r, hag, hR⟩ := hs.at
      obtain ⟨q1, q2, q3⟩ := hr r hag hR
      obtain ⟨x', g1, e1, g2, g3⟩ := hR.2.2.1 _ (c_tagOf_ok ht) (by show (0 : Int) ≤ r rs; rw [q1]; omega)
      have hx : x = x' := by
        have : r rs = (x' : Int) := g1
        omega
      subst hx
      have := c_uniq hD hm g2
      subst this
      have g3 : w.1 x = t := g3
      have hy2 := c_rng_ok hR.1 hy
      obtain ⟨tf, tv, ti, tj⟩ := hT _ hm
      dsimp only at tf tv ti tj
      rw [g3] at tf tv ti tj
      have hin : ∀ a t, c_in w a t → c_in (w.1, w.2.1.set q0 (x, e'), w.2.2) a t := by
        rintro b u ⟨e2, h1, h2⟩
        by_cases hb : b = x
        · subst hb
          exact ⟨e', c_set_new he, h2⟩
        · exact ⟨e2, c_set_old he h1 hb, h2⟩
      -- the new value's type
      have hty : c_okV w (c_ty K t j) v := by
        obtain ⟨p0, p1, m, pm, pe⟩ := c_places_ok hR.1 hp q2
        rw [Bool.or_eq_true] at c2
        rcases c2 with c2 | c2
        · unfold c_stTy at c2
          cases hu : K.2.2.2.1 t with
          | some vt =>
            rw [hu] at c2
            have : c_ty K t j = vt := by unfold c_ty; rw [hu]
            rw [this]
            exact c_fits_ok hR q3 c2
          | none =>
            rw [hu] at c2
            have h5 := c_allI_ok _ _ c2 m pm
            rw [← pe] at h5
            exact c_fits_ok hR q3 h5
        · obtain ⟨q, hq, d1, d2, d3, d4, d5, d, d6, d7⟩ := c_copied_ok c2
          have hmq := hR.2.2.2.2.2.2 q hq
          unfold c_mem at hmq
          split at hmq
          · rename_i hz; exact absurd hz d4
          · obtain ⟨x2, e2, j2, v2, f1, f2, f3, f4, f5⟩ := hmq
            obtain ⟨x3, k1, e3, k2, k3⟩ := hR.2.2.1 _ (c_tagOf_ok d5) (by show (0 : Int) ≤ r q.1; rw [f1]; omega)
            have k1 : r q.1 = (x3 : Int) := k1
            have hx3 : x2 = x3 := by omega
            subst hx3
            have := c_uniq hD f2 k2
            subst this
            have k3 : w.1 x2 = t := k3
            have hvv := c_DV_inj d2 d1 (d3 r) q3 f5
            subst hvv
            have hty2 := (hT _ f2).2.1 j2 _ f4
            dsimp only at hty2
            rw [k3] at hty2
            have h5 := c_allI_ok _ _ d7 m pm
            rw [← pe, Bool.and_eq_true] at h5
            have h6 := of_decide_eq_true h5.1
            have hj2 : ((j : Int) + d).toNat = j2 := by
              have := d6 r
              omega
            have h7 := h5.2
            rw [hj2] at h7
            exact c_leT_ok h7 hty2
      have hnj : c_hits E t j := c_effIn_ok c4 (by omega) (by omega)
      have hnp : ¬ c_hits K.2.2.2.2.1 t j := c_off_ok c5 (by omega) (by omega)
      refine ⟨?_, ?_, ?_, rfl, rfl⟩
      · refine hs.to rfl fun r h9 h1 => ⟨h1.1, h1.2.1, fun q hq => ?_, h1.2.2.2.1, h1.2.2.2.2.1, h1.2.2.2.2.2.1, fun q hq => ?_⟩
        · intro hq2
          obtain ⟨b, b1, b2⟩ := h1.2.2.1 q hq hq2
          exact ⟨b, b1, hin _ _ b2⟩
        · obtain ⟨a1, a2, a3⟩ := hr r h9 h1
          rcases List.mem_cons.mp hq with rfl | hq
          · unfold c_mem
            split
            · rename_i hz; exact absurd hz h0
            · exact ⟨x, e', j, v, a1, c_set_new he, a2, by rw [hw j, if_pos rfl], a3⟩
          · have hq : q ∈ A.2.2.2.2.2.2.2.1.filter (c_keepM A t y.1 y.2) := hq
            obtain ⟨hq1, hq2⟩ := List.mem_filter.mp hq
            have hmq := h1.2.2.2.2.2.2 q hq1
            unfold c_mem at hmq ⊢
            split
            · rename_i hz
              rw [hz] at hmq
              exact hmq
            · rename_i hz
              split at hmq
              · rename_i hz2; exact absurd hz2 hz
              · obtain ⟨x2, e2, j2, v2, f1, f2, f3, f4, f5⟩ := hmq
                by_cases hb : x2 = x
                · subst hb
                  have := c_uniq hD hm f2
                  subst this
                  obtain ⟨t', ht', hne⟩ := c_keepM_ok h1.1 hq2 hz
                  obtain ⟨x3, k1, e3, k2, k3⟩ := h1.2.2.1 _ (c_tagOf_ok ht') (by show (0 : Int) ≤ r q.1; rw [f1]; omega)
                  have k1 : r q.1 = (x3 : Int) := k1
                  have hx3 : x2 = x3 := by omega
                  subst hx3
                  have k3 : w.1 x2 = t' := k3
                  have hy3 := c_rng_ok h1.1 hy
                  have hjj : j2 ≠ j := by
                    rcases hne with hne | hne
                    · exact absurd (k3.symm.trans g3) hne
                    · rintro rfl
                      omega
                  exact ⟨x2, e', j2, v2, f1, c_set_new he, f3, by rw [hw j2, if_neg hjj]; exact f4, f5⟩
                · exact ⟨x2, e2, j2, v2, f1, c_set_old he f2 hb, f3, f4, f5⟩
      · intro q hq
        rcases c_set_in hD he hq with rfl | ⟨hq1, hq2⟩
        · dsimp only
          rw [g3]
          refine ⟨hf _ tf, fun i u hu => ?_, fun i hi hit z hz1 hz2 u hu => ?_, ?_⟩
          · rw [hw i] at hu
            split at hu
            · rename_i hij
              cases hu
              rw [hij]
              exact c_in_mono_okV hin hty
            · exact c_in_mono_okV hin (tv i u hu)
          · obtain ⟨i0, i1, i2, i3⟩ := c_impsOk_ok c3 i hi hit
            have hjx : idx.1 = (j : Int) := by
              have := c_ev_nil i0 r
              omega
            rw [hw i.2.1] at hz1
            rw [hw i.2.2.1] at hu
            by_cases ja : i.2.1 = j
            · rw [if_pos ja] at hz1
              cases hz1
              have jb : i.2.2.1 ≠ j := by omega
              rw [if_neg jb] at hu
              rcases i2 (by omega) with ⟨z0, z1⟩ | ⟨b, b1, b2⟩
              · obtain ⟨z', hz', hz3⟩ := c_DVi q3 z0
                cases hz'
                have := c_in2_ok hR z1
                exact absurd ((c_eq0 z).mpr (by omega)) hz2
              · have hdb := c_mget_val hD hR h0 q1 (c_ev_con r (i.2.2.1 : Int)) hm hu b1
                exact c_in_mono_okV hin (c_fits_ok hR hdb b2)
            · rw [if_neg ja] at hz1
              by_cases jb : i.2.2.1 = j
              · rw [if_pos jb] at hu
                cases hu
                rcases i3 (by omega) with z1 | ⟨b, b1, b2⟩
                · exact c_in_mono_okV hin (c_fits_ok hR q3 z1)
                · have hdb := c_mget_val hD hR h0 q1 (c_ev_con r (i.2.1 : Int)) hm hz1 b1
                  obtain ⟨z', hz', hz3⟩ := c_DVi hdb rfl
                  cases hz'
                  have := c_in2_ok hR b2
                  have hz3 : z.toInt = c_ev r b := hz3
                  exact absurd ((c_eq0 z).mpr (by omega)) hz2
              · rw [if_neg jb] at hu
                exact c_in_mono_okV hin (ti i hi hit z hz1 hz2 u hu)
          · refine hJ t x (c_rd e) (c_rd e') w.2.2 (fun i hi => ?_) tj
            rw [hw i, if_neg]
            rintro rfl
            exact hnp hi
        · obtain ⟨a1, a2, a3, a4⟩ := hT q hq1
          exact ⟨a1, fun i u hu => c_in_mono_okV hin (a2 i u hu), fun i hi hit z hz1 hz2 u hu => c_in_mono_okV hin (a3 i hi hit z hz1 hz2 u hu), a4⟩
      · refine ⟨fun q hq => ?_, hE.2⟩
        obtain ⟨e2, b1, b2⟩ := hE.1 q hq
        by_cases hb : q.1 = x
        · rw [hb] at b1
          have := c_uniq hD hm b1
          subst this
          refine ⟨e', by rw [hb]; exact c_set_new he, ?_⟩
          rcases b2 with ⟨b2, b3⟩ | b2
          · left
            refine ⟨b2, fun i hi => ?_⟩
            rw [hw i, if_neg, b3 i hi]
            rintro rfl
            apply hi
            rw [← b2, hb, g3]
            exact hnj
          · exact Or.inr b2
        · exact ⟨e2, c_set_old he b1 hb, b2⟩
    · cases h
  · cases h
end CN
