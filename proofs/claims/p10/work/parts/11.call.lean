/-! contracts: what they say, and how a caller uses them -/
def c_num : Value → Int
  | .int x => x.toInt
  | .long x => x.toInt
  | .ref a => (a : Int)
  | _ => -1
theorem c_DV_num {r : Nat → Int} {a : cAV} {v : Value} (hk : a.1 ≤ 2) (h : c_DV r a v) : c_num v = c_ev r a.2 := by
  rcases (show a.1 = 0 ∨ a.1 = 1 ∨ a.1 = 2 by omega) with e | e | e
  · obtain ⟨x, rfl, h1⟩ := c_DVi h e; exact h1
  · obtain ⟨x, rfl, h1⟩ := c_DVl h e; exact h1
  · rcases c_DVr h e with ⟨rfl, h1⟩ | ⟨x, rfl, h1⟩
    · exact h1.symm
    · exact h1.symm
/-- the place (b, idx) holds z, under a valuation of a contract's symbols -/
def c_cell (w : cWld) (p : Nat → Int) (b : Nat) (idx : cLin) (z : Int) : Prop := match b with
  | 0 => ∃ j : Nat, c_ev p idx = (j : Int) ∧ c_gv j (w.2.2 j) = z
  | _ => ∃ (a : Nat) (e : va_E) (j : Nat) (v : Value), p b = (a : Int) ∧ (a, e) ∈ w.2.1 ∧ c_ev p idx = (j : Int) ∧ c_rd e j = some v ∧ c_num v = z
theorem c_cell_fun {AA : Nat → Prop} {w : cWld} (hD : va_D AA w.2.1) {p p' : Nat → Int} {b : Nat} {idx : cLin} {z z' : Int} (hb : b ≠ 0 → p b = p' b) (hi : c_ev p idx = c_ev p' idx) (h : c_cell w p b idx z) (h' : c_cell w p' b idx z') : z = z' := by
  unfold c_cell at h h'
  split at h
  · obtain ⟨j, h1, h2⟩ := h
    obtain ⟨j', h3, h4⟩ := h'
    have : j = j' := by omega
    subst this
    omega
  · split at h'
    · rename_i q; exact absurd rfl q
    · obtain ⟨a, e, j, v, h1, h2, h3, h4, h5⟩ := h
      obtain ⟨a', e', j', v', g1, g2, g3, g4, g5⟩ := h'
      rename_i hb0 _ _
      have hb1 := hb hb0
      have : a = a' := by omega
      subst this
      have : j = j' := by omega
      subst this
      have := c_uniq hD h2 g2
      subst this
      rw [h4] at g4
      cases g4
      omega
def c_val (r : Nat → Int) (th : List cLin) (i : Nat) : Int := match th[i]? with
  | some e => c_ev r e
  | none => 0
theorem c_subst_ok {th th' : List cLin} (hp : ∀ (i : Nat) (e : cLin), th[i]? = some e → th'[i]? = some e) (r : Nat → Int) : ∀ (l : List (Nat × Int)) (acc x : cLin), c_subst th l acc = some x → c_ev r x = c_ev r acc + c_evs (c_val r th') l
  | [], acc, x, h => by
    cases h
    show c_ev r acc = c_ev r acc + 0
    omega
  | q :: t, acc, x, h => by
    unfold c_subst at h
    split at h
    · cases h
    · rename_i e he
      rw [c_subst_ok hp r t _ x h, c_ev_add, c_ev_mul]
      show _ = c_ev r acc + (q.2 * c_val r th' q.1 + c_evs (c_val r th') t)
      have : c_val r th' q.1 = c_ev r e := by unfold c_val; rw [hp _ _ he]
      rw [this]
      omega
theorem c_sb_ok {th th' : List cLin} (hp : ∀ (i : Nat) (e : cLin), th[i]? = some e → th'[i]? = some e) (r : Nat → Int) {e x : cLin} (h : c_sb th e = some x) : c_ev r x = c_ev (c_val r th') e := by
  have := c_subst_ok hp r _ _ _ h
  rw [this]
  unfold c_ev
  show e.1 + 0 + _ = _
  omega
/-- all symbols of e are below n -/
theorem c_subst_lt {th : List cLin} : ∀ (l : List (Nat × Int)) (acc x : cLin), c_subst th l acc = some x → ∀ q ∈ l, q.1 < th.length
  | [], _, _, _, _, hq => by cases hq
  | q :: t, acc, x, h, z, hz => by
    unfold c_subst at h
    split at h
    · cases h
    · rename_i e he
      rcases List.mem_cons.mp hz with rfl | hz
      · exact (List.getElem?_eq_some_iff.mp he).1
      · exact c_subst_lt t _ _ h z hz
theorem c_evs_congr {p p' : Nat → Int} : ∀ {l : List (Nat × Int)}, (∀ q ∈ l, p q.1 = p' q.1) → c_evs p l = c_evs p' l
  | [], _ => rfl
  | q :: t, h => by
    show q.2 * p q.1 + c_evs p t = q.2 * p' q.1 + c_evs p' t
    rw [h q List.mem_cons_self, c_evs_congr (fun z hz => h z (List.mem_cons_of_mem _ hz))]
theorem c_ev_congr {p p' : Nat → Int} {e : cLin} (h : ∀ q ∈ e.2, p q.1 = p' q.1) : c_ev p e = c_ev p' e := by
  unfold c_ev
  rw [c_evs_congr h]
theorem c_sb_lt {th : List cLin} {e x : cLin} (h : c_sb th e = some x) : ∀ q ∈ e.2, q.1 < th.length := c_subst_lt _ _ _ h
theorem c_pre_app (th x : List cLin) : ∀ (i : Nat) (e : cLin), th[i]? = some e → (th ++ x)[i]? = some e := fun i e h => by
  rw [List.getElem?_append_left (List.getElem?_eq_some_iff.mp h).1]
  exact h
section CC
variable {n0 : Nat} {r0 : Nat → Int} {lv : List (Nat × Value)} {w w0 : cWld} {K : cTab} {dA : Nat → ClassId} {AA : Nat → Prop}
/-- what a load leaves: the value on the stack, as a known place; nothing known is lost -/
theorem c_load_shape {A B : cSt} {rs : Nat} {idx : cLin} {S : List cAV} (h : c_load K A rs idx S = some B) : ∃ a, c_stk B = a :: S ∧ (∃ q ∈ c_me B, q.1 = rs ∧ (∀ r, c_ev r q.2.1 = c_ev r idx) ∧ q.2.2 = a) ∧ (∀ q ∈ c_me A, q ∈ c_me B) ∧ (∀ q ∈ A.2.1, q ∈ B.2.1) ∧ (∀ q ∈ A.2.2.1, q ∈ B.2.2.1) ∧ (∀ q ∈ A.2.2.2.1, q ∈ B.2.2.2.1) ∧ (∀ q ∈ A.2.2.2.2.1, q ∈ B.2.2.2.2.1) ∧ A.1 ≤ B.1 ∧ c_loc B = c_loc A := by
  have fm : ∀ {vt : cVT}, c_freshM A vt rs idx S = some B → ∃ a, c_stk B = a :: S ∧ (∃ q ∈ c_me B, q.1 = rs ∧ (∀ r, c_ev r q.2.1 = c_ev r idx) ∧ q.2.2 = a) ∧ (∀ q ∈ c_me A, q ∈ c_me B) ∧ (∀ q ∈ A.2.1, q ∈ B.2.1) ∧ (∀ q ∈ A.2.2.1, q ∈ B.2.2.1) ∧ (∀ q ∈ A.2.2.2.1, q ∈ B.2.2.2.1) ∧ (∀ q ∈ A.2.2.2.2.1, q ∈ B.2.2.2.2.1) ∧ A.1 ≤ B.1 ∧ c_loc B = c_loc A := by
    intro vt h
    unfold c_freshM at h
    split at h
    · cases h
      exact ⟨_, rfl, ⟨_, List.mem_cons_self, rfl, fun _ => rfl, rfl⟩, fun q hq => List.mem_cons_of_mem _ hq, fun q hq => List.mem_cons_of_mem _ hq, fun q hq => hq, fun q hq => hq, fun q hq => hq, Nat.le_succ _, rfl⟩
    · cases h
      exact ⟨_, rfl, ⟨_, List.mem_cons_self, rfl, fun _ => rfl, rfl⟩, fun q hq => List.mem_cons_of_mem _ hq, fun q hq => List.mem_cons_of_mem _ hq, fun q hq => hq, fun q hq => hq, fun q hq => hq, Nat.le_succ _, rfl⟩
    · cases h
      exact ⟨_, rfl, ⟨_, List.mem_cons_self, rfl, fun _ => rfl, rfl⟩, fun q hq => List.mem_cons_of_mem _ hq, fun q hq => List.mem_cons_of_mem _ hq, fun q hq => List.mem_cons_of_mem _ hq, fun q hq => hq, fun q hq => hq, Nat.le_succ _, rfl⟩
    · cases h
      exact ⟨_, rfl, ⟨_, List.mem_cons_self, rfl, fun _ => rfl, rfl⟩, fun q hq => List.mem_cons_of_mem _ hq, fun q hq => hq, fun q hq => List.mem_cons_of_mem _ hq, fun q hq => List.mem_cons_of_mem _ hq, fun q hq => hq, Nat.le_succ _, rfl⟩
    · cases h
      exact ⟨_, rfl, ⟨_, List.mem_cons_self, rfl, fun _ => rfl, rfl⟩, fun q hq => List.mem_cons_of_mem _ hq, fun q hq => hq, fun q hq => hq, fun q hq => List.mem_cons_of_mem _ hq, fun q hq => hq, Nat.le_succ _, rfl⟩
    · cases h
  unfold c_load at h
  cases hm : c_mget rs idx A.2.2.2.2.2.2.2.1 with
  | some a =>
    rw [hm] at h
    cases h
    obtain ⟨q, q1, q2⟩ := c_mget_ok hm
    exact ⟨a, rfl, ⟨q, q1, q2⟩, fun q hq => hq, fun q hq => hq, fun q hq => hq, fun q hq => hq, fun q hq => hq, Nat.le_refl _, rfl⟩
  | none =>
    rw [hm] at h
    dsimp only at h
    split at h
    · cases h
    · split at h
      · cases h
      · split at h
        · split at h
          · exact fm h
          · split at h
            · cases h
            · exact fm h
        · cases h
theorem c_sat.weak {n1 : Nat} {r1 : Nat → Int} {A : cSt} {st : List Value} (h : c_sat n1 r1 A lv st w) (hn : n0 ≤ n1) (ha : c_agr n0 r0 r1) : c_sat n0 r0 A lv st w := by
  obtain ⟨h0, r, h1, h2⟩ := h
  exact ⟨Nat.le_trans hn h0, r, fun i hi => (h1 i (Nat.lt_of_lt_of_le hi hn)).trans (ha i hi), h2⟩
/-- a valuation that is held fast -/
theorem c_sat.pin {A : cSt} {st : List Value} (h : c_sat n0 r0 A lv st w) : ∃ r1, c_sat A.1 r1 A lv st w ∧ n0 ≤ A.1 ∧ c_agr n0 r0 r1 ∧ c_satR A r1 lv st w := by
  obtain ⟨h0, r, h1, h2⟩ := h
  exact ⟨r, ⟨Nat.le_refl _, r, c_agr_rf _ _, h2⟩, h0, h1, h2 r (c_agr_rf _ _)⟩
theorem c_sat.lt3 {A : cSt} {st : List Value} (h : c_sat n0 r0 A lv st w) {s : Nat} (h3 : (s, 3) ∈ A.2.2.1) : s < A.1 := by
  obtain ⟨-, r, -, h2⟩ := h
  rcases Nat.lt_or_ge s A.1 with hs | hs
  · exact hs
  · have := (h2 (fun i => if i = s then -1 else r i) (fun i hi => by dsimp only; rw [if_neg (by omega)])).2.1 _ h3
    have : (0 : Int) ≤ (if s = s then -1 else r s) := this
    rw [if_pos rfl] at this
    omega
theorem c_wfL_ok {n : Nat} {e : cLin} {r r' : Nat → Int} (h : c_wfL n e = true) (hr : c_agr n r r') : c_ev r' e = c_ev r e := by
  refine c_ev_congr fun q hq => hr _ ?_
  have := List.all_eq_true.mp h q hq
  unfold Nat.blt at this
  exact Nat.le_of_ble_eq_true this
/-- a load where a contract names a place -/
theorem c_load_cell (hT : c_TW K dA w) (hD : va_D AA w.2.1) {A B : cSt} {st : List Value} (hs : c_sat n0 r0 A lv st w) {rs : Nat} {idx : cLin} (h0 : rs ≠ 0) (h3 : (rs, 3) ∈ A.2.2.1) (hwf : c_wfL A.1 idx = true) (h : c_load K A rs idx (c_stk A) = some B) : ∃ v, c_sat n0 r0 B lv (v :: st) w ∧ c_cu B = c_cu A ∧ c_su B = c_su A := by
  obtain ⟨r1, hp, hn, ha, hr1⟩ := hs.pin
  have hlt := hs.lt3 h3
  cases hm : c_mget rs idx A.2.2.2.2.2.2.2.1 with
  | some a =>
    unfold c_load at h
    rw [hm] at h
    cases h
    obtain ⟨q, q1, q2, q3, q4⟩ := c_mget_ok hm
    have hq := hr1.2.2.2.2.2.2 q q1
    unfold c_mem at hq
    split at hq
    · rename_i hz; rw [q2] at hz; exact absurd hz h0
    · obtain ⟨x, e, j, v, f1, f2, f3, f4, f5⟩ := hq
      refine ⟨v, c_sat.weak (hp.to rfl fun r h9 h1 => ⟨h1.1, h1.2.1, h1.2.2.1, h1.2.2.2.1, h1.2.2.2.2.1, ⟨c_mget_val hD h1 h0 ?_ ?_ f2 f4 hm, h1.2.2.2.2.2.1⟩, h1.2.2.2.2.2.2⟩) hn ha, rfl, rfl⟩
      · rw [h9 rs hlt, ← q2]; exact f1
      · rw [c_wfL_ok hwf h9, ← q3 r1]; exact f3
  | none =>
    have hc : ∃ t, c_tagOf rs A.2.2.2.1 = some t ∧ c_in3 A 0 (((K.2.1 t).2.1 : Int) - 1) idx = true := by
      unfold c_load at h
      rw [hm] at h
      dsimp only at h
      split at h
      · cases h
      · rename_i t ht
        split at h
        · cases h
        · split at h
          · rename_i hi
            exact ⟨t, ht, hi⟩
          · cases h
    obtain ⟨t, ht, hi⟩ := hc
    obtain ⟨x, g1, e, g2, g3⟩ := hr1.2.2.1 _ (c_tagOf_ok ht) (hr1.2.1 _ h3)
    have g1 : r1 rs = (x : Int) := g1
    have g3 : w.1 x = t := g3
    have hi := c_in3_ok hr1 hi
    obtain ⟨tf, -⟩ := hT _ g2
    dsimp only at tf
    rw [g3] at tf
    obtain ⟨v, hv⟩ := c_form_rd (j := (c_ev r1 idx).toNat) tf (by omega)
    obtain ⟨h5, h6, h7⟩ := c_load_ok (S := c_stk A) (ss := st) hp hT hD h0 (x := x) (e := e) (j := (c_ev r1 idx).toNat) (v := v) (fun r h9 _ => ⟨by rw [h9 rs hlt]; exact g1, by rw [c_wfL_ok hwf h9]; omega⟩) g2 hv (fun r hr => hr.2.2.2.2.2.1) h
    exact ⟨v, h5.weak hn ha, h6, h7⟩
/-- the places of a contract, loaded -/
theorem c_loads_ok (hT : c_TW K dA w) (hD : va_D AA w.2.1) : ∀ (l : List (Nat × cLin)) (A : cSt) (th : List cLin) (st : List Value) (B : cSt × List cLin), c_loads K l A th = some B → c_sat n0 r0 A lv st w →
    ∃ (vs : List Value) (S' : List cAV) (x : List cLin), c_sat n0 r0 B.1 lv (vs ++ st) w ∧ c_stk B.1 = S' ++ c_stk A ∧ S'.length = vs.length ∧ c_cu B.1 = c_cu A ∧ c_su B.1 = c_su A ∧ B.2 = th ++ x ∧ x.length = l.length ∧
      (∀ q ∈ c_me A, q ∈ c_me B.1) ∧ (∀ q ∈ A.2.2.1, q ∈ B.1.2.2.1) ∧ (∀ q ∈ A.2.2.2.1, q ∈ B.1.2.2.2.1) ∧ c_loc B.1 = c_loc A ∧
      (∀ (k : Nat) (q : Nat × cLin), l[k]? = some q → (q.1 ≠ 0 → q.1 < th.length + k) ∧ ∀ z ∈ q.2.2, z.1 < th.length + k) ∧
      ∀ r, c_satR B.1 r lv (vs ++ st) w → ∀ (k : Nat) (q : Nat × cLin), l[k]? = some q → c_cell w (c_val r B.2) q.1 q.2 (c_val r B.2 (th.length + k))
  | [], A, th, st, B, h, hs => by
    cases h
    exact ⟨[], [], [], hs, rfl, rfl, rfl, rfl, by simp, rfl, fun q hq => hq, fun q hq => hq, fun q hq => hq, rfl, fun k q hq => by simp at hq, fun r _ k q hq => by simp at hq⟩
  | q :: l, A, th, st, B, h, hs => by
    unfold c_loads at h
    split at h
    · cases h
    · rename_i idx hidx
      split at h
      · cases h
      · rename_i hwf
        have hwf : c_wfL A.1 idx = true := by simpa using hwf
        -- the rest, once the first place has its value e
        have rest : ∀ (A1 : cSt) (vs1 : List Value) (S1 : List cAV) (e : cLin), c_loads K l A1 (th ++ [e]) = some B → c_sat n0 r0 A1 lv (vs1 ++ st) w → c_stk A1 = S1 ++ c_stk A → S1.length = vs1.length → c_cu A1 = c_cu A → c_su A1 = c_su A → (∀ q ∈ c_me A, q ∈ c_me A1) → (∀ q ∈ A.2.2.1, q ∈ A1.2.2.1) → (∀ q ∈ A.2.2.2.1, q ∈ A1.2.2.2.1) → c_loc A1 = c_loc A →
            (q.1 ≠ 0 → q.1 < th.length) → (∀ (C : cSt) (r : Nat → Int) (th' : List cLin) (st' : List Value), (∀ z ∈ c_me A1, z ∈ c_me C) → c_satR C r lv st' w → (∀ (i : Nat) (e' : cLin), th[i]? = some e' → th'[i]? = some e') → c_cell w (c_val r th') q.1 q.2 (c_ev r e)) →
            ∃ (vs : List Value) (S' : List cAV) (x : List cLin), c_sat n0 r0 B.1 lv (vs ++ st) w ∧ c_stk B.1 = S' ++ c_stk A ∧ S'.length = vs.length ∧ c_cu B.1 = c_cu A ∧ c_su B.1 = c_su A ∧ B.2 = th ++ x ∧ x.length = (q :: l).length ∧
              (∀ q ∈ c_me A, q ∈ c_me B.1) ∧ (∀ q ∈ A.2.2.1, q ∈ B.1.2.2.1) ∧ (∀ q ∈ A.2.2.2.1, q ∈ B.1.2.2.2.1) ∧ c_loc B.1 = c_loc A ∧
              (∀ (k : Nat) (z : Nat × cLin), (q :: l)[k]? = some z → (z.1 ≠ 0 → z.1 < th.length + k) ∧ ∀ y ∈ z.2.2, y.1 < th.length + k) ∧
              ∀ r, c_satR B.1 r lv (vs ++ st) w → ∀ (k : Nat) (z : Nat × cLin), (q :: l)[k]? = some z → c_cell w (c_val r B.2) z.1 z.2 (c_val r B.2 (th.length + k)) := by
          intro A1 vs1 S1 e h1 hs1 hS1 hSl hc1 hc2 m1 m2 m3 m4 hbl hcell
          obtain ⟨vs, S', x, g1, g2, g3, g4, g5, g6, g7, g8, g9, g10, g11, g13, g12⟩ := c_loads_ok hT hD l A1 (th ++ [e]) (vs1 ++ st) B h1 hs1
          refine ⟨vs ++ vs1, S' ++ S1, e :: x, by rw [List.append_assoc]; exact g1, by rw [g2, hS1, List.append_assoc], by rw [List.length_append, List.length_append, g3, hSl], g4.trans hc1, g5.trans hc2, by rw [g6, List.append_assoc]; rfl, by rw [List.length_cons, List.length_cons, g7], fun z hz => g8 z (m1 z hz), fun z hz => g9 z (m2 z hz), fun z hz => g10 z (m3 z hz), g11.trans m4, ?_, ?_⟩
          · intro k z hz
            cases k with
            | zero =>
              have : q = z := by simpa using hz
              subst this
              exact ⟨fun h => hbl h, fun y hy => c_sb_lt hidx y hy⟩
            | succ k =>
              have hz : l[k]? = some z := by simpa using hz
              have := g13 k z hz
              rw [show (th ++ [e]).length + k = th.length + (k + 1) by rw [List.length_append]; simp; omega] at this
              exact this
          intro r hr k z hz
          rw [List.append_assoc] at hr
          cases k with
          | zero =>
            have : q = z := by simpa using hz
            subst this
            have hv : c_val r B.2 (th.length + 0) = c_ev r e := by
              unfold c_val
              rw [g6, List.append_assoc, List.getElem?_append_right (by omega)]
              simp
            rw [hv]
            refine hcell B.1 r B.2 _ g8 hr (fun i e' he' => ?_)
            rw [g6, List.append_assoc]
            exact c_pre_app _ _ i e' he'
          | succ k =>
            have hz : l[k]? = some z := by simpa using hz
            have := g12 r hr k z hz
            rw [show (th ++ [e]).length + k = th.length + (k + 1) by rw [List.length_append]; simp; omega] at this
            exact this
        split at h
        · -- a ghost place
          rename_i hq0
          have hq0 := Nat.eq_of_beq_eq_true hq0
          split at h
          · rename_i a hm
            refine rest A [] [] a.2 h hs rfl rfl rfl rfl (fun z hz => hz) (fun z hz => hz) (fun z hz => hz) rfl (fun z => absurd hq0 z) ?_
            intro C r th' st' hme hC hth
            obtain ⟨z, z1, z2, z3, z4⟩ := c_mget_ok hm
            have hz := hC.2.2.2.2.2.2 z (hme z z1)
            unfold c_mem at hz
            rw [z2] at hz
            obtain ⟨j, j1, j2⟩ := hz
            rw [hq0]
            refine ⟨j, ?_, by rw [j2, z4]⟩
            rw [← c_sb_ok hth r hidx, ← z3 r]
            exact j1
          · split at h
            · rename_i y hy
              split at h
              · rename_i hpos
                obtain ⟨r1, hp, hn, ha, hr1⟩ := hs.pin
                have hi1 := c_rng_ok hr1.1 hy
                have hcell0 : ∀ r : Nat → Int, c_agr A.1 r1 r → r A.1 = c_gv (c_ev r1 idx).toNat (w.2.2 (c_ev r1 idx).toNat) → c_mem r w (0, idx, (1, c_sym A.1)) := by
                  intro r hag hr
                  refine ⟨(c_ev r1 idx).toNat, ?_, ?_⟩
                  · show c_ev r idx = _
                    rw [c_wfL_ok hwf hag]; omega
                  · show _ = c_ev r (c_sym A.1)
                    rw [c_ev_sym]; exact hr.symm
                split at h
                · refine rest (c_setM (A.1 + 1, A.2) ((0, idx, (1, c_sym A.1)) :: A.2.2.2.2.2.2.2.1)) [] [] (c_sym A.1) h ?_ rfl rfl rfl rfl (fun z hz => List.mem_cons_of_mem _ hz) (fun z hz => hz) (fun z hz => hz) rfl (fun z => absurd hq0 z) ?_
                  · refine (hp.new (B := c_setM (A.1 + 1, A.2) ((0, idx, (1, c_sym A.1)) :: A.2.2.2.2.2.2.2.1)) (c_gv (c_ev r1 idx).toNat (w.2.2 (c_ev r1 idx).toNat)) rfl fun r h9 hz hr => ⟨hr.1, hr.2.1, hr.2.2.1, hr.2.2.2.1, hr.2.2.2.2.1, hr.2.2.2.2.2.1, fun z hz2 => ?_⟩).weak hn ha
                    rcases List.mem_cons.mp hz2 with rfl | hz2
                    · exact hcell0 r h9 hz
                    · exact hr.2.2.2.2.2.2 z hz2
                  · intro C r th' st' hme hC hth
                    have hz := hC.2.2.2.2.2.2 _ (hme _ List.mem_cons_self)
                    obtain ⟨j, j1, j2⟩ := hz
                    rw [hq0]
                    refine ⟨j, ?_, j2⟩
                    rw [← c_sb_ok hth r hidx]
                    exact j1
                · rename_i h1c
                  split at h
                  · rename_i h2c
                    have hadr : c_adr (c_ev r1 idx).toNat = false := by
                      rw [Bool.or_eq_true, Bool.or_eq_true, decide_eq_true_iff, decide_eq_true_iff] at h2c
                      rcases h2c with (h2c | h2c) | h2c
                      · rw [c_ev_nil (List.isEmpty_iff.mp h2c)]
                        cases h3 : c_adr idx.1.toNat with
                        | false => rfl
                        | true => exact absurd (by rw [h3, h2c]; rfl) h1c
                      · exact c_adr_off (Or.inl (by omega))
                      · exact c_adr_off (Or.inr (by omega))
                    refine rest (c_setM (c_newY A (c_glo idx) (c_ghi idx)) ((0, idx, (1, c_sym A.1)) :: A.2.2.2.2.2.2.2.1)) [] [] (c_sym A.1) h ?_ rfl rfl rfl rfl (fun z hz => List.mem_cons_of_mem _ hz) (fun z hz => hz) (fun z hz => hz) rfl (fun z => absurd hq0 z) ?_
                    · refine (hp.new (B := c_setM (c_newY A (c_glo idx) (c_ghi idx)) ((0, idx, (1, c_sym A.1)) :: A.2.2.2.2.2.2.2.1)) (c_gv (c_ev r1 idx).toNat (w.2.2 (c_ev r1 idx).toNat)) rfl fun r h9 hz hr => ⟨c_envOk_cons (by rw [hz]; exact (c_gv_gr (r := r1) (e := idx) (by omega) hadr _).1) (by rw [hz]; exact (c_gv_gr (r := r1) (e := idx) (by omega) hadr _).2) hr.1, hr.2.1, hr.2.2.1, hr.2.2.2.1, hr.2.2.2.2.1, hr.2.2.2.2.2.1, fun z hz2 => ?_⟩).weak hn ha
                      rcases List.mem_cons.mp hz2 with rfl | hz2
                      · exact hcell0 r h9 hz
                      · exact hr.2.2.2.2.2.2 z hz2
                    · intro C r th' st' hme hC hth
                      have hz := hC.2.2.2.2.2.2 _ (hme _ List.mem_cons_self)
                      obtain ⟨j, j1, j2⟩ := hz
                      rw [hq0]
                      refine ⟨j, ?_, j2⟩
                      rw [← c_sb_ok hth r hidx]
                      exact j1
                  · cases h
              · cases h
            · cases h
        · rename_i hq0
          split at h
          · cases h
          · rename_i b hb
            split at h
            · cases h
            · rename_i rs hrs
              split at h
              · cases h
              · rename_i hrs0
                have hrs0 : rs ≠ 0 := fun z => hrs0 (by rw [z]; rfl)
                split at h
                · cases h
                · rename_i A1 hA1
                  obtain ⟨hb2, h3⟩ := c_refS_ok hrs
                  have hb2 : b = c_sym rs := by
                    have := congrArg Prod.snd hb2
                    exact this
                  obtain ⟨v, s1, s2, s3⟩ := c_load_cell hT hD hs hrs0 h3 hwf hA1
                  obtain ⟨a, t1, ⟨z, z1, z2, z3, z4⟩, t3, -, t5, t6, -, -, t9⟩ := c_load_shape hA1
                  have hst : A1.2.2.2.2.2.2.1 = a :: c_stk A := t1
                  rw [hst] at h
                  dsimp only at h
                  split at h
                  · rename_i hk
                    have hk := Nat.le_of_ble_eq_true hk
                    refine rest A1 [v] [a] a.2 h s1 t1 rfl s2 s3 t3 t5 t6 t9 (fun _ => (List.getElem?_eq_some_iff.mp hb).1) ?_
                    intro C r th' st' hme hC hth
                    have hz := hC.2.2.2.2.2.2 z (hme z z1)
                    unfold c_mem at hz
                    split at hz
                    · rename_i hz0; rw [z2] at hz0; exact absurd hz0 hrs0
                    · obtain ⟨x, e, j, u, f1, f2, f3, f4, f5⟩ := hz
                      unfold c_cell
                      split
                      · rename_i hz0
                        exact absurd (by rw [hz0]; rfl) hq0
                      · refine ⟨x, e, j, u, ?_, f2, ?_, f4, ?_⟩
                        · have : c_val r th' q.1 = c_ev r b := by unfold c_val; rw [hth _ _ hb]
                          rw [this, hb2, c_ev_sym, ← z2]
                          exact f1
                        · rw [← c_sb_ok hth r hidx, ← z3 r]
                          exact f3
                        · rw [z4] at f5
                          exact c_DV_num hk f5
                  · cases h
end CC
