/-! a method's entry -/
abbrev cE0 : Type := cEnv × List (Nat × Nat) × List (Nat × Nat) × List (Nat × cAV)
def c_ent0 : Nat → Nat → List (Nat × Nat × Int × Int) → cE0
  | _, _, [] => ([], [], [], [])
  | i, sl, x :: l => match x.1 with
    | 0 => (fun r => ((i, x.2.2) :: r.1, r.2.1, r.2.2.1, (sl, (0, c_sym i)) :: r.2.2.2)) (c_ent0 (i + 1) (sl + 1) l)
    | 1 => (fun r => ((i, x.2.2) :: r.1, r.2.1, r.2.2.1, (sl, (1, c_sym i)) :: r.2.2.2)) (c_ent0 (i + 1) (sl + 2) l)
    | _ => (fun r => (r.1, (i, 3) :: r.2.1, (i, x.2.1) :: r.2.2.1, (sl, (2, c_sym i)) :: r.2.2.2)) (c_ent0 (i + 1) (sl + 1) l)
def c_A0 (O : cCtr) : cSt := (fun x => (1 + (ct_args O).length, x.1, x.2.1, x.2.2.1, [], x.2.2.2, [], [], 0, 0)) (c_ent0 1 0 (ct_args O))
def c_entry (K : cTab) (O : cCtr) : Option cSt := match c_loads K (ct_ec O) (c_A0 O) (c_ids (1 + (ct_args O).length)) with
  | none => none
  | some B => if decide (B.2 = c_ids (c_entryN O)) && Nat.beq B.1.1 (c_entryN O) then (match c_assumes B.1 B.2 (ct_pre O) with
      | none => none
      | some C => some (c_setS (c_flags C B.2 (ct_pfl O)) [])) else none
theorem c_ent0_ok {w : cWld} {r rr : Nat → Int} : ∀ (l : List (Nat × Nat × Int × Int)) (vals : List Value) (i sl : Nat), c_argsR w rr i l vals → (∀ j, i ≤ j → j < i + l.length → r j = rr j) →
    c_envOk r (c_ent0 i sl l).1 ∧ (∀ q ∈ (c_ent0 i sl l).2.1, c_flag q.2 (r q.1)) ∧ (∀ q ∈ (c_ent0 i sl l).2.2.1, c_tag r w q) ∧ c_F2 (c_lr r) (c_ent0 i sl l).2.2.2 (lv_args sl vals)
  | [], [], i, sl, _, _ => ⟨fun q hq => (by cases hq), fun q hq => (by cases hq), fun q hq => (by cases hq), trivial⟩
  | x :: l, v :: vals, i, sl, h, hr => by
    have hri : r i = rr i := hr i (Nat.le_refl _) (by rw [List.length_cons]; omega)
    have hr' : ∀ j, i + 1 ≤ j → j < i + 1 + l.length → r j = rr j := fun j h1 h2 => hr j (by omega) (by rw [List.length_cons]; omega)
    have h1 := h.1
    unfold c_argR at h1
    unfold c_ent0 lv_args
    split at h1
    · rename_i hk
      obtain ⟨y, rfl, y1, y2, y3⟩ := h1
      obtain ⟨a1, a2, a3, a4⟩ := c_ent0_ok l vals (i + 1) (sl + 1) h.2 hr'
      rw [hk]
      refine ⟨fun q hq => ?_, a2, a3, ⟨rfl, ⟨y, rfl, by rw [c_ev_sym, hri]; exact y1⟩⟩, a4⟩
      rcases List.mem_cons.mp hq with rfl | hq
      · rw [hri]; exact ⟨y2, y3⟩
      · exact a1 q hq
    · rename_i hk
      obtain ⟨y, rfl, y1, y2, y3⟩ := h1
      obtain ⟨a1, a2, a3, a4⟩ := c_ent0_ok l vals (i + 1) (sl + 2) h.2 hr'
      rw [hk]
      refine ⟨fun q hq => ?_, a2, a3, ⟨rfl, ⟨y, rfl, by rw [c_ev_sym, hri]; exact y1⟩⟩, a4⟩
      rcases List.mem_cons.mp hq with rfl | hq
      · rw [hri]; exact ⟨y2, y3⟩
      · exact a1 q hq
    · rename_i hk0 hk1
      obtain ⟨a, rfl, y1, y2⟩ := h1
      obtain ⟨a1, a2, a3, a4⟩ := c_ent0_ok l vals (i + 1) (sl + 1) h.2 hr'
      split
      · rename_i hk; exact absurd hk hk0
      · rename_i hk; exact absurd hk hk1
      · refine ⟨a1, fun q hq => ?_, fun q hq => ?_, ⟨rfl, Or.inr ⟨a, rfl, by rw [c_ev_sym, hri]; exact y1⟩⟩, a4⟩
        · rcases List.mem_cons.mp hq with rfl | hq
          · show (0 : Int) ≤ r i
            omega
          · exact a2 q hq
        · rcases List.mem_cons.mp hq with rfl | hq
          · exact fun _ => ⟨a, by show r i = _; omega, y2⟩
          · exact a3 q hq
  | [], _ :: _, _, _, h, _ => h.elim
  | _ :: _, [], _, _, h, _ => h.elim
theorem c_val_ids {r : Nat → Int} {n i : Nat} (h : i < n) : c_val r (c_ids n) i = r i := by
  rw [c_val_get (c_ids_get h), c_ev_sym]
theorem c_entry_ok {K : cTab} {O : cCtr} {dA : Nat → ClassId} {AA : Nat → Prop} {rr : Nat → Int} {vals : List Value} {w : cWld} {A : cSt} (hT : c_TW K dA w) (hD : va_D AA w.2.1) (hpre : c_Pre O rr vals w) (h : c_entry K O = some A) : c_sat (c_entryN O) rr A (lv_args 0 vals) [] w ∧ c_cu A = 0 ∧ c_su A = 0 := by
  unfold c_entry at h
  split at h
  · cases h
  · rename_i B hl
    split at h
    · rename_i hc
      rw [Bool.and_eq_true] at hc
      have hB2 := of_decide_eq_true hc.1
      have hB1 := Nat.eq_of_beq_eq_true hc.2
      have s0 : c_sat (1 + (ct_args O).length) rr (c_A0 O) (lv_args 0 vals) [] w := by
        refine ⟨Nat.le_refl _, rr, c_agr_rf _ _, fun r hr => ?_⟩
        obtain ⟨a1, a2, a3, a4⟩ := c_ent0_ok (r := r) (ct_args O) vals 1 0 hpre.1 (fun j h1 h2 => hr j h2)
        exact ⟨a1, a2, a3, fun f hf => (by cases hf), a4, trivial, fun q hq => (by cases hq)⟩
      obtain ⟨vs, S', x, g1, g2, g3, g4, g5, g6, g7, g8, g9, g10, g11, g12, g13⟩ := c_loads_ok hT hD _ _ _ _ B hl s0
      rw [c_ids_len] at g12 g13
      have agree : ∀ r, c_agr (1 + (ct_args O).length) rr r → c_satR B.1 r (lv_args 0 vals) (vs ++ []) w → ∀ i, i < c_entryN O → r i = rr i := by
        intro r hag hr i
        induction i using Nat.strongRecOn with
        | _ i ih =>
          intro hi
          rcases Nat.lt_or_ge i (1 + (ct_args O).length) with hlt | hge
          · exact hag i hlt
          · obtain ⟨k, rfl⟩ : ∃ k, i = 1 + (ct_args O).length + k := ⟨i - (1 + (ct_args O).length), by omega⟩
            have hk : k < (ct_ec O).length := by unfold c_entryN at hi; omega
            have hq : (ct_ec O)[k]? = some ((ct_ec O)[k]'hk) := List.getElem?_eq_getElem hk
            have c1 := g13 r hr k _ hq
            have c2 := hpre.2.1 k _ hq
            obtain ⟨b1, b2⟩ := g12 k _ hq
            rw [hB2] at c1
            rw [c_val_ids hi] at c1
            refine c_cell_fun hD (fun hb => ?_) ?_ c1 c2
            · have := b1 hb
              rw [c_val_ids (by omega)]
              exact ih _ this (by omega)
            · refine c_ev_congr fun z hz => ?_
              have := b2 z hz
              rw [c_val_ids (by omega)]
              exact ih _ this (by omega)
      have s1 : c_sat (c_entryN O) rr B.1 (lv_args 0 vals) (vs ++ []) w := by
        obtain ⟨h0, r1, h1, h2⟩ := g1
        exact ⟨by rw [hB1]; exact Nat.le_refl _, r1, fun i hi => agree r1 h1 (h2 r1 (c_agr_rf _ _)) i hi, h2⟩
      split at h
      · cases h
      · rename_i C hC
        cases h
        obtain ⟨B', k1, k2, k3, k4⟩ := c_assumes_ok (ct_pre O) B.1 B.2 s1 (fun f hf e he r hag hr => by
          rw [c_sb_ok (fun i e h => h) r he, hB2]
          have : c_ev (c_val r (c_ids (c_entryN O))) f = c_ev rr f := c_ev_congr fun z hz => by
            have h9 := c_sb_lt he z hz
            rw [hB2, c_ids_len] at h9
            rw [c_val_ids h9]
            exact hag _ h9
          rw [this]
          exact hpre.2.2.1 f hf)
        rw [hC] at k1
        cases k1
        obtain ⟨m1, m2, m3⟩ := c_flags_ok (th := B.2) (ct_pfl O) C k2 (fun q hq hk e he r hag hr => by
          have h9 : q.1 < c_entryN O := by
            have := (List.getElem?_eq_some_iff.mp he).1
            rw [hB2, c_ids_len] at this
            exact this
          rw [hB2, c_ids_get h9] at he
          cases he
          rw [c_ev_sym, hag _ h9]
          exact (hpre.2.2.2 q hq).2)
        have hcu : c_cu C = 0 := (congrArg (fun z => z.2.2.2.1) k3.2.2).trans g4
        have hsu : c_su C = 0 := (congrArg (fun z => z.2.2.2.2) k3.2.2).trans g5
        exact ⟨m1.setS fun r hr => trivial, m2.trans hcu, m3.trans hsu⟩
    · cases h
