/-! cuts: a state falls under a template -/
/-- a template's symbols: each stands for an expression of the state; which one is no matter of trust -/
def c_bget (s : Nat) : List (Nat × cLin) → Option cLin
  | [] => none
  | q :: l => if Nat.beq q.1 s then some q.2 else c_bget s l
def c_uni : cLin → Option Nat
  | (0, [(s, 1)]) => some s
  | _ => none
def c_bnd (th : List (Nat × cLin)) (e f : cLin) : List (Nat × cLin) := match e with
  | (0, [(s, 1)]) => (match c_bget s th with
    | some _ => th
    | none => (s, f) :: th)
  | _ => th
def c_bndL (A : cSt) : List (Nat × cAV) → List (Nat × cLin) → List (Nat × cLin)
  | [], th => th
  | q :: l, th => match c_locGet q.1 (c_loc A) with
    | some b => c_bndL A l (c_bnd th q.2.2 b.2)
    | none => c_bndL A l th
def c_bndS : List cAV → List cAV → List (Nat × cLin) → List (Nat × cLin)
  | a :: l, b :: m, th => c_bndS l m (c_bnd th a.2 b.2)
  | _, _, th => th
def c_bsubs (th : List (Nat × cLin)) : List (Nat × Int) → cLin → Option cLin
  | [], acc => some acc
  | q :: t, acc => match c_bget q.1 th with
    | none => none
    | some e => c_bsubs th t (c_add (c_mul q.2 e) acc)
def c_bndM (A : cSt) : List (Nat × cLin × cAV) → List (Nat × cLin) → List (Nat × cLin)
  | [], th => th
  | q :: l, th => match c_bsubs th q.2.1.2 (q.2.1.1, []) with
    | none => c_bndM A l th
    | some idx => (match (if Nat.beq q.1 0 then some 0 else (match c_bget q.1 th with
        | some b => c_uni b
        | none => none)) with
      | none => c_bndM A l th
      | some s => (match c_mget s idx (c_me A) with
        | none => c_bndM A l th
        | some b => c_bndM A l (c_bnd th q.2.2.2 b.2)))
def c_ids2 (n : Nat) : List (Nat × cLin) := (List.range n).map (fun i => (i, c_sym i))
def c_thOf (ne : Nat) (T A : cSt) : List cLin :=
  (fun th => (List.range T.1).map (fun i => match c_bget i th with
    | some e => e
    | none => c_con 0)) (c_bndM A (c_me T) (c_bndS (c_stk T) (c_stk A) (c_bndL A (c_loc T) (c_ids2 ne))))
def c_eqS (th : List cLin) (e f : cLin) : Bool := match c_sb th e with
  | some x => c_eqL x f
  | none => false
def c_inS (A : cSt) (th : List cLin) (q : Nat × Int × Int) : Bool := match th[q.1]? with
  | some e => c_in2 A q.2.1 q.2.2 e || (c_ent A.2.1 A.2.2.2.2.1 3 (c_addc e (-q.2.1)) && c_ent A.2.1 A.2.2.2.2.1 3 (c_addc (c_mul (-1) e) q.2.2))
  | none => false
def c_flT (A : cSt) (th : List cLin) (q : Nat × Nat) : Bool := match th[q.1]? with
  | some e => (match q.2 with
    | 1 => c_nz A e
    | 2 => c_n32 A e
    | 3 => (match c_uni e with
      | some s => c_mem3 s 3 A.2.2.1
      | none => false)
    | _ => false)
  | none => false
def c_tgT (A : cSt) (th : List cLin) (q : Nat × Nat) : Bool := match th[q.1]? with
  | some e => (match c_uni e with
      | some s => (match c_tagOf s A.2.2.2.1 with
        | some t => Nat.beq t q.2
        | none => false)
      | none => decide (e.1 < 0) && e.2.isEmpty)
  | none => false
def c_lcT (A : cSt) (th : List cLin) (q : Nat × cAV) : Bool := match c_locGet q.1 (c_loc A) with
  | some b => Nat.beq b.1 q.2.1 && Nat.ble b.1 2 && c_eqS th q.2.2 b.2
  | none => false
def c_stT (th : List cLin) : List cAV → List cAV → Bool
  | [], [] => true
  | a :: l, b :: m => Nat.beq b.1 a.1 && Nat.ble b.1 2 && c_eqS th a.2 b.2 && c_stT th l m
  | _, _ => false
def c_base (th : List cLin) (b : Nat) : Option Nat := match b with
  | 0 => some 0
  | _ => (match th[b]? with
    | some e => (match c_uni e with
      | some 0 => none
      | x => x)
    | none => none)
def c_meT (A : cSt) (th : List cLin) (q : Nat × cLin × cAV) : Bool := match c_sb th q.2.1, c_base th q.1 with
  | some idx, some s => (match c_mget s idx (c_me A) with
    | some b => Nat.beq b.1 q.2.2.1 && Nat.ble b.1 2 && c_eqS th q.2.2.2 b.2
    | none => false)
  | _, _ => false
/-- head, template, measure -/
abbrev cCut : Type := Nat × cSt × cLin
def c_wfT (T : cSt) : Bool := T.2.1.all (fun q => Nat.blt q.1 T.1) && T.2.2.1.all (fun q => Nat.blt q.1 T.1) && T.2.2.2.1.all (fun q => Nat.blt q.1 T.1) && T.2.2.2.2.1.all (c_wfL T.1) && (c_loc T).all (fun q => c_wfL T.1 q.2.2) && (c_stk T).all (fun a => c_wfL T.1 a.2) && (c_me T).all (fun q => Nat.blt q.1 T.1 && c_wfL T.1 q.2.1 && c_wfL T.1 q.2.2.2)
def c_msT (A : cSt) (th : List cLin) (src : Option cLin) (ms : cLin) : Bool := match src with
  | none => true
  | some s => (match c_sb th ms with
    | some e => c_ent A.2.1 A.2.2.2.2.1 3 (c_addc (c_sub s e) (-1))
    | none => false)
def c_mat1 (ne : Nat) (src : Option cLin) (A : cSt) (T : cSt) (ms : cLin) (th : List cLin) : Bool := Nat.beq th.length T.1 && Nat.ble ne T.1 && Nat.ble ne A.1 && decide (th.take ne = c_ids ne) && T.2.1.all (c_inS A th) && T.2.2.1.all (c_flT A th) && T.2.2.2.1.all (c_tgT A th) && T.2.2.2.2.1.all (c_entS A th) && (c_loc T).all (c_lcT A th) && c_stT th (c_stk T) (c_stk A) && (c_me T).all (c_meT A th) && Nat.ble (c_cu A) (c_cu T) && Nat.ble (c_su A) (c_su T) && c_msT A th src ms
def c_mat (ne : Nat) (src : Option cLin) (A : cSt) (q : cCut) : Bool := c_mat1 ne src A q.2.1 q.2.2 (c_thOf ne q.2.1 A)
theorem c_DV_congr {r r' : Nat → Int} {a b : cAV} {v : Value} (hk : b.1 = a.1) (he : c_ev r' b.2 = c_ev r a.2) (h : c_DV r a v) : c_DV r' b v := by
  unfold c_DV at h ⊢
  rw [hk, he]
  exact h
theorem c_eqS_ok {th : List cLin} {e f : cLin} (h : c_eqS th e f = true) (r : Nat → Int) : c_ev (c_val r th) e = c_ev r f := by
  unfold c_eqS at h
  split at h
  · rename_i x hx
    rw [← c_sb_ok (fun i e h => h) r hx]
    exact c_eqL_ok h r
  · cases h
theorem c_uni_ok {e : cLin} {s : Nat} (h : c_uni e = some s) (r : Nat → Int) : c_ev r e = r s := by
  unfold c_uni at h
  split at h
  · cases h
    exact c_ev_sym r _
  · cases h
theorem c_val_get {r : Nat → Int} {th : List cLin} {i : Nat} {e : cLin} (h : th[i]? = some e) : c_val r th i = c_ev r e := by
  unfold c_val
  rw [h]
/-- a well-formed template speaks of its own symbols alone -/
theorem c_wfT_ok {T : cSt} {r r' : Nat → Int} {lv : List (Nat × Value)} {st : List Value} {w : cWld} (h : c_wfT T = true) (hr : c_agr T.1 r r') (hs : c_satR T r lv st w) : c_satR T r' lv st w := by
  unfold c_wfT at h
  rw [Bool.and_eq_true, Bool.and_eq_true, Bool.and_eq_true, Bool.and_eq_true, Bool.and_eq_true, Bool.and_eq_true] at h
  obtain ⟨⟨⟨⟨⟨⟨h1, h2⟩, h3⟩, h4⟩, h5⟩, h6⟩, h7⟩ := h
  have lt : ∀ {n : Nat}, Nat.blt n T.1 = true → r' n = r n := fun hn => hr _ (Nat.le_of_ble_eq_true hn)
  obtain ⟨s1, s2, s3, s4, s5, s6, s7⟩ := hs
  have F1 : ∀ {l : List (Nat × cAV)} {m : List (Nat × Value)}, l.all (fun q => c_wfL T.1 q.2.2) = true → c_F2 (c_lr r) l m → c_F2 (c_lr r') l m := by
    intro l
    induction l with
    | nil => intro m _ hF; cases m with
      | nil => exact hF
      | cons b m => exact hF.elim
    | cons a l ih =>
      intro m hw hF
      cases m with
      | nil => exact hF.elim
      | cons b m =>
        rw [List.all_cons, Bool.and_eq_true] at hw
        exact ⟨⟨hF.1.1, c_DV_congr rfl (c_wfL_ok hw.1 hr) hF.1.2⟩, ih hw.2 hF.2⟩
  have F2 : ∀ {l : List cAV} {m : List Value}, l.all (fun a => c_wfL T.1 a.2) = true → c_F2 (c_DV r) l m → c_F2 (c_DV r') l m := by
    intro l
    induction l with
    | nil => intro m _ hF; cases m with
      | nil => exact hF
      | cons b m => exact hF.elim
    | cons a l ih =>
      intro m hw hF
      cases m with
      | nil => exact hF.elim
      | cons b m =>
        rw [List.all_cons, Bool.and_eq_true] at hw
        exact ⟨c_DV_congr rfl (c_wfL_ok hw.1 hr) hF.1, ih hw.2 hF.2⟩
  refine ⟨fun q hq => ?_, fun q hq => ?_, fun q hq => ?_, fun f hf => ?_, F1 h5 s5, F2 h6 s6, fun q hq => ?_⟩
  · rw [lt (List.all_eq_true.mp h1 q hq)]
    exact s1 q hq
  · rw [lt (List.all_eq_true.mp h2 q hq)]
    exact s2 q hq
  · unfold c_tag
    rw [lt (List.all_eq_true.mp h3 q hq)]
    exact s3 q hq
  · rw [c_wfL_ok (List.all_eq_true.mp h4 f hf) hr]
    exact s4 f hf
  · have h8 := List.all_eq_true.mp h7 q hq
    rw [Bool.and_eq_true, Bool.and_eq_true] at h8
    have h9 := s7 q hq
    unfold c_mem at h9 ⊢
    split at h9
    · obtain ⟨j, k1, k2⟩ := h9
      exact ⟨j, (c_wfL_ok h8.1.2 hr).trans k1, k2.trans (c_wfL_ok h8.2 hr).symm⟩
    · obtain ⟨a, e, j, v, k1, k2, k3, k4, k5⟩ := h9
      exact ⟨a, e, j, v, (lt h8.1.1).trans k1, k2, (c_wfL_ok h8.1.2 hr).trans k3, k4, c_DV_congr rfl (c_wfL_ok h8.2 hr) k5⟩
section CU
variable {A T : cSt} {th : List cLin} {r : Nat → Int} {lv : List (Nat × Value)} {st : List Value} {w : cWld}
theorem c_lcs_ok (hr : c_satR A r lv st w) : ∀ (l : List (Nat × cAV)), l.all (c_lcT A th) = true → ∃ lv', c_F2 (c_lr (c_val r th)) l lv' ∧ ∀ q ∈ lv', q ∈ lv
  | [], _ => ⟨[], trivial, fun q hq => by cases hq⟩
  | x :: l, h => by
    rw [List.all_cons, Bool.and_eq_true] at h
    obtain ⟨lv', g1, g2⟩ := c_lcs_ok hr l h.2
    have h1 := h.1
    unfold c_lcT at h1
    split at h1
    · rename_i b hb
      rw [Bool.and_eq_true, Bool.and_eq_true] at h1
      obtain ⟨k, v, k1, -, k3⟩ := c_locGet_ok hr.2.2.2.2.1 hb
      refine ⟨(x.1, v) :: lv', ⟨⟨rfl, c_DV_congr (Nat.eq_of_beq_eq_true h1.1.1).symm (c_eqS_ok h1.2 r) k3⟩, g1⟩, fun q hq => ?_⟩
      rcases List.mem_cons.mp hq with rfl | hq
      · exact List.mem_of_getElem? k1
      · exact g2 q hq
    · cases h1
theorem c_sts_ok : ∀ (l m : List cAV) (st : List Value), c_stT th l m = true → c_F2 (c_DV r) m st → c_F2 (c_DV (c_val r th)) l st
  | [], [], _, _, hF => by
    rw [c_F2_nil hF]
    trivial
  | a :: l, b :: m, st, h, hF => by
    obtain ⟨v, ss, rfl, f1, f2⟩ := c_F2_cons hF
    unfold c_stT at h
    rw [Bool.and_eq_true, Bool.and_eq_true, Bool.and_eq_true] at h
    exact ⟨c_DV_congr (Nat.eq_of_beq_eq_true h.1.1.1).symm (c_eqS_ok h.1.2 r) f1, c_sts_ok l m ss h.2 f2⟩
  | [], _ :: _, _, h, _ => by cases h
  | _ :: _, [], _, h, _ => by cases h
theorem c_mat_ok {ne : Nat} {src : Option cLin} {ms : cLin} (hr : c_satR A r lv st w) (h : c_mat1 ne src A T ms th = true) :
    ∃ lv', (∀ q ∈ lv', q ∈ lv) ∧ c_satR T (c_val r th) lv' st w ∧ c_agr ne r (c_val r th) ∧ c_cu A ≤ c_cu T ∧ c_su A ≤ c_su T ∧ ne ≤ T.1 ∧ ∀ s, src = some s → c_ev (c_val r th) ms + 1 ≤ c_ev r s := by
  unfold c_mat1 at h
  rw [Bool.and_eq_true, Bool.and_eq_true, Bool.and_eq_true, Bool.and_eq_true, Bool.and_eq_true, Bool.and_eq_true, Bool.and_eq_true, Bool.and_eq_true, Bool.and_eq_true, Bool.and_eq_true, Bool.and_eq_true, Bool.and_eq_true, Bool.and_eq_true] at h
  obtain ⟨⟨⟨⟨⟨⟨⟨⟨⟨⟨⟨⟨⟨h1, h2⟩, h3⟩, h4⟩, h5⟩, h6⟩, h7⟩, h8⟩, h9⟩, h10⟩, h11⟩, h12⟩, h13⟩, h14⟩ := h
  obtain ⟨lv', l1, l2⟩ := c_lcs_ok hr _ h9
  have h4 := of_decide_eq_true h4
  refine ⟨lv', l2, ⟨fun q hq => ?_, fun q hq => ?_, fun q hq => ?_, fun f hf => ?_, l1, c_sts_ok _ _ _ h10 hr.2.2.2.2.2.1, fun q hq => ?_⟩, fun i hi => ?_, Nat.le_of_ble_eq_true h12, Nat.le_of_ble_eq_true h13, Nat.le_of_ble_eq_true h2, fun s hs => ?_⟩
  · have := List.all_eq_true.mp h5 q hq
    unfold c_inS at this
    split at this
    · rename_i e he
      rw [c_val_get he]
      rw [Bool.or_eq_true, Bool.and_eq_true] at this
      rcases this with k | k
      · exact c_in2_ok hr k
      · have k1 := c_ent_ok hr.1 hr.2.2.2.1 _ _ k.1
        have k2 := c_ent_ok hr.1 hr.2.2.2.1 _ _ k.2
        rw [c_ev_addc] at k1 k2
        rw [c_ev_mul] at k2
        omega
    · cases this
  · have := List.all_eq_true.mp h6 q hq
    unfold c_flT at this
    split at this
    · rename_i e he
      rw [c_val_get he]
      split at this
      · rename_i hk
        rw [hk]
        exact c_nz_ok hr this
      · rename_i hk
        rw [hk]
        exact c_n32_ok hr this
      · rename_i hk
        rw [hk]
        split at this
        · rename_i s hs
          rw [c_uni_ok hs]
          exact hr.2.1 _ (c_mem3_ok this)
        · cases this
      · cases this
    · cases this
  · have := List.all_eq_true.mp h7 q hq
    unfold c_tgT at this
    split at this
    · rename_i e he
      unfold c_tag
      rw [c_val_get he]
      split at this
      · rename_i s hs
        rw [c_uni_ok hs]
        split at this
        · rename_i t ht
          rw [← Nat.eq_of_beq_eq_true this]
          exact hr.2.2.1 _ (c_tagOf_ok ht)
        · cases this
      · intro h0
        rw [Bool.and_eq_true] at this
        have k1 := of_decide_eq_true this.1
        rw [c_ev_nil (List.isEmpty_iff.mp this.2)] at h0
        omega
    · cases this
  · have := List.all_eq_true.mp h8 f hf
    unfold c_entS at this
    split at this
    · cases this
    · rename_i e he
      have h5 := c_ent_ok hr.1 hr.2.2.2.1 _ _ this
      rw [c_sb_ok (fun i e h => h) r he] at h5
      exact h5
  · have := List.all_eq_true.mp h11 q hq
    unfold c_meT at this
    split at this
    · rename_i idx s hidx hs
      split at this
      · rename_i b hb
        rw [Bool.and_eq_true, Bool.and_eq_true] at this
        obtain ⟨z, z1, z2, z3, z4⟩ := c_mget_ok hb
        have hm := hr.2.2.2.2.2.2 z z1
        have hix : c_ev (c_val r th) q.2.1 = c_ev r z.2.1 := by
          rw [← c_sb_ok (fun i e h => h) r hidx, z3]
        unfold c_base at hs
        split at hs
        · rename_i hq0
          cases hs
          unfold c_mem at hm ⊢
          rw [z2] at hm
          rw [hq0]
          obtain ⟨j, m1, m2⟩ := hm
          refine ⟨j, hix.trans m1, ?_⟩
          rw [m2, z4]
          exact (c_eqS_ok this.2 r).symm
        · rename_i hq0
          split at hs
          · rename_i e he
            have hs2 : c_uni e = some s ∧ s ≠ 0 := by
              split at hs
              · cases hs
              · rename_i x hx
                refine ⟨hs, fun h0 => ?_⟩
                subst h0
                exact hx hs
            unfold c_mem at hm ⊢
            split at hm
            · rename_i hz0
              exact absurd (z2.symm.trans hz0) hs2.2
            · obtain ⟨a, ce, j, v, m1, m2, m3, m4, m5⟩ := hm
              refine ⟨a, ce, j, v, ?_, m2, hix.trans m3, m4, c_DV_congr (a := b) (Nat.eq_of_beq_eq_true this.1.1).symm (c_eqS_ok this.2 r) (by rw [← z4]; exact m5)⟩
              rw [c_val_get he, c_uni_ok hs2.1, ← z2]
              exact m1
          · cases hs
      · cases this
    · cases this
  · have h0 : (th.take ne)[i]? = some (c_sym i) := by rw [h4]; exact c_ids_get hi
    rw [List.getElem?_take_of_lt hi] at h0
    rw [c_val_get h0, c_ev_sym]
  · unfold c_msT at h14
    rw [hs] at h14
    dsimp only at h14
    split at h14
    · rename_i e he
      have h5 := c_ent_ok hr.1 hr.2.2.2.1 _ _ h14
      rw [c_ev_addc, c_ev_sub, c_sb_ok (fun i e h => h) r he] at h5
      omega
    · cases h14
end CU
