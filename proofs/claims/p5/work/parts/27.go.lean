/-! a whole method -/
abbrev cRow : Type := Nat × Jvm.ClassFile.Instr × Nat
/-- rows of a method's code, in pieces; each piece with its last place -/
abbrev cCode : Type := List (Nat × List cRow)
def c_findR (pc : Nat) : List cRow → Option (Jvm.ClassFile.Instr × Nat)
  | [] => none
  | q :: l => if Nat.beq q.1 pc then some q.2 else c_findR pc l
def c_find (pc : Nat) : cCode → Option (Jvm.ClassFile.Instr × Nat)
  | [] => none
  | q :: l => if Nat.ble pc q.1 then c_findR pc q.2 else c_find pc l
theorem c_findR_ok {pc : Nat} {x : Jvm.ClassFile.Instr × Nat} : ∀ {l : List cRow}, c_findR pc l = some x → (pc, x) ∈ l
  | [], h => by cases h
  | q :: l, h => by
    unfold c_findR at h
    split at h
    · rename_i hq
      cases h
      rw [← Nat.eq_of_beq_eq_true hq]
      exact List.mem_cons_self
    · exact List.mem_cons_of_mem _ (c_findR_ok h)
theorem c_find_ok {pc : Nat} {x : Jvm.ClassFile.Instr × Nat} : ∀ {l : cCode}, c_find pc l = some x → ∃ q ∈ l, (pc, x) ∈ q.2
  | [], h => by cases h
  | q :: l, h => by
    unfold c_find at h
    split at h
    · exact ⟨q, List.mem_cons_self, c_findR_ok h⟩
    · obtain ⟨y, y1, y2⟩ := c_find_ok h
      exact ⟨y, List.mem_cons_of_mem _ y1, y2⟩
/-- a method as the checker sees it: links, locals, own class, what it is told ahead, code, cuts -/
abbrev cBody : Type := Nat × Nat × cAnn × cCode × List cCut
def c_proA (K : cTab) (O : cCtr) (A : cSt) : Option Nat → Option cSt
  | none => some A
  | some t => c_prom K O A t
def c_one (K : cTab) (P : cPrg) (O : cCtr) (b : cBody) (A : cSt) (pc : Nat) : Option (List (Nat × cSt)) := match c_proA K O A (c_annOf pc 1 b.2.2.1), c_find pc b.2.2.2.1 with
  | some B, some x => c_step K P O b.1 b.2.1 b.2.2.1 B pc x.2 x.1
  | _, _ => none
def c_isH (pc : Nat) (l : List cCut) : Bool := l.any (fun q => Nat.beq q.1 pc)
def c_go (K : cTab) (P : cPrg) (O : cCtr) (b : cBody) (src : Option cLin) : Nat → Bool → List (Nat × cSt) → Bool
  | 0, _, _ => false
  | _ + 1, _, [] => true
  | n + 1, first, x :: l => if !first && c_isH x.1 b.2.2.2.2 then b.2.2.2.2.any (fun q => Nat.beq q.1 x.1 && c_mat (c_entryN O) src x.2 q) && c_go K P O b src n false l
    else match c_one K P O b x.2 x.1 with
      | none => false
      | some L => c_go K P O b src n false (L ++ l)
def c_cutOk (K : cTab) (P : cPrg) (O : cCtr) (b : cBody) (fuel : Nat) (q : cCut) : Bool := c_wfT q.2.1 && Nat.ble (c_entryN O) q.2.1.1 && c_wfL q.2.1.1 q.2.2 && c_ent q.2.1.2.1 q.2.1.2.2.2.2.1 3 q.2.2 && c_go K P O b (some q.2.2) fuel true [(q.1, q.2.1)]
section GO
variable {p : Program} {l : Launch} {e : Env} {R : Room} {s : State} {m : MethodId} {args : Array Value} {below : List Frame} {meth : Method} {c : Code} {D : va_G} {cl : List vw_C} {dA : Nat → ClassId} {AA : Nat → Prop} {K : cTab} {O : cCtr} {w0 : cWld} {cc : ByteArray} {nL : Nat} {Q : State → Prop} {n0 : Nat} {r0 rr : Nat → Int} {P : cPrg} {b : cBody}
theorem c_land_ok {ne : Nat} {src : Option cLin} {A : cSt} {q : cCut} (hm : c_mat ne src A q = true) (hwf : c_wfT q.2.1 = true) (hs0 : ∀ s, src = some s → c_wfL n0 s = true) (hne : ne ≤ n0) (hrr : c_agr ne rr r0) (hc : ∀ r1, c_agr ne rr r1 → (∀ s, src = some s → c_ev r1 q.2.2 + 1 ≤ c_ev r0 s) → c_OK ((p, l, e, R, s, m, args, below, meth, c), (D, cl, dA, AA), (K, O, w0), (cc, nL, Q)) q.2.1.1 r1 q.1 q.2.1) : c_OK ((p, l, e, R, s, m, args, below, meth, c), (D, cl, dA, AA), (K, O, w0), (cc, nL, Q)) n0 r0 q.1 A := by
  intro lv st w cu su hcu hsu hT hE hs H locs ls hP hD hS hl
  obtain ⟨r, hag, hr⟩ := hs.at
  obtain ⟨lv', l1, sT, agr, cu1, su1, ne1, hms⟩ := c_mat_ok hr hm
  subst hcu; subst hsu
  refine W.widen cu1 su1 (hc (c_val r (c_thOf ne q.2.1 A)) (fun i hi => (agr i hi).trans ((hag i (Nat.lt_of_lt_of_le hi hne)).trans (hrr i hi))) (fun s hs => ?_) lv' st w _ _ rfl rfl hT hE ⟨Nat.le_refl _, _, c_agr_rf _ _, fun r' hr' => c_wfT_ok hwf hr' sT⟩ H locs ls hP hD hS ⟨hl.1, hl.2.1, fun z hz => hl.2.2 z (l1 z hz)⟩)
  rw [← c_wfL_ok (hs0 s hs) hag]
  exact hms s hs
theorem c_go_ok {src : Option cLin} (hstep : ∀ (pc : Nat) (A : cSt) (x : Jvm.ClassFile.Instr × Nat) (L : List (Nat × cSt)), c_find pc b.2.2.2.1 = some x → c_step K P O b.1 b.2.1 b.2.2.1 A pc x.2 x.1 = some L → (∀ q ∈ L, c_OK ((p, l, e, R, s, m, args, below, meth, c), (D, cl, dA, AA), (K, O, w0), (cc, nL, Q)) n0 r0 q.1 q.2) → c_OK ((p, l, e, R, s, m, args, below, meth, c), (D, cl, dA, AA), (K, O, w0), (cc, nL, Q)) n0 r0 pc A)
    (hJ : c_Jnw K) (hrw : c_noRaw K) (hs0 : ∀ s, src = some s → c_wfL n0 s = true) (hne : c_entryN O ≤ n0) (hrr : c_agr (c_entryN O) rr r0) (hcut : ∀ q ∈ b.2.2.2.2, c_wfT q.2.1 = true ∧ ∀ r1, c_agr (c_entryN O) rr r1 → (∀ s, src = some s → c_ev r1 q.2.2 + 1 ≤ c_ev r0 s) → c_OK ((p, l, e, R, s, m, args, below, meth, c), (D, cl, dA, AA), (K, O, w0), (cc, nL, Q)) q.2.1.1 r1 q.1 q.2.1) :
    ∀ (n : Nat) (first : Bool) (W : List (Nat × cSt)), c_go K P O b src n first W = true → ∀ x ∈ W, c_OK ((p, l, e, R, s, m, args, below, meth, c), (D, cl, dA, AA), (K, O, w0), (cc, nL, Q)) n0 r0 x.1 x.2
  | 0, _, _, h, _, _ => by
    unfold c_go at h
    cases h
  | n + 1, _, [], _, x, hx => by cases hx
  | n + 1, first, y :: l, h, x, hx => by
    unfold c_go at h
    split at h
    · rw [Bool.and_eq_true] at h
      rcases List.mem_cons.mp hx with rfl | hx
      · obtain ⟨q, q1, q2⟩ := List.any_eq_true.mp h.1
        rw [Bool.and_eq_true] at q2
        have hq := c_land_ok q2.2 (hcut q q1).1 hs0 hne hrr (hcut q q1).2
        rw [Nat.eq_of_beq_eq_true q2.1] at hq
        exact hq
      · exact c_go_ok hstep hJ hrw hs0 hne hrr hcut n false l h.2 x hx
    · split at h
      · cases h
      · rename_i L hL
        have ih := c_go_ok hstep hJ hrw hs0 hne hrr hcut n false (L ++ l) h
        rcases List.mem_cons.mp hx with rfl | hx
        · unfold c_one at hL
          split at hL
          · rename_i B z hB hz
            have hBok := hstep _ B z L hz hL (fun q hq => ih q (List.mem_append_left _ hq))
            cases ha : c_annOf x.1 1 b.2.2.1 with
            | none =>
              rw [ha] at hB
              cases hB
              exact hBok
            | some t =>
              rw [ha] at hB
              intro lv st w cu su hcu hsu hT hE hs H locs ls hP hD hS hl
              obtain ⟨g, g1, g2, g3, g4, g5⟩ := c_prom_ok hJ hrw hB hs hT hD hE
              exact hBok lv st (g, w.2) cu su (g4.trans hcu) (g5.trans hsu) g2 g3 g1 H locs ls hP hD hS hl
          · cases hL
        · exact ih x (List.mem_append_right _ hx)
theorem c_cuts_ok {fuel : Nat} (hstep : ∀ (n0 : Nat) (r0 : Nat → Int), c_entryN O ≤ n0 → c_agr (c_entryN O) rr r0 → ∀ (pc : Nat) (A : cSt) (x : Jvm.ClassFile.Instr × Nat) (L : List (Nat × cSt)), c_find pc b.2.2.2.1 = some x → c_step K P O b.1 b.2.1 b.2.2.1 A pc x.2 x.1 = some L → (∀ q ∈ L, c_OK ((p, l, e, R, s, m, args, below, meth, c), (D, cl, dA, AA), (K, O, w0), (cc, nL, Q)) n0 r0 q.1 q.2) → c_OK ((p, l, e, R, s, m, args, below, meth, c), (D, cl, dA, AA), (K, O, w0), (cc, nL, Q)) n0 r0 pc A)
    (hJ : c_Jnw K) (hrw : c_noRaw K) (hck : ∀ q ∈ b.2.2.2.2, c_cutOk K P O b fuel q = true) : ∀ (k : Nat), ∀ q ∈ b.2.2.2.2, ∀ r1, c_agr (c_entryN O) rr r1 → c_ev r1 q.2.2 < (k : Int) → c_OK ((p, l, e, R, s, m, args, below, meth, c), (D, cl, dA, AA), (K, O, w0), (cc, nL, Q)) q.2.1.1 r1 q.1 q.2.1
  | 0, q, hq, r1, hr1, hk => by
    have h := hck q hq
    unfold c_cutOk at h
    rw [Bool.and_eq_true, Bool.and_eq_true, Bool.and_eq_true, Bool.and_eq_true] at h
    intro lv st w cu su hcu hsu hT hE hs
    exfalso
    obtain ⟨r, hag, hr⟩ := hs.at
    have h5 := c_ent_ok hr.1 hr.2.2.2.1 _ _ h.1.2
    rw [c_wfL_ok h.1.1.2 hag] at h5
    omega
  | k + 1, q, hq, r1, hr1, hk => by
    have h := hck q hq
    unfold c_cutOk at h
    rw [Bool.and_eq_true, Bool.and_eq_true, Bool.and_eq_true, Bool.and_eq_true] at h
    refine c_go_ok (src := some q.2.2) (hstep q.2.1.1 r1 (Nat.le_of_ble_eq_true h.1.1.1.2) hr1) hJ hrw (fun s hs => by cases hs; exact h.1.1.2) (Nat.le_of_ble_eq_true h.1.1.1.2) hr1 (fun q' hq' => ?_) fuel true _ h.2 (q.1, q.2.1) List.mem_cons_self
    have h' := hck q' hq'
    unfold c_cutOk at h'
    rw [Bool.and_eq_true, Bool.and_eq_true, Bool.and_eq_true, Bool.and_eq_true] at h'
    refine ⟨h'.1.1.1.1, fun r2 hr2 hms => c_cuts_ok hstep hJ hrw hck k q' hq' r2 hr2 ?_⟩
    have := hms _ rfl
    omega
theorem c_whole_ok {fuel : Nat} (hstep : ∀ (n0 : Nat) (r0 : Nat → Int), c_entryN O ≤ n0 → c_agr (c_entryN O) rr r0 → ∀ (pc : Nat) (A : cSt) (x : Jvm.ClassFile.Instr × Nat) (L : List (Nat × cSt)), c_find pc b.2.2.2.1 = some x → c_step K P O b.1 b.2.1 b.2.2.1 A pc x.2 x.1 = some L → (∀ q ∈ L, c_OK ((p, l, e, R, s, m, args, below, meth, c), (D, cl, dA, AA), (K, O, w0), (cc, nL, Q)) n0 r0 q.1 q.2) → c_OK ((p, l, e, R, s, m, args, below, meth, c), (D, cl, dA, AA), (K, O, w0), (cc, nL, Q)) n0 r0 pc A)
    (hJ : c_Jnw K) (hrw : c_noRaw K) (hck : ∀ q ∈ b.2.2.2.2, c_cutOk K P O b fuel q = true) {A : cSt} (hgo : c_go K P O b none fuel false [(0, A)] = true) : c_OK ((p, l, e, R, s, m, args, below, meth, c), (D, cl, dA, AA), (K, O, w0), (cc, nL, Q)) (c_entryN O) rr 0 A := by
  refine c_go_ok (rr := rr) (src := none) (hstep (c_entryN O) rr (Nat.le_refl _) (c_agr_rf _ _)) hJ hrw (fun s hs => by cases hs) (Nat.le_refl _) (c_agr_rf _ _) (fun q hq => ?_) fuel false _ hgo (0, A) List.mem_cons_self
  have h := hck q hq
  unfold c_cutOk at h
  rw [Bool.and_eq_true, Bool.and_eq_true, Bool.and_eq_true, Bool.and_eq_true] at h
  exact ⟨h.1.1.1.1, fun r1 hr1 _ => c_cuts_ok hstep hJ hrw hck ((c_ev r1 q.2.2).toNat + 1) q hq r1 hr1 (by omega)⟩
end GO
