/-! a whole method -/
abbrev cRow : Type := Nat × Jvm.ClassFile.Instr × Nat
/-- rows of a method's code, in pieces; each piece with its last place -/
abbrev cCode : Type := List (Nat × List cRow)
def c_findR (pc : Nat) : List cRow → Option (Jvm.ClassFile.Instr × Nat)
  | [] => none
  | q :: l => if Nat.beq q.1 pc then some q.2 else c_findR pc l
def c_find (pc : Nat) : cCode → Option (Jvm.ClassFile.Instr × Nat)
  | [] => none
  | q :: l => if Nat.ble pc q.1 then c_findR pc q.2 else c_find pc l
theorem c_findR_ok {pc : Nat} {x : Jvm.ClassFile.Instr × Nat} : ∀ {l : List cRow}, c_findR pc l = some x → (pc, x) ∈ l
  | [], h => by cases h
  | q :: l, h => by
    unfold c_findR at h
    split at h
    · rename_i hq
      cases h
      rw [← Nat.eq_of_beq_eq_true hq]
      exact List.mem_cons_self
    · exact List.mem_cons_of_mem _ (c_findR_ok h)
theorem c_find_ok {pc : Nat} {x : Jvm.ClassFile.Instr × Nat} : ∀ {l : cCode}, c_find pc l = some x → ∃ q ∈ l, (pc, x) ∈ q.2
  | [], h => by cases h
  | q :: l, h => by
    unfold c_find at h
    split at h
    · exact ⟨q, List.mem_cons_self, c_findR_ok h⟩
    · obtain ⟨y, y1, y2⟩ := c_find_ok h
      exact ⟨y, List.mem_cons_of_mem _ y1, y2⟩
/-- a method as the checker sees it: links, locals, own class, what it is told ahead, code, cuts -/
abbrev cBody : Type := Nat × Nat × cAnn × cCode × List cCut
def c_proA (K : cTab) (O : cCtr) (A : cSt) : Option Nat → Option cSt
  | none => some A
  | some t => c_prom K O A t
/-- (pc, 8, 1000 f + s): five times the field f of symbol 1's object isn't below five times the symbol s -/
def c_asF (s : Nat) (e : cLin) : cLin := c_sub (c_mul 5 e) (c_mul 5 (c_sym s))
/-- 10^8 + 10^6 f1 + 10^4 f2 + 100 s1 + s2: 5 f1 - 5 f2 - 5 s1 + 5 s2 - 5 isn't below 0 -/
def c_asG (A : cSt) (k : Nat) : Option cLin := if Nat.blt k 100000000 then (match c_mget 1 (c_con ((k / 1000 : Nat) : Int)) (c_me A) with
    | some (0, e) => some (c_asF (k % 1000) e)
    | _ => none) else (match c_mget 1 (c_con ((k / 1000000 % 100 : Nat) : Int)) (c_me A), c_mget 1 (c_con ((k / 10000 % 100 : Nat) : Int)) (c_me A) with
    | some (0, e1), some (0, e2) => some (c_addc (c_mul 5 (c_add (c_sub e1 e2) (c_sub (c_sym (k % 100)) (c_sym (k / 100 % 100))))) (-5))
    | _, _ => none)
def c_asA (A : cSt) : Option Nat → Option cSt
  | none => some A
  | some k => (match c_asG A k with
    | some g => if c_ent A.2.1 A.2.2.2.2.1 3 g then c_assume A g else none
    | none => some A)
/-- instructions that are done by hand (pc, 9, id); moves ahead of an instruction (pc, 7, id) -/
abbrev cXs : Type := (Nat → cSt → Option (List (Nat × cSt))) × (Nat → cSt → Option cSt)
def c_mvA (X : cXs) (A : cSt) : Option Nat → Option cSt
  | none => some A
  | some k => X.2 k A
def c_stp (X : cXs) (K : cTab) (P : cPrg) (O : cCtr) (b : cBody) (A : cSt) (pc : Nat) (x : Jvm.ClassFile.Instr × Nat) : Option (List (Nat × cSt)) := match c_annOf pc 9 b.2.2.1 with
  | some k => X.1 k A
  | none => c_step K P O b.1 b.2.1 b.2.2.1 A pc x.2 x.1
def c_one (X : cXs) (K : cTab) (P : cPrg) (O : cCtr) (b : cBody) (A : cSt) (pc : Nat) : Option (List (Nat × cSt)) := match c_proA K O A (c_annOf pc 1 b.2.2.1) with
  | none => none
  | some B => (match c_asA B (c_annOf pc 8 b.2.2.1) with
    | none => none
    | some C => (match c_mvA X C (c_annOf pc 7 b.2.2.1), c_find pc b.2.2.2.1 with
      | some D, some x => c_stp X K P O b D pc x
      | _, _ => none))
def c_isH (pc : Nat) (l : List cCut) : Bool := l.any (fun q => Nat.beq q.1 pc)
def c_go (X : cXs) (K : cTab) (P : cPrg) (O : cCtr) (b : cBody) (src : Option cLin) : Nat → Bool → List (Nat × cSt) → Bool
  | 0, _, _ => false
  | _ + 1, _, [] => true
  | n + 1, first, x :: l => if !first && c_isH x.1 b.2.2.2.2 then b.2.2.2.2.any (fun q => Nat.beq q.1 x.1 && c_mat (c_entryN O) src x.2 q) && c_go X K P O b src n false l
    else match c_one X K P O b x.2 x.1 with
      | none => false
      | some L => c_go X K P O b src n false (L ++ l)
def c_cutOk (X : cXs) (K : cTab) (P : cPrg) (O : cCtr) (b : cBody) (fuel : Nat) (q : cCut) : Bool := c_wfT q.2.1 && Nat.ble (c_entryN O) q.2.1.1 && c_wfL q.2.1.1 q.2.2 && c_ent q.2.1.2.1 q.2.1.2.2.2.2.1 3 q.2.2 && c_go X K P O b (some q.2.2) fuel true [(q.1, q.2.1)]
section GO
variable {p : Program} {l : Launch} {e : Env} {R : Room} {s : State} {m : MethodId} {args : Array Value} {below : List Frame} {meth : Method} {c : Code} {D : va_G} {cl : List vw_C} {dA : Nat → ClassId} {AA : Nat → Prop} {K : cTab} {O : cCtr} {w0 : cWld} {cc : ByteArray} {nL : Nat} {Q : State → Prop} {n0 : Nat} {r0 rr : Nat → Int} {P : cPrg} {b : cBody} {X : cXs}
theorem c_land_ok {ne : Nat} {src : Option cLin} {A : cSt} {q : cCut} (hm : c_mat ne src A q = true) (hwf : c_wfT q.2.1 = true) (hs0 : ∀ s, src = some s → c_wfL n0 s = true) (hne : ne ≤ n0) (hrr : c_agr ne rr r0) (hc : ∀ r1, c_agr ne rr r1 → (∀ s, src = some s → c_ev r1 q.2.2 + 1 ≤ c_ev r0 s) → c_OK ((p, l, e, R, s, m, args, below, meth, c), (D, cl, dA, AA), (K, O, w0), (cc, nL, Q)) q.2.1.1 r1 q.1 q.2.1) : c_OK ((p, l, e, R, s, m, args, below, meth, c), (D, cl, dA, AA), (K, O, w0), (cc, nL, Q)) n0 r0 q.1 A := by
  intro lv st w cu su hcu hsu hT hE hs H locs ls hP hD hS hl
  obtain ⟨r, hag, hr⟩ := hs.at
  obtain ⟨lv', l1, sT, agr, cu1, su1, ne1, hms⟩ := c_mat_ok hr hm
  subst hcu; subst hsu
  refine W.widen cu1 su1 (hc (c_val r (c_thOf ne q.2.1 A)) (fun i hi => (agr i hi).trans ((hag i (Nat.lt_of_lt_of_le hi hne)).trans (hrr i hi))) (fun s hs => ?_) lv' st w _ _ rfl rfl hT hE ⟨Nat.le_refl _, _, c_agr_rf _ _, fun r' hr' => c_wfT_ok hwf hr' sT⟩ H locs ls hP hD hS ⟨hl.1, hl.2.1, fun z hz => hl.2.2 z (l1 z hz)⟩)
  rw [← c_wfL_ok (hs0 s hs) hag]
  exact hms s hs
theorem c_go_ok {src : Option cLin} (hstep : ∀ (pc : Nat) (A : cSt) (x : Jvm.ClassFile.Instr × Nat) (L : List (Nat × cSt)), c_find pc b.2.2.2.1 = some x → c_stp X K P O b A pc x = some L → (∀ q ∈ L, c_OK ((p, l, e, R, s, m, args, below, meth, c), (D, cl, dA, AA), (K, O, w0), (cc, nL, Q)) n0 r0 q.1 q.2) → c_OK ((p, l, e, R, s, m, args, below, meth, c), (D, cl, dA, AA), (K, O, w0), (cc, nL, Q)) n0 r0 pc A)
    (hmv : ∀ (pc : Nat) (A B : cSt) (k : Nat), X.2 k A = some B → c_OK ((p, l, e, R, s, m, args, below, meth, c), (D, cl, dA, AA), (K, O, w0), (cc, nL, Q)) n0 r0 pc B → c_OK ((p, l, e, R, s, m, args, below, meth, c), (D, cl, dA, AA), (K, O, w0), (cc, nL, Q)) n0 r0 pc A)
    (hJ : c_Jnw K) (hrw : c_noRaw K) (hs0 : ∀ s, src = some s → c_wfL n0 s = true) (hne : c_entryN O ≤ n0) (hrr : c_agr (c_entryN O) rr r0) (hcut : ∀ q ∈ b.2.2.2.2, c_wfT q.2.1 = true ∧ ∀ r1, c_agr (c_entryN O) rr r1 → (∀ s, src = some s → c_ev r1 q.2.2 + 1 ≤ c_ev r0 s) → c_OK ((p, l, e, R, s, m, args, below, meth, c), (D, cl, dA, AA), (K, O, w0), (cc, nL, Q)) q.2.1.1 r1 q.1 q.2.1) :
    ∀ (n : Nat) (first : Bool) (W : List (Nat × cSt)), c_go X K P O b src n first W = true → ∀ x ∈ W, c_OK ((p, l, e, R, s, m, args, below, meth, c), (D, cl, dA, AA), (K, O, w0), (cc, nL, Q)) n0 r0 x.1 x.2
  | 0, _, _, h, _, _ => by
    unfold c_go at h
    cases h
  | n + 1, _, [], _, x, hx => by cases hx
  | n + 1, first, y :: l2, h, x, hx => by
    unfold c_go at h
    split at h
    · rw [Bool.and_eq_true] at h
      rcases List.mem_cons.mp hx with rfl | hx
      · obtain ⟨q, q1, q2⟩ := List.any_eq_true.mp h.1
        rw [Bool.and_eq_true] at q2
        have hq := c_land_ok q2.2 (hcut q q1).1 hs0 hne hrr (hcut q q1).2
        rw [Nat.eq_of_beq_eq_true q2.1] at hq
        exact hq
      · exact c_go_ok hstep hmv hJ hrw hs0 hne hrr hcut n false l2 h.2 x hx
    · split at h
      · cases h
      · rename_i L hL
        have ih := c_go_ok hstep hmv hJ hrw hs0 hne hrr hcut n false (L ++ l2) h
        rcases List.mem_cons.mp hx with rfl | hx
        · unfold c_one at hL
          split at hL
          · cases hL
          · rename_i B hB
            split at hL
            · cases hL
            · rename_i C hC
              split at hL
              · rename_i E z hE' hz
                have hEok := hstep _ E z L hz hL (fun q hq => ih q (List.mem_append_left _ hq))
                have hCok : c_OK ((p, l, e, R, s, m, args, below, meth, c), (D, cl, dA, AA), (K, O, w0), (cc, nL, Q)) n0 r0 x.1 C := by
                  cases ha : c_annOf x.1 7 b.2.2.1 with
                  | none =>
                    rw [ha] at hE'
                    cases hE'
                    exact hEok
                  | some t =>
                    rw [ha] at hE'
                    exact hmv _ _ _ _ hE' hEok
                have hBok : c_OK ((p, l, e, R, s, m, args, below, meth, c), (D, cl, dA, AA), (K, O, w0), (cc, nL, Q)) n0 r0 x.1 B := by
                  cases ha : c_annOf x.1 8 b.2.2.1 with
                  | none =>
                    rw [ha] at hC
                    cases hC
                    exact hCok
                  | some t =>
                    rw [ha] at hC
                    unfold c_asA at hC
                    dsimp only at hC
                    split at hC
                    · split at hC
                      · rename_i hen
                        intro lv st w cu su hcu hsu hT hE hs H locs ls hP hD hS hl
                        obtain ⟨C', e1, e2⟩ := hs.assume (fun r _ hr => c_ent_ok hr.1 hr.2.2.2.1 _ _ hen)
                        cases e1.symm.trans hC
                        have hlk := c_assume_like hC
                        have h1 := congrArg (fun x => x.2.2.2.1) hlk.2.2
                        have h2 := congrArg (fun x => x.2.2.2.2) hlk.2.2
                        exact hCok lv st w cu su (Eq.trans h1 hcu) (Eq.trans h2 hsu) hT hE e2 H locs ls hP hD hS hl
                      · cases hC
                    · cases hC
                      exact hCok
                cases ha : c_annOf x.1 1 b.2.2.1 with
                | none =>
                  rw [ha] at hB
                  cases hB
                  exact hBok
                | some t =>
                  rw [ha] at hB
                  intro lv st w cu su hcu hsu hT hE hs H locs ls hP hD hS hl
                  obtain ⟨g, g1, g2, g3, g4, g5⟩ := c_prom_ok hJ hrw hB hs hT hD hE
                  exact hBok lv st (g, w.2) cu su (g4.trans hcu) (g5.trans hsu) g2 g3 g1 H locs ls hP hD hS hl
              · cases hL
        · exact ih x (List.mem_append_right _ hx)
theorem c_cuts_ok {fuel : Nat} (hstep : ∀ (n0 : Nat) (r0 : Nat → Int), c_entryN O ≤ n0 → c_agr (c_entryN O) rr r0 → ∀ (pc : Nat) (A : cSt) (x : Jvm.ClassFile.Instr × Nat) (L : List (Nat × cSt)), c_find pc b.2.2.2.1 = some x → c_stp X K P O b A pc x = some L → (∀ q ∈ L, c_OK ((p, l, e, R, s, m, args, below, meth, c), (D, cl, dA, AA), (K, O, w0), (cc, nL, Q)) n0 r0 q.1 q.2) → c_OK ((p, l, e, R, s, m, args, below, meth, c), (D, cl, dA, AA), (K, O, w0), (cc, nL, Q)) n0 r0 pc A)
    (hmv : ∀ (n0 : Nat) (r0 : Nat → Int), c_entryN O ≤ n0 → c_agr (c_entryN O) rr r0 → ∀ (pc : Nat) (A B : cSt) (k : Nat), X.2 k A = some B → c_OK ((p, l, e, R, s, m, args, below, meth, c), (D, cl, dA, AA), (K, O, w0), (cc, nL, Q)) n0 r0 pc B → c_OK ((p, l, e, R, s, m, args, below, meth, c), (D, cl, dA, AA), (K, O, w0), (cc, nL, Q)) n0 r0 pc A)
    (hJ : c_Jnw K) (hrw : c_noRaw K) (hck : ∀ q ∈ b.2.2.2.2, c_cutOk X K P O b fuel q = true) : ∀ (k : Nat), ∀ q ∈ b.2.2.2.2, ∀ r1, c_agr (c_entryN O) rr r1 → c_ev r1 q.2.2 < (k : Int) → c_OK ((p, l, e, R, s, m, args, below, meth, c), (D, cl, dA, AA), (K, O, w0), (cc, nL, Q)) q.2.1.1 r1 q.1 q.2.1
  | 0, q, hq, r1, hr1, hk => by
    have h := hck q hq
    unfold c_cutOk at h
    rw [Bool.and_eq_true, Bool.and_eq_true, Bool.and_eq_true, Bool.and_eq_true] at h
    intro lv st w cu su hcu hsu hT hE hs
    exfalso
    obtain ⟨r, hag, hr⟩ := hs.at
    have h5 := c_ent_ok hr.1 hr.2.2.2.1 _ _ h.1.2
    rw [c_wfL_ok h.1.1.2 hag] at h5
    omega
  | k + 1, q, hq, r1, hr1, hk => by
    have h := hck q hq
    unfold c_cutOk at h
    rw [Bool.and_eq_true, Bool.and_eq_true, Bool.and_eq_true, Bool.and_eq_true] at h
    refine c_go_ok (src := some q.2.2) (hstep q.2.1.1 r1 (Nat.le_of_ble_eq_true h.1.1.1.2) hr1) (hmv q.2.1.1 r1 (Nat.le_of_ble_eq_true h.1.1.1.2) hr1) hJ hrw (fun s hs => by cases hs; exact h.1.1.2) (Nat.le_of_ble_eq_true h.1.1.1.2) hr1 (fun q' hq' => ?_) fuel true _ h.2 (q.1, q.2.1) List.mem_cons_self
    have h' := hck q' hq'
    unfold c_cutOk at h'
    rw [Bool.and_eq_true, Bool.and_eq_true, Bool.and_eq_true, Bool.and_eq_true] at h'
    refine ⟨h'.1.1.1.1, fun r2 hr2 hms => c_cuts_ok hstep hmv hJ hrw hck k q' hq' r2 hr2 ?_⟩
    have := hms _ rfl
    omega
theorem c_whole_ok {fuel : Nat} (hstep : ∀ (n0 : Nat) (r0 : Nat → Int), c_entryN O ≤ n0 → c_agr (c_entryN O) rr r0 → ∀ (pc : Nat) (A : cSt) (x : Jvm.ClassFile.Instr × Nat) (L : List (Nat × cSt)), c_find pc b.2.2.2.1 = some x → c_stp X K P O b A pc x = some L → (∀ q ∈ L, c_OK ((p, l, e, R, s, m, args, below, meth, c), (D, cl, dA, AA), (K, O, w0), (cc, nL, Q)) n0 r0 q.1 q.2) → c_OK ((p, l, e, R, s, m, args, below, meth, c), (D, cl, dA, AA), (K, O, w0), (cc, nL, Q)) n0 r0 pc A)
    (hmv : ∀ (n0 : Nat) (r0 : Nat → Int), c_entryN O ≤ n0 → c_agr (c_entryN O) rr r0 → ∀ (pc : Nat) (A B : cSt) (k : Nat), X.2 k A = some B → c_OK ((p, l, e, R, s, m, args, below, meth, c), (D, cl, dA, AA), (K, O, w0), (cc, nL, Q)) n0 r0 pc B → c_OK ((p, l, e, R, s, m, args, below, meth, c), (D, cl, dA, AA), (K, O, w0), (cc, nL, Q)) n0 r0 pc A)
    (hJ : c_Jnw K) (hrw : c_noRaw K) (hck : ∀ q ∈ b.2.2.2.2, c_cutOk X K P O b fuel q = true) {A : cSt} (hgo : c_go X K P O b none fuel false [(0, A)] = true) : c_OK ((p, l, e, R, s, m, args, below, meth, c), (D, cl, dA, AA), (K, O, w0), (cc, nL, Q)) (c_entryN O) rr 0 A := by
  refine c_go_ok (rr := rr) (src := none) (hstep (c_entryN O) rr (Nat.le_refl _) (c_agr_rf _ _)) (hmv (c_entryN O) rr (Nat.le_refl _) (c_agr_rf _ _)) hJ hrw (fun s hs => by cases hs) (Nat.le_refl _) (c_agr_rf _ _) (fun q hq => ?_) fuel false _ hgo (0, A) List.mem_cons_self
  have h := hck q hq
  unfold c_cutOk at h
  rw [Bool.and_eq_true, Bool.and_eq_true, Bool.and_eq_true, Bool.and_eq_true] at h
  exact ⟨h.1.1.1.1, fun r1 hr1 _ => c_cuts_ok hstep hmv hJ hrw hck ((c_ev r1 q.2.2).toNat + 1) q hq r1 hr1 (by omega)⟩
end GO
