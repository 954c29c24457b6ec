/-! second layer: what is done by hand, over any tables -/
section JO
variable {p : Program} {l : Launch} {e : Env} {R : Room} {s : State} {m : MethodId} {args : Array Value} {below : List Frame} {meth : Method} {c : Code} {D : va_G} {cl : List vw_C} {dA : Nat → ClassId} {AA : Nat → Prop} {K : cTab} {O : cCtr} {w0 : cWld} {cc : ByteArray} {nL : Nat} {Q : State → Prop} {n0 : Nat} {r0 : Nat → Int}
  {A B : cSt} {pc len : Nat} {L : List (Nat × cSt)} {bk : String}
def j_P0 : cPrg := (fun _ _ => none, fun _ => [], fun _ => 0, fun _ _ => 0)
/-- every one of some states, by one instruction -/
def j_then (f : cSt → Option (List (Nat × cSt))) : List cSt → Option (List (Nat × cSt))
  | [] => some []
  | B :: t => match f B, j_then f t with
    | some a, some b => some (a ++ b)
    | _, _ => none
theorem j_then_ok {f : cSt → Option (List (Nat × cSt))} {P : Nat × cSt → Prop} : ∀ {t : List cSt} {L : List (Nat × cSt)}, j_then f t = some L → (∀ q ∈ L, P q) → ∀ B ∈ t, ∃ L', f B = some L' ∧ ∀ q ∈ L', P q
  | [], _, _, _, B, hB => by cases hB
  | C :: t, L, h, hL, B, hB => by
    unfold j_then at h
    split at h
    · rename_i a b ha hb
      cases h
      rcases List.mem_cons.mp hB with rfl | hB
      · exact ⟨a, ha, fun q hq => hL q (List.mem_append_left _ hq)⟩
      · exact j_then_ok hb (fun q hq => hL q (List.mem_append_right _ hq)) B hB
    · cases h
/-- a local's new form -/
def j_put (B : cSt) (i : Nat) (x : cLin) : cSt := c_setL B (c_lset1 i (0, x) (c_loc B))
/-- a local of u is told from x -/
def j_tri (A : cSt) (i : Nat) (u x : cLin) : List cSt := (match c_asm A 2 (c_sub u x) with
    | none => []
    | some B => [B]) ++ ((match c_asm A 0 (c_sub u x) with
    | none => []
    | some B => [j_put B i x]) ++ (match c_asm A 4 (c_sub u x) with
    | none => []
    | some B => [B]))
theorem j_asm0_back {x : cLin} {r : Nat → Int} {lv : List (Nat × Value)} {st : List Value} {w : cWld} (h : c_asm A 0 x = some B) (hr : c_satR B r lv st w) : c_satR A r lv st w := by
  change (match c_unit x with
    | some s => if c_mem2 s A.2.2.1 then none else (match c_assume A x with
      | none => none
      | some B => c_assume B (c_mul (-1) x))
    | none => (match c_assume A x with
      | none => none
      | some B => c_assume B (c_mul (-1) x))) = some B at h
  split at h
  · split at h
    · cases h
    · split at h
      · cases h
      · rename_i C hC
        exact c_assume_back hC (c_assume_back h hr)
  · split at h
    · cases h
    · rename_i C hC
      exact c_assume_back hC (c_assume_back h hr)
theorem j_tri_ok {i : Nat} {u x : cLin} (hu : c_locGet i (c_loc A) = some (0, u)) (hdet : ∀ (lv : List (Nat × Value)) (st : List Value) (w : cWld), ∃ z : Int, ∀ r, c_satR A r lv st w → c_ev r x = z) (hL : ∀ B ∈ j_tri A i u x, c_OK ((p, l, e, R, s, m, args, below, meth, c), (D, cl, dA, AA), (K, O, w0), (cc, nL, Q)) n0 r0 pc B) : c_OK ((p, l, e, R, s, m, args, below, meth, c), (D, cl, dA, AA), (K, O, w0), (cc, nL, Q)) n0 r0 pc A := by
  intro lv st w cu su hcu hsu hT hE hs H locs ls hP hD hS hl
  obtain ⟨v, hv, k⟩ := c_loc_at hs hl hu
  obtain ⟨r1, -, hr1⟩ := hs.at
  obtain ⟨n, rfl, hn⟩ := c_DVi (k r1 hr1) rfl
  have hn : ∀ r, c_satR A r lv st w → n.toInt = c_ev r u := fun r hr => by
    obtain ⟨n', h9, h8⟩ := c_DVi (k r hr) rfl
    cases h9
    exact h8
  obtain ⟨z, hz⟩ := hdet lv st w
  have way : ∀ (o : Nat) (B : cSt), c_asm A o (c_sub u x) = some B → c_sat n0 r0 B lv st w → B ∈ j_tri A i u x → W p l e R s m args below meth c H locs cu su Q (F0 m pc ls st) := fun o B b1 b2 hq => by
    have hlk := c_asm_like b1
    have k1 := congrArg (fun x => x.2.2.2.1) hlk.2.2
    have k2 := congrArg (fun x => x.2.2.2.2) hlk.2.2
    exact hL B hq lv st w cu su (Eq.trans k1 hcu) (Eq.trans k2 hsu) hT hE b2 H locs ls hP hD hS hl
  rcases (show n.toInt < z ∨ n.toInt = z ∨ z < n.toInt by omega) with hc | hc | hc
  · obtain ⟨B, b1, b2⟩ := hs.asm (o := 2) (e := c_sub u x) (fun r hr => by show c_ev r (c_sub u x) < 0; rw [c_ev_sub, ← hn r hr, hz r hr]; omega)
    exact way 2 B b1 b2 (by unfold j_tri; rw [b1]; exact List.mem_append_left _ List.mem_cons_self)
  · obtain ⟨B, b1, b2⟩ := hs.asm (o := 0) (e := c_sub u x) (fun r hr => by show c_ev r (c_sub u x) = 0; rw [c_ev_sub, ← hn r hr, hz r hr]; omega)
    have hlk := c_asm_like b1
    have k1 := congrArg (fun x => x.2.2.2.1) hlk.2.2
    have k2 := congrArg (fun x => x.2.2.2.2) hlk.2.2
    have hBx : ∀ r, c_satR B r lv st w → c_DV r (0, x) (.int n) := fun r hr => by
      have f0 := j_asm0_back b1 hr
      exact ⟨n, rfl, by show n.toInt = c_ev r x; rw [hz r f0]; exact hc⟩
    obtain ⟨kk, vv, q1, -, -⟩ := c_locGet_ok hr1.2.2.2.2.1 hu
    have hin : (i, vv) ∈ lv := List.mem_of_getElem? q1
    have hvv : vv = .int n := by
      have := lv_at hl kk q1
      rw [hv] at this
      cases this
      rfl
    subst hvv
    refine hL (j_put B i x) (by unfold j_tri; rw [b1]; exact List.mem_append_right _ (List.mem_append_left _ List.mem_cons_self)) ((i, .int n) :: lv.filter (fun q => !(q.1 == i) && !(q.1 + 1 == i && q.2.category == 2))) st w cu su (Eq.trans k1 hcu) (Eq.trans k2 hsu) hT hE ?_ H locs ls hP hD hS ⟨hl.1, hl.2.1, fun q hq => by
      rcases List.mem_cons.mp hq with rfl | hq
      · exact hl.2.2 _ hin
      · exact hl.2.2 _ (List.mem_filter.mp hq).1⟩
    exact b2.to rfl fun r _ hr => ⟨hr.1, hr.2.1, hr.2.2.1, hr.2.2.2.1, c_lset1_ok hr.2.2.2.2.1 (hBx r hr), hr.2.2.2.2.2⟩
  · obtain ⟨B, b1, b2⟩ := hs.asm (o := 4) (e := c_sub u x) (fun r hr => by show 0 < c_ev r (c_sub u x); rw [c_ev_sub, ← hn r hr, hz r hr]; omega)
    exact way 4 B b1 b2 (by unfold j_tri; rw [b1]; exact List.mem_append_right _ (List.mem_append_right _ List.mem_cons_self))
/-- a local of u gets a symbol of its own, of which some facts are kept: f - u and u - g are not below 0 -/
def j_renF (y : cLin) (fs gs : List cLin) : List cLin := fs.map (fun f => c_sub f y) ++ gs.map (fun g => c_sub y g)
def j_renS (B : cSt) (i : Nat) (hi : Int) (fs gs : List cLin) : cSt := (B.1 + 1, (B.1, 0, hi) :: B.2.1, B.2.2.1, B.2.2.2.1, j_renF (c_sym B.1) fs gs ++ B.2.2.2.2.1, c_lset1 i (0, c_sym B.1) (c_loc B), B.2.2.2.2.2.2)
def j_ren (B : cSt) (i : Nat) (hi : Int) (fs gs : List cLin) : Option cSt := match c_locGet i (c_loc B) with
  | some (0, u) => if c_in3 B 0 hi u && (j_renF u fs gs).all (fun f => c_ent B.2.1 B.2.2.2.2.1 3 f) && (fs ++ gs).all (c_wfL B.1) then some (j_renS B i hi fs gs) else none
  | _ => none
theorem j_ren_ok {i : Nat} {hi : Int} {fs gs : List cLin} (h : j_ren A i hi fs gs = some B) (hB : c_OK ((p, l, e, R, s, m, args, below, meth, c), (D, cl, dA, AA), (K, O, w0), (cc, nL, Q)) n0 r0 pc B) : c_OK ((p, l, e, R, s, m, args, below, meth, c), (D, cl, dA, AA), (K, O, w0), (cc, nL, Q)) n0 r0 pc A := by
  unfold j_ren at h
  split at h
  · rename_i u hu
    split at h
    · rename_i hc
      cases h
      rw [Bool.and_eq_true, Bool.and_eq_true] at hc
      obtain ⟨⟨c1, c2⟩, -⟩ := hc
      intro lv st w cu su hcu hsu hT hE hs H locs ls hP hD hS hl
      obtain ⟨v, hv, k⟩ := c_loc_at hs hl hu
      obtain ⟨r1, -, hr1⟩ := hs.at
      obtain ⟨n, rfl, -⟩ := c_DVi (k r1 hr1) rfl
      have hn : ∀ r, c_satR A r lv st w → n.toInt = c_ev r u := fun r hr => by
        obtain ⟨n', h9, h8⟩ := c_DVi (k r hr) rfl
        cases h9
        exact h8
      obtain ⟨kk, vv, q1, -, -⟩ := c_locGet_ok hr1.2.2.2.2.1 hu
      have hin : (i, vv) ∈ lv := List.mem_of_getElem? q1
      have hvv : vv = .int n := by
        have := lv_at hl kk q1
        rw [hv] at this
        cases this
        rfl
      subst hvv
      refine hB ((i, .int n) :: lv.filter (fun q => !(q.1 == i) && !(q.1 + 1 == i && q.2.category == 2))) st w cu su hcu hsu hT hE ?_ H locs ls hP hD hS ⟨hl.1, hl.2.1, fun q hq => by
        rcases List.mem_cons.mp hq with rfl | hq
        · exact hl.2.2 _ hin
        · exact hl.2.2 _ (List.mem_filter.mp hq).1⟩
      refine hs.new n.toInt rfl fun r _ hz hr => ?_
      have hu2 := hn r hr
      have hi2 := c_in3_ok hr c1
      refine ⟨c_envOk_cons (by rw [hz]; omega) (by rw [hz]; omega) hr.1, hr.2.1, hr.2.2.1, fun f hf => ?_, c_lset1_ok hr.2.2.2.2.1 (c_DV_sym0 hz), hr.2.2.2.2.2⟩
      rcases List.mem_append.mp hf with hf | hf
      · have hall := List.all_eq_true.mp c2
        unfold j_renF at hf hall
        rcases List.mem_append.mp hf with hf | hf
        · obtain ⟨g, hg, rfl⟩ := List.mem_map.mp hf
          have := c_ent_ok hr.1 hr.2.2.2.1 _ _ (hall (c_sub g u) (List.mem_append_left _ (List.mem_map.mpr ⟨g, hg, rfl⟩)))
          rw [c_ev_sub] at this ⊢
          rw [c_ev_sym, hz]
          omega
        · obtain ⟨g, hg, rfl⟩ := List.mem_map.mp hf
          have := c_ent_ok hr.1 hr.2.2.2.1 _ _ (hall (c_sub u g) (List.mem_append_right _ (List.mem_map.mpr ⟨g, hg, rfl⟩)))
          rw [c_ev_sub] at this ⊢
          rw [c_ev_sym, hz]
          omega
      · exact hr.2.2.2.1 f hf
    · cases h
  · cases h
/-- told apart and then, below and above, renamed -/
def j_trn (A : cSt) (i : Nat) (u x : cLin) (hi : Int) (fs : List cLin) : Option (List cSt) :=
  match (match c_asm A 2 (c_sub u x) with
    | none => some []
    | some B => (j_ren B i hi (c_addc x (-1) :: fs) []).map (fun C => [C])), (match c_asm A 4 (c_sub u x) with
    | none => some []
    | some B => (j_ren B i hi fs [c_addc x 1]).map (fun C => [C])) with
  | some L1, some L2 => some (L1 ++ ((match c_asm A 0 (c_sub u x) with
    | none => []
    | some B => [j_put B i x]) ++ L2))
  | _, _ => none
theorem j_trn_ok {i : Nat} {u x : cLin} {hi : Int} {fs : List cLin} {t : List cSt} (hu : c_locGet i (c_loc A) = some (0, u)) (hdet : ∀ (lv : List (Nat × Value)) (st : List Value) (w : cWld), ∃ z : Int, ∀ r, c_satR A r lv st w → c_ev r x = z) (h : j_trn A i u x hi fs = some t) (hL : ∀ B ∈ t, c_OK ((p, l, e, R, s, m, args, below, meth, c), (D, cl, dA, AA), (K, O, w0), (cc, nL, Q)) n0 r0 pc B) : c_OK ((p, l, e, R, s, m, args, below, meth, c), (D, cl, dA, AA), (K, O, w0), (cc, nL, Q)) n0 r0 pc A := by
  unfold j_trn at h
  split at h
  · rename_i L1 L2 h1 h2
    cases h
    refine j_tri_ok hu hdet fun B hB => ?_
    unfold j_tri at hB
    rcases List.mem_append.mp hB with hB | hB
    · split at hB
      · cases hB
      · rename_i C hC
        cases List.mem_singleton.mp hB
        rw [hC] at h1
        dsimp only at h1
        cases hj : j_ren B i hi (c_addc x (-1) :: fs) [] with
        | none => rw [hj] at h1; cases h1
        | some E =>
          rw [hj] at h1
          cases h1
          exact j_ren_ok hj (hL E (List.mem_append_left _ List.mem_cons_self))
    · rcases List.mem_append.mp hB with hB | hB
      · exact hL B (List.mem_append_right _ (List.mem_append_left _ hB))
      · split at hB
        · cases hB
        · rename_i C hC
          cases List.mem_singleton.mp hB
          rw [hC] at h2
          dsimp only at h2
          cases hj : j_ren B i hi fs [c_addc x 1] with
          | none => rw [hj] at h2; cases h2
          | some E =>
            rw [hj] at h2
            cases h2
            exact j_ren_ok hj (hL E (List.mem_append_right _ (List.mem_append_right _ List.mem_cons_self)))
  · cases h
/-- a ghost number, and locals, are what they are -/
theorem j_detG {j : Nat} {x : cAV} (h : c_mget 0 (c_con (j : Int)) (c_me A) = some x) (lv : List (Nat × Value)) (st : List Value) (w : cWld) : ∀ r, c_satR A r lv st w → c_ev r x.2 = c_gv j (w.2.2 j) := fun r hr => by
  obtain ⟨q, hq, q1, q2, q3⟩ := c_mget_ok h
  have hm := hr.2.2.2.2.2.2 q hq
  unfold c_mem at hm
  rw [q1] at hm
  obtain ⟨i, m1, m2⟩ := hm
  rw [q2 r, c_ev_con] at m1
  have : i = j := by omega
  subst this
  rw [q3] at m2
  exact m2.symm
theorem j_detL {i : Nat} {x : cLin} (h : c_locGet i (c_loc A) = some (0, x)) (lv : List (Nat × Value)) (st : List Value) (w : cWld) : ∃ z : Int, ∀ r, c_satR A r lv st w → c_ev r x = z := by
  by_cases hex : ∃ r, c_satR A r lv st w
  · obtain ⟨r1, hr1⟩ := hex
    refine ⟨c_ev r1 x, fun r hr => ?_⟩
    have det : ∀ {o : List (Nat × cAV)} {lv : List (Nat × Value)}, c_F2 (c_lr r1) o lv → c_F2 (c_lr r) o lv → c_locGet i o = some (0, x) → c_ev r x = c_ev r1 x := by
      intro o
      induction o with
      | nil => intro lv _ _ h3; cases h3
      | cons a o ih =>
        intro lv h1 h2 h3
        cases lv with
        | nil => exact h1.elim
        | cons b lv =>
          unfold c_locGet at h3
          split at h3
          · have h4 : a.2 = (0, x) := Option.some.inj h3
            have q1 := h1.1.2
            have q2 := h2.1.2
            rw [h4] at q1 q2
            obtain ⟨n1, e1, d1⟩ := c_DVi q1 rfl
            obtain ⟨n2, e2, d2⟩ := c_DVi q2 rfl
            rw [e1] at e2
            cases e2
            exact d2.symm.trans d1
          · exact ih h1.2 h2.2 h3
    exact det hr1.2.2.2.2.1 hr.2.2.2.2.1 h
  · exact ⟨0, fun r hr => absurd ⟨r, hr⟩ hex⟩
/-- an iload of a local that is told from the ghost number 40 -/
def j_ild (pc i : Nat) (n1 : Bool) (B : cSt) : Option (List (Nat × cSt)) := c_getl B (if n1 then pc + 1 else pc + 2) 0 i
theorem j_ild_ok {i : Nat} {n1 : Bool} (hx : p.tables.exec = Jvm.exec) (hb : c.code = cc) (hd : (n1 = true ∧ ∃ hi : i < 4, decode cc pc = .ok (.iload_n ⟨i, hi⟩, 1)) ∨ (n1 = false ∧ decode cc pc = .ok (.iload i, 2))) (h : j_ild pc i n1 A = some L) (hL : ∀ q ∈ L, c_OK ((p, l, e, R, s, m, args, below, meth, c), (D, cl, dA, AA), (K, O, w0), (cc, nL, Q)) n0 r0 q.1 q.2) : c_OK ((p, l, e, R, s, m, args, below, meth, c), (D, cl, dA, AA), (K, O, w0), (cc, nL, Q)) n0 r0 pc A := by
  rcases hd with ⟨rfl, hi, hd⟩ | ⟨rfl, hd⟩
  · exact c_m_iload_n (P := j_P0) (own := 0) (an := []) (len := 1) hx hb (show c_step K j_P0 O nL 0 [] A pc 1 (.iload_n ⟨i, hi⟩) = some L from h) hd hL
  · exact c_m_iload (P := j_P0) (own := 0) (an := []) (len := 2) hx hb (show c_step K j_P0 O nL 0 [] A pc 2 (.iload i) = some L from h) hd hL
def j_x1 (pc i : Nat) (n1 : Bool) (A : cSt) : Option (List (Nat × cSt)) := match c_locGet i (c_loc A), c_mget 0 (c_con 40) (c_me A) with
  | some (0, u), some x => j_then (j_ild pc i n1) (j_tri A i u x.2)
  | _, _ => none
theorem j_x1_ok {i : Nat} {n1 : Bool} (hx : p.tables.exec = Jvm.exec) (hb : c.code = cc) (hd : (n1 = true ∧ ∃ hi : i < 4, decode cc pc = .ok (.iload_n ⟨i, hi⟩, 1)) ∨ (n1 = false ∧ decode cc pc = .ok (.iload i, 2))) (h : j_x1 pc i n1 A = some L) (hL : ∀ q ∈ L, c_OK ((p, l, e, R, s, m, args, below, meth, c), (D, cl, dA, AA), (K, O, w0), (cc, nL, Q)) n0 r0 q.1 q.2) : c_OK ((p, l, e, R, s, m, args, below, meth, c), (D, cl, dA, AA), (K, O, w0), (cc, nL, Q)) n0 r0 pc A := by
  unfold j_x1 at h
  split at h
  · rename_i u x hu hg
    refine j_tri_ok hu (fun lv st w => ⟨_, j_detG (j := 40) hg lv st w⟩) fun B hB => ?_
    obtain ⟨L', h1, h2⟩ := j_then_ok h hL B hB
    exact j_ild_ok hx hb hd h1 h2
  · cases h
/-- local 8 is told from ghost 40 less local 4; below and above it stays within 59, and behind the places in locals 4 and 2 -/
def j_x3 (pc : Nat) (A : cSt) : Option (List (Nat × cSt)) := match c_locGet 8 (c_loc A), c_mget 0 (c_con 40) (c_me A), c_locGet 4 (c_loc A), c_locGet 2 (c_loc A) with
  | some (0, u), some x, some (0, y4), some (0, y2) => (match j_trn A 8 u (c_sub x.2 y4) 59 [c_sub (c_con 59) y4, c_sub (c_con 59) y2] with
    | some t => j_then (j_ild pc 8 false) t
    | none => none)
  | _, _, _, _ => none
theorem j_x3_ok (hx : p.tables.exec = Jvm.exec) (hb : c.code = cc) (hd : decode cc pc = .ok (.iload 8, 2)) (h : j_x3 pc A = some L) (hL : ∀ q ∈ L, c_OK ((p, l, e, R, s, m, args, below, meth, c), (D, cl, dA, AA), (K, O, w0), (cc, nL, Q)) n0 r0 q.1 q.2) : c_OK ((p, l, e, R, s, m, args, below, meth, c), (D, cl, dA, AA), (K, O, w0), (cc, nL, Q)) n0 r0 pc A := by
  unfold j_x3 at h
  split at h
  · rename_i u x y4 y2 hu hg h4 h2
    split at h
    · rename_i t ht
      refine j_trn_ok hu (fun lv st w => ?_) ht fun B hB => ?_
      · obtain ⟨z, hz⟩ := j_detL h4 lv st w
        refine ⟨c_gv 40 (w.2.2 40) - z, fun r hr => ?_⟩
        rw [c_ev_sub, j_detG (j := 40) hg lv st w r hr, hz r hr]
      · obtain ⟨L', h1, h3⟩ := j_then_ok h hL B hB
        exact j_ild_ok hx hb (Or.inr ⟨rfl, hd⟩) h1 h3
    · cases h
  · cases h
/-- a long is stored; places that are told from its place stay known -/
def j_apart (A : cSt) (i : cLin) (q : Nat × cLin × cAV) : Bool := !(Nat.beq q.1 0) && (c_ent A.2.1 A.2.2.2.2.1 3 (c_addc (c_sub q.2.1 i) (-1)) || c_ent A.2.1 A.2.2.2.2.1 3 (c_addc (c_sub i q.2.1) (-1)))
/-- a place of an array of the same sort -/
def j_near (A : cSt) (o : cAV) (q : Nat × cLin × cAV) : Bool := match o.2.2 with
  | (y, _) :: _ => (match c_tagOf q.1 A.2.2.2.1, c_tagOf y A.2.2.2.1 with
    | some t, some t' => Nat.beq t t'
    | _, _ => false)
  | [] => false
def j_x40 (K : cTab) (O : cCtr) (pc : Nat) (A : cSt) : Option (List (Nat × cSt)) := match c_ast K O A (pc + 1) (fun k a => Nat.beq k 2 && Nat.beq a.1 1), c_stk A with
  | some [(_, B)], _ :: (_, i) :: oo :: _ => some [(pc + 1, c_setM B (c_me B ++ (c_me A).filter (fun q => j_near A oo q && j_apart A i q)))]
  | _, _ => none
theorem j_mem_set (hD : va_D AA w0.2.1) {r : Nat → Int} {q : Nat × cLin × cAV} {q0 y j : Nat} {ce ce' : va_E} {v : Value} (h0 : q.1 ≠ 0) (hq0 : w0.2.1[q0]? = some (y, ce)) (hw : c_wr ce ce' j v) (hne : c_ev r q.2.1 ≠ (j : Int)) (h : c_mem r w0 q) : c_mem r (w0.1, w0.2.1.set q0 (y, ce'), w0.2.2) q := by
  unfold c_mem at h ⊢
  split at h
  · rename_i hz; exact absurd hz h0
  · obtain ⟨x2, e2, j2, v2, f1, f2, f3, f4, f5⟩ := h
    by_cases hb : x2 = y
    · subst hb
      have := c_uniq hD (c_mem_of_at hq0) f2
      subst this
      exact ⟨x2, ce', j2, v2, f1, c_set_new hq0, f3, by rw [hw j2, if_neg (by rintro rfl; exact hne f3)]; exact f4, f5⟩
    · exact ⟨x2, e2, j2, v2, f1, c_set_old hq0 f2 hb, f3, f4, f5⟩
theorem j_satR_of {r1 r : Nat → Int} {lv : List (Nat × Value)} {st : List Value} {w : cWld} (hp : c_sat A.1 r1 A lv st w) (ha : c_agr A.1 r1 r) : c_satR A r lv st w := by
  obtain ⟨-, r2, h1, h2⟩ := hp
  exact h2 r fun i hi => (ha i hi).trans (h1 i hi).symm
theorem j_x40_ok (hJ : c_Jfr K) (hx : p.tables.exec = Jvm.exec) (hb : c.code = cc) (hK : va_K D cl (c_tys dA bk) s) (hd : decode cc pc = .ok (.lastore, 1)) (h : j_x40 K O pc A = some L) (hL : ∀ q ∈ L, c_OK ((p, l, e, R, s, m, args, below, meth, c), (D, cl, dA, AA), (K, O, w0), (cc, nL, Q)) n0 r0 q.1 q.2) : c_OK ((p, l, e, R, s, m, args, below, meth, c), (D, cl, dA, AA), (K, O, w0), (cc, nL, Q)) n0 r0 pc A := by
  unfold j_x40 at h
  split at h
  · rename_i nx B z1 z2 i oo z3 hg hst0
    cases h
    obtain ⟨a, i', o, S, x, B', hst, hx1, hok, hi, hB, hL1⟩ := c_ast_inv hg
    cases hL1
    rw [hst] at hst0
    cases hst0
    intro lv st w cu su hcu hsu hT hE hs H locs ls hP hD hS hl
    obtain ⟨r1, hp, hle, hag, hR1⟩ := hs.pin
    obtain ⟨v, ix, y, ss, ce, q0, rfl, hq0, hy1, hform, hin, hlt, hdv, hv⟩ := c_ast_sem (n0 := A.1) (r0 := r1) hJ hp hT hD hE hst hx1 hi hB
    obtain ⟨v', u', ov', ss', he', kk⟩ := c_top3 hs hst
    cases he'
    rw [Bool.and_eq_true] at hok
    have hk := Nat.eq_of_beq_eq_true hok.1
    obtain ⟨z, rfl, -⟩ := c_DVl (hdv r1 hR1) (Nat.eq_of_beq_eq_true hok.2)
    unfold c_form at hform
    rw [hk] at hform
    obtain ⟨f, rfl⟩ := hform
    have hw : c_wr (.inl (dA 2, (K.2.1 x.2).2.1, .inr (.inl f))) (.inl (dA 2, (K.2.1 x.2).2.1, .inr (.inl (vp_updL f ix.toNatClampNeg z)))) ix.toNatClampNeg (.long z) := fun j => by
      show (if j < _ then some _ else none) = _
      by_cases hj : j = ix.toNatClampNeg
      · subst hj
        rw [if_pos hlt, if_pos rfl]
        simp [c_rdA, vp_updL]
      · rw [if_neg hj]
        show _ = if j < _ then some _ else none
        by_cases hj2 : j < (K.2.1 x.2).2.1
        · rw [if_pos hj2, if_pos hj2]
          simp [c_rdA, vp_updL, hj]
        · rw [if_neg hj2, if_neg hj2]
    obtain ⟨s1, s2, s3, s4, s5⟩ := hv (.inl (dA 2, (K.2.1 x.2).2.1, .inr (.inl (vp_updL f ix.toNatClampNeg z)))) hw (fun h hh => c_form_inl (q := (dA 2, (K.2.1 x.2).2.1, .inr (.inl f))) rfl rfl (Or.inr (Or.inl ⟨_, _, rfl, rfl⟩)) hh)
    refine va_last hx hb hK hP hD hS q0 1 hq0 rfl hin hd (fun H1 locs1 hP1 hD1 hS1 => hL _ List.mem_cons_self lv ss _ cu su (s4.trans hcu) (s5.trans hsu) s2 s3 ?_ H1 locs1 ls hP1 hD1 hS1 hl)
    refine c_sat.weak (n1 := A.1) (r1 := r1) (s1.to rfl fun r hr1 hr => ⟨hr.1, hr.2.1, hr.2.2.1, hr.2.2.2.1, hr.2.2.2.2.1, hr.2.2.2.2.2.1, fun q hq => ?_⟩) hle hag
    rcases List.mem_append.mp hq with hq | hq
    · exact hr.2.2.2.2.2.2 q hq
    · obtain ⟨hq1, hq2⟩ := List.mem_filter.mp hq
      have hq2 : (j_near A oo q && j_apart A i q) = true := hq2
      rw [Bool.and_eq_true] at hq2
      replace hq2 := hq2.2
      unfold j_apart at hq2
      rw [Bool.and_eq_true] at hq2
      have hA := j_satR_of hp hr1
      have h0 : q.1 ≠ 0 := by
        intro hz
        have := hq2.1
        rw [hz] at this
        cases this
      have hix : ix.toInt = c_ev r i := by
        obtain ⟨z', hz', hz2⟩ := c_DVi (kk r hA).2.1 rfl
        cases hz'
        exact hz2
      have hb2 := c_in3_ok hA hi
      have hcl := c_clamp (x := ix) (by omega)
      refine j_mem_set hD h0 hq0 hw ?_ (hA.2.2.2.2.2.2 q hq1)
      have h2 := hq2.2
      rw [Bool.or_eq_true] at h2
      rcases h2 with h2 | h2
      · have := c_ent_ok hA.1 hA.2.2.2.1 _ _ h2
        rw [c_ev_addc, c_ev_sub] at this
        omega
      · have := c_ent_ok hA.1 hA.2.2.2.1 _ _ h2
        rw [c_ev_addc, c_ev_sub] at this
        omega
  · cases h
/-- a number is cut: what is taken off is known by a ghost number -/
def j_cut (A : cSt) (k g : Nat) (md lo hi : Int) (pc : Nat) : Option (List (Nat × cSt)) := match c_stk A, c_mget 0 (c_con (g : Int)) (c_me A) with
  | (k', x) :: S, some y => if Nat.beq k' k && c_in3 A lo hi (c_sub x (c_mul md y.2)) then some [(pc + 1, c_setS A ((0, c_sub x (c_mul md y.2)) :: S))] else none
  | _, _ => none
theorem j_cut_inv {k g : Nat} {md lo hi : Int} (h : j_cut A k g md lo hi pc = some L) : ∃ (x : cLin) (S : List cAV) (y : cAV), c_stk A = (k, x) :: S ∧ c_mget 0 (c_con (g : Int)) (c_me A) = some y ∧ c_in3 A lo hi (c_sub x (c_mul md y.2)) = true ∧ L = [(pc + 1, c_setS A ((0, c_sub x (c_mul md y.2)) :: S))] := by
  unfold j_cut at h
  split at h
  · rename_i k' x S y hst hy
    split at h
    · rename_i hc
      rw [Bool.and_eq_true] at hc
      cases h
      rw [Nat.eq_of_beq_eq_true hc.1] at hst
      exact ⟨x, S, y, hst, hy, hc.2, rfl⟩
    · cases h
  · cases h
theorem j_bmod {x z q : Int} {md : Nat} (hz : z = x - (md : Int) * q) (h1 : -((md : Int) / 2) ≤ z) (h2 : z < ((md : Int) + 1) / 2) : x.bmod md = z := by
  have e : x = z + (md : Int) * q := by omega
  rw [e, Int.add_mul_bmod_self_left]
  exact Int.bmod_eq_of_le (by omega) (by omega)
theorem j_x41_ok (hx : p.tables.exec = Jvm.exec) (hb : c.code = cc) (hd : decode cc pc = .ok (.l2i, 1)) (h : j_cut A 1 300 4294967296 (-2147483648) 2147483647 pc = some L) (hL : ∀ q ∈ L, c_OK ((p, l, e, R, s, m, args, below, meth, c), (D, cl, dA, AA), (K, O, w0), (cc, nL, Q)) n0 r0 q.1 q.2) : c_OK ((p, l, e, R, s, m, args, below, meth, c), (D, cl, dA, AA), (K, O, w0), (cc, nL, Q)) n0 r0 pc A := by
  obtain ⟨x, S, y, hst, hy, hc, rfl⟩ := j_cut_inv h
  intro lv st w cu su hcu hsu hT hE hs H locs ls hP hD hS hl
  obtain ⟨v, ss, rfl, k⟩ := c_topl hs hst rfl
  have hk : ∀ r, c_satR A r lv (.long v :: ss) w → (v.toInt32).toInt = c_ev r (c_sub x (c_mul 4294967296 y.2)) := fun r hr => by
    have h3 := c_in3_ok hr hc
    have h1 := (k r hr).1
    rw [Int64.toInt_toInt32]
    rw [c_ev_sub, c_ev_mul] at h3 ⊢
    exact j_bmod (md := 2 ^ 32) (q := c_ev r y.2) (by dsimp only at h1; rw [h1]; rfl) (by show -((4294967296 : Int) / 2) ≤ _; omega) (by show _ < ((4294967296 : Int) + 1) / 2; omega)
  exact lv_l2i (v := v.toInt32) hx hb hd rfl (hL _ List.mem_cons_self lv (.int v.toInt32 :: ss) w cu su hcu hsu hT hE (hs.setS fun r hr => ⟨⟨_, rfl, hk r hr⟩, (k r hr).2⟩) H locs ls hP hD hS hl)
theorem j_x42_ok (hx : p.tables.exec = Jvm.exec) (hb : c.code = cc) (hd : decode cc pc = .ok (.i2b, 1)) (h : j_cut A 0 301 256 (-128) 127 pc = some L) (hL : ∀ q ∈ L, c_OK ((p, l, e, R, s, m, args, below, meth, c), (D, cl, dA, AA), (K, O, w0), (cc, nL, Q)) n0 r0 q.1 q.2) : c_OK ((p, l, e, R, s, m, args, below, meth, c), (D, cl, dA, AA), (K, O, w0), (cc, nL, Q)) n0 r0 pc A := by
  obtain ⟨x, S, y, hst, hy, hc, rfl⟩ := j_cut_inv h
  intro lv st w cu su hcu hsu hT hE hs H locs ls hP hD hS hl
  obtain ⟨v, ss, rfl, k⟩ := c_topi hs hst rfl
  have hk : ∀ r, c_satR A r lv (.int v :: ss) w → (v.toInt8.toInt32).toInt = c_ev r (c_sub x (c_mul 256 y.2)) := fun r hr => by
    have h3 := c_in3_ok hr hc
    have h1 := (k r hr).1
    rw [Int8.toInt_toInt32, Int32.toInt_toInt8]
    rw [c_ev_sub, c_ev_mul] at h3 ⊢
    exact j_bmod (md := 2 ^ 8) (q := c_ev r y.2) (by dsimp only at h1; rw [h1]; rfl) (by show -((256 : Int) / 2) ≤ _; omega) (by show _ < ((256 : Int) + 1) / 2; omega)
  exact lv_i2b (v := v.toInt8.toInt32) hx hb hd rfl (hL _ List.mem_cons_self lv (.int v.toInt8.toInt32 :: ss) w cu su hcu hsu hT hE (hs.setS fun r hr => ⟨⟨_, rfl, hk r hr⟩, (k r hr).2⟩) H locs ls hP hD hS hl)
theorem j_x43_ok (hx : p.tables.exec = Jvm.exec) (hb : c.code = cc) (hd : decode cc pc = .ok (.i2s, 1)) (h : j_cut A 0 302 65536 (-32768) 32767 pc = some L) (hL : ∀ q ∈ L, c_OK ((p, l, e, R, s, m, args, below, meth, c), (D, cl, dA, AA), (K, O, w0), (cc, nL, Q)) n0 r0 q.1 q.2) : c_OK ((p, l, e, R, s, m, args, below, meth, c), (D, cl, dA, AA), (K, O, w0), (cc, nL, Q)) n0 r0 pc A := by
  obtain ⟨x, S, y, hst, hy, hc, rfl⟩ := j_cut_inv h
  intro lv st w cu su hcu hsu hT hE hs H locs ls hP hD hS hl
  obtain ⟨v, ss, rfl, k⟩ := c_topi hs hst rfl
  have hk : ∀ r, c_satR A r lv (.int v :: ss) w → (v.toInt16.toInt32).toInt = c_ev r (c_sub x (c_mul 65536 y.2)) := fun r hr => by
    have h3 := c_in3_ok hr hc
    have h1 := (k r hr).1
    rw [Int16.toInt_toInt32, Int32.toInt_toInt16]
    rw [c_ev_sub, c_ev_mul] at h3 ⊢
    exact j_bmod (md := 2 ^ 16) (q := c_ev r y.2) (by dsimp only at h1; rw [h1]; rfl) (by show -((65536 : Int) / 2) ≤ _; omega) (by show _ < ((65536 : Int) + 1) / 2; omega)
  exact lv_i2s (v := v.toInt16.toInt32) hx hb hd rfl (hL _ List.mem_cons_self lv (.int v.toInt16.toInt32 :: ss) w cu su hcu hsu hT hE (hs.setS fun r hr => ⟨⟨_, rfl, hk r hr⟩, (k r hr).2⟩) H locs ls hP hD hS hl)
end JO
