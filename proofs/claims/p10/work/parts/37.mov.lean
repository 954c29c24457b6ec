/-! moves by hand; steps of laws and lines are read -/
/-- the places 8 to 11, by the word -/
def k_add8 (s : Nat) : List Nat → cSt → cSt
  | [], A => A
  | i :: l, A => match c_mget s (c_con (i : Int)) (c_me A) with
    | some _ => k_add8 s l A
    | none => k_add8 s l (c_setM (c_newY A 0 11) ((s, c_con (i : Int), (0, c_sym A.1)) :: c_me A))
def k_mv1b (B : cSt) : Option cSt := match k_arr B with
  | some s => if k_gis B 1 0 then some (k_add8 s [8, 9, 10, 11] B) else none
  | none => none
def k_mv1 (A : cSt) : Option cSt := match k_ld k_K [(1, c_con 22)] 2 A with
  | some B => k_mv1b B
  | none => none
section MV
variable {p : Program} {l : Launch} {e : Env} {R : Room} {s : State} {m : MethodId} {args : Array Value} {below : List Frame} {meth : Method} {c : Code} {D : va_G} {cl : List vw_C} {dA : Nat → ClassId} {AA : Nat → Prop} {O : cCtr} {w0 w : cWld} {cc : ByteArray} {nL : Nat} {Q : State → Prop} {n0 : Nat} {r0 : Nat → Int}
  {A B : cSt} {pc len : Nat} {L : List (Nat × cSt)} {bk : String} {lv : List (Nat × Value)} {st : List Value}
theorem k_add8_ok {y : Nat} {f : Nat → Int32} {x : Nat} (hx : (x, .inl (dA 1, 10000, .inl f)) ∈ w.2.1) (h8 : k_811 (k_F f)) (h0 : y ≠ 0) : ∀ (t : List Nat) (A : cSt), (∀ i ∈ t, 8 ≤ i ∧ i ≤ 11) → (∀ r, c_satR A r lv st w → r y = (x : Int)) → c_sat n0 r0 A lv st w → c_sat n0 r0 (k_add8 y t A) lv st w ∧ c_cu (k_add8 y t A) = c_cu A ∧ c_su (k_add8 y t A) = c_su A
  | [], A, _, _, hs => ⟨hs, rfl, rfl⟩
  | i :: t, A, hi, hy, hs => by
    unfold k_add8
    split
    · exact k_add8_ok hx h8 h0 t A (fun j hj => hi j (List.mem_cons_of_mem _ hj)) hy hs
    · have h9 := h8 i (hi i List.mem_cons_self).1 (hi i List.mem_cons_self).2
      have hi9 := hi i List.mem_cons_self
      have hF : k_F f i = (f i).toInt := by unfold k_F; rw [if_pos (by omega)]
      rw [hF] at h9
      obtain ⟨g1, g2, g3⟩ := k_add8_ok (A := c_setM (c_newY A 0 11) ((y, c_con (i : Int), (0, c_sym A.1)) :: c_me A)) hx h8 h0 t (fun j hj => hi j (List.mem_cons_of_mem _ hj)) (fun r hr => hy r ⟨fun q hq => hr.1 q (List.mem_cons_of_mem _ hq), hr.2.1, hr.2.2.1, hr.2.2.2.1, hr.2.2.2.2.1, hr.2.2.2.2.2.1, fun q hq => hr.2.2.2.2.2.2 q (List.mem_cons_of_mem _ hq)⟩) (hs.new (f i).toInt rfl fun r _ hz hr => ⟨c_envOk_cons (by rw [hz]; exact h9.1) (by rw [hz]; exact h9.2) hr.1, hr.2.1, hr.2.2.1, hr.2.2.2.1, hr.2.2.2.2.1, hr.2.2.2.2.2.1, fun q hq => by
        rcases List.mem_cons.mp hq with rfl | hq
        · unfold c_mem
          split
          · rename_i h9; exact absurd h9 h0
          · exact ⟨x, _, i, .int (f i), hy r hr, hx, c_ev_con r _, by show (if i < 10000 then some _ else none) = _; rw [if_pos (by omega)]; rfl, f i, rfl, by rw [c_ev_sym]; exact hz.symm⟩
        · exact hr.2.2.2.2.2.2 q hq⟩)
      exact ⟨g1, g2, g3⟩
theorem k_mv1b_ok (h : k_mv1b A = some B) (hB : c_OK ((p, l, e, R, s, m, args, below, meth, c), (D, cl, dA, AA), (k_K, O, w0), (cc, nL, Q)) n0 r0 pc B) : c_OK ((p, l, e, R, s, m, args, below, meth, c), (D, cl, dA, AA), (k_K, O, w0), (cc, nL, Q)) n0 r0 pc A := by
  unfold k_mv1b at h
  split at h
  · rename_i y ha
    split at h
    · rename_i hg
      cases h
      intro lv st w cu su hcu hsu hT hE hs H locs ls hP hD hS hl
      obtain ⟨r, -, hr⟩ := hs.at
      have hg1 := k_gis_ok hr hg
      obtain ⟨x, f, x1, x2, x3, x4, x5, x6, x7, x8⟩ := k_cell hT hD ha hr
      have h8 := (x6 (by omega)).1 (by omega)
      obtain ⟨g1, g2, g3⟩ := k_add8_ok (y := y) x2 h8 (k_arr_inv ha).2.2.2 [8, 9, 10, 11] A (fun i hi => by simp at hi; omega) (fun r' hr' => by
        obtain ⟨x', f', z1, z2, z3, z4, -⟩ := k_cell hT hD ha hr'
        have h1 := x4 (by omega)
        have h2 := z4 (by omega)
        omega) hs
      exact hB lv st w cu su (g2.trans hcu) (g3.trans hsu) hT hE g1 H locs ls hP hD hS hl
    · cases h
  · cases h
theorem k_mv1_ok (h : k_mv1 A = some B) (hB : c_OK ((p, l, e, R, s, m, args, below, meth, c), (D, cl, dA, AA), (k_K, O, w0), (cc, nL, Q)) n0 r0 pc B) : c_OK ((p, l, e, R, s, m, args, below, meth, c), (D, cl, dA, AA), (k_K, O, w0), (cc, nL, Q)) n0 r0 pc A := by
  unfold k_mv1 at h
  split at h
  · rename_i C hC
    exact k_ld_ok hC (k_mv1b_ok h hB)
  · cases h
/-- the ways begin -/
def k_mv2 (O : cCtr) (A : cSt) : Option cSt := match k_arr A with
  | some y => if k_gis A 1 0 then k_gups O [(1, c_con 2)] A else none
  | _ => none
theorem k_mv2_ok (h : k_mv2 O A = some B) (hB : c_OK ((p, l, e, R, s, m, args, below, meth, c), (D, cl, dA, AA), (k_K, O, w0), (cc, nL, Q)) n0 r0 pc B) : c_OK ((p, l, e, R, s, m, args, below, meth, c), (D, cl, dA, AA), (k_K, O, w0), (cc, nL, Q)) n0 r0 pc A := by
  unfold k_mv2 at h
  split at h
  · rename_i y  ha
    split at h
    · rename_i hc
      have c0 := hc
      refine k_mv_ok ha h (fun r lv st w hr => ?_) hB
      have f0 := k_gis_ok hr c0
      refine ⟨rfl, ⟨fun h9 => ?_, fun h9 => ?_⟩, fun h1 F kn ty hJ => ?_⟩
      · have h9 : c_ev r (c_con 2) = 1 := h9
        rw [c_ev_con] at h9
        omega
      · omega
      refine k_jmv (g := w.2.2) (fun j h1 h2 h3 => if_neg h1) (Or.inr ⟨?_, ?_, fun b hb => ?_⟩) (fun h9 => absurd (c_ev_con r 2) h9) (k_bls_all (k_bls_0 (Or.inl f0) hJ.2.1)) (fun h9 => ?_) hJ
      · show c_ev r (c_con 2) ≠ 7; rw [c_ev_con]; decide
      · show c_ev r (c_con 2) ≠ 8; rw [c_ev_con]; decide
      · show c_ev r (c_con 2) ≠ _; rw [c_ev_con]; omega
      · have h9 : c_ev r (c_con 2) = 8 := h9
        rw [c_ev_con] at h9; omega
    · cases h
  · cases h
def k_in8 (A : cSt) (y : Nat) (i : Nat) : Bool := match c_mget y (c_con (i : Int)) (c_me A) with
  | some (0, u) => c_in3 A 0 11 u
  | _ => false
theorem k_in8_ok {y i : Nat} {r : Nat → Int} {F : Nat → Int} (hr : c_satR A r lv st w) (h : k_in8 A y i = true) (kn : k_kn A r y F) : 0 ≤ F i ∧ F i ≤ 11 := by
  unfold k_in8 at h
  split at h
  · rename_i u hu
    rw [kn _ _ i hu (c_ev_con r _)]
    exact c_in3_ok hr h
  · cases h
/-- the ways end -/
def k_mv3 (O : cCtr) (A : cSt) : Option cSt := match k_arr A with
  | some y => if k_gis A 1 2 && k_in8 A y 8 && k_in8 A y 9 && k_in8 A y 10 && k_in8 A y 11 then k_gups O [(1, c_con 0)] A else none
  | _ => none
theorem k_mv3_ok (h : k_mv3 O A = some B) (hB : c_OK ((p, l, e, R, s, m, args, below, meth, c), (D, cl, dA, AA), (k_K, O, w0), (cc, nL, Q)) n0 r0 pc B) : c_OK ((p, l, e, R, s, m, args, below, meth, c), (D, cl, dA, AA), (k_K, O, w0), (cc, nL, Q)) n0 r0 pc A := by
  unfold k_mv3 at h
  split at h
  · rename_i y  ha
    split at h
    · rename_i hc
      rw [Bool.and_eq_true, Bool.and_eq_true, Bool.and_eq_true, Bool.and_eq_true] at hc
      obtain ⟨⟨⟨⟨c0, c1⟩, c2⟩, c3⟩, c4⟩ := hc
      refine k_mv_ok ha h (fun r lv st w hr => ?_) hB
      have f0 := k_gis_ok hr c0
      refine ⟨rfl, ⟨fun h9 => ?_, fun h9 => ?_⟩, fun h1 F kn ty hJ => ?_⟩
      · have h9 : c_ev r (c_con 0) = 1 := h9
        rw [c_ev_con] at h9
        omega
      · omega
      refine k_jmv (g := w.2.2) (fun j h1 h2 h3 => if_neg h1) (Or.inr ⟨?_, ?_, fun b hb => ?_⟩) (fun _ i i1 i2 => ?_) (k_bls_all (k_bls_0 (Or.inr f0) hJ.2.1)) (fun h9 => ?_) hJ
      · show c_ev r (c_con 0) ≠ 7; rw [c_ev_con]; decide
      · show c_ev r (c_con 0) ≠ 8; rw [c_ev_con]; decide
      · show c_ev r (c_con 0) ≠ _; rw [c_ev_con]; omega
      · rcases (show i = 8 ∨ i = 9 ∨ i = 10 ∨ i = 11 by omega) with q | q | q | q <;> subst q
        · exact k_in8_ok hr c1 kn
        · exact k_in8_ok hr c2 kn
        · exact k_in8_ok hr c3 kn
        · exact k_in8_ok hr c4 kn
      · have h9 : c_ev r (c_con 0) = 8 := h9
        rw [c_ev_con] at h9; omega
    · cases h
  · cases h
/-- the new block is to be cleared -/
def k_mv4 (O : cCtr) (A : cSt) : Option cSt := match k_arr A with
  | some y => k_gups O [(80, c_con (-1)), (88, c_con 0)] A
  | _ => none
theorem k_mv4_ok (h : k_mv4 O A = some B) (hB : c_OK ((p, l, e, R, s, m, args, below, meth, c), (D, cl, dA, AA), (k_K, O, w0), (cc, nL, Q)) n0 r0 pc B) : c_OK ((p, l, e, R, s, m, args, below, meth, c), (D, cl, dA, AA), (k_K, O, w0), (cc, nL, Q)) n0 r0 pc A := by
  unfold k_mv4 at h
  split at h
  · rename_i y  ha
    · refine k_mv_ok ha h (fun r lv st w hr => ?_) hB
      skip
      refine ⟨rfl, Iff.rfl, fun h1 F kn ty hJ => ?_⟩
      refine k_jbl (g := w.2.2) rfl ⟨rfl, rfl, rfl⟩ ⟨rfl, rfl, rfl⟩ ⟨rfl, rfl, rfl, rfl, rfl, rfl, rfl⟩ rfl rfl (k_tbl_gs rfl hJ.2.2.2.2.2.2.2.2.2.2.2) (fun h9 => ?_) (k_bln_cg (fun _ _ _ => rfl) rfl rfl hJ.2.2.2.2.2.1) (fun k _ h9 => ?_) hJ
      · have h9 : 0 ≤ c_ev r (c_con (-1)) := h9
        rw [c_ev_con] at h9; omega
      · have h9 : (k : Int) < c_ev r (c_con 0) := h9
        rw [c_ev_con] at h9; omega
  · cases h
/-- the new block is cleared -/
def k_mv5g (O : cCtr) (A : cSt) : Option cSt := match k_arr A, k_gh A 88 with
  | some y, some e88 => if k_ge0 A (c_addc e88 (-24)) then k_gups O [(80, c_con 0), (81, c_con 0), (82, c_con 0), (83, c_con 0), (88, c_con 0)] A else none
  | _, _ => none
theorem k_mv5g_ok (h : k_mv5g O A = some B) (hB : c_OK ((p, l, e, R, s, m, args, below, meth, c), (D, cl, dA, AA), (k_K, O, w0), (cc, nL, Q)) n0 r0 pc B) : c_OK ((p, l, e, R, s, m, args, below, meth, c), (D, cl, dA, AA), (k_K, O, w0), (cc, nL, Q)) n0 r0 pc A := by
  unfold k_mv5g at h
  split at h
  · rename_i y e88 ha hg88
    split at h
    · rename_i hc
      have c0 := hc
      refine k_mv_ok ha h (fun r lv st w hr => ?_) hB
      have f0 := k_ge0_ok hr c0
      have g88 := k_gh_ok hr hg88
      refine ⟨rfl, Iff.rfl, fun h1 F kn ty hJ => ?_⟩
      rw [c_ev_addc] at f0
      refine k_jbl (g := w.2.2) rfl ⟨rfl, rfl, rfl⟩ ⟨rfl, rfl, rfl⟩ ⟨rfl, rfl, rfl, rfl, rfl, rfl, rfl⟩ rfl rfl (k_tbl_gs rfl hJ.2.2.2.2.2.2.2.2.2.2.2) ?_ (k_bln_cg (fun _ _ _ => rfl) rfl rfl hJ.2.2.2.2.2.1) (fun k _ h9 => ?_) hJ
      · have g82 : k_gsem r [(80, c_con 0), (81, c_con 0), (82, c_con 0), (83, c_con 0), (88, c_con 0)] w.2.2 82 = 0 := c_ev_con r 0
        have g83 : k_gsem r [(80, c_con 0), (81, c_con 0), (82, c_con 0), (83, c_con 0), (88, c_con 0)] w.2.2 83 = 0 := c_ev_con r 0
        unfold k_bll
        rw [g82, g83]
        intro _ _
        refine ⟨by omega, by omega, fun l hl => by omega, fun l hl hl4 => ?_, fun _ => Or.inl rfl, fun h9 => by omega⟩
        have := hJ.2.2.2.2.2.2.1 (19 + l) (Or.inr (by omega)) (by omega)
        rw [← Nat.add_assoc] at this
        exact this
      · have h9 : (k : Int) < c_ev r (c_con 0) := h9
        rw [c_ev_con] at h9; omega
    · cases h
  · cases h
/-- the number of new laws is known to be 0 -/
def k_mv5z (A : cSt) : Option cSt := match k_arr A, k_gh A 88 with
  | some y, some e88 => if k_ge0 A (c_addc e88 (-24)) && k_gis A 1 0 then some (c_setM A ((y, c_con 8003, (0, c_con 0)) :: c_me A)) else none
  | _, _ => none
theorem k_mv5z_ok (h : k_mv5z A = some B) (hB : c_OK ((p, l, e, R, s, m, args, below, meth, c), (D, cl, dA, AA), (k_K, O, w0), (cc, nL, Q)) n0 r0 pc B) : c_OK ((p, l, e, R, s, m, args, below, meth, c), (D, cl, dA, AA), (k_K, O, w0), (cc, nL, Q)) n0 r0 pc A := by
  unfold k_mv5z at h
  split at h
  · rename_i y e88 ha hg
    split at h
    · rename_i hc
      rw [Bool.and_eq_true] at hc
      cases h
      intro lv st w cu su hcu hsu hT hE hs H locs ls hP hD hS hl
      refine hB lv st w cu su hcu hsu hT hE (hs.to rfl fun r _ hr => ⟨hr.1, hr.2.1, hr.2.2.1, hr.2.2.2.1, hr.2.2.2.2.1, hr.2.2.2.2.2.1, fun q hq => ?_⟩) H locs ls hP hD hS hl
      rcases List.mem_cons.mp hq with rfl | hq
      · obtain ⟨x, f, x1, x2, x3, x4, x5, x6, x7, x8⟩ := k_cell hT hD ha hr
        have f0 := k_ge0_ok hr hc.1
        have f1 := k_gis_ok hr hc.2
        have g88 := k_gh_ok hr hg
        rw [c_ev_addc] at f0
        have h0 := (x6 (by omega)).2.2.2.2.2.2.1 3 (Or.inl rfl) (by omega)
        have hF : k_F f (8000 + 3) = (f 8003).toInt := rfl
        rw [hF] at h0
        unfold c_mem
        split
        · rename_i h9; exact absurd h9 (k_arr_inv ha).2.2.2
        · exact ⟨x, _, 8003, .int (f 8003), x1, x2, c_ev_con r _, rfl, f 8003, rfl, h0.trans (c_ev_con r 0).symm⟩
      · exact hr.2.2.2.2.2.2 q hq
    · cases h
  · cases h
def k_mv5 (O : cCtr) (A : cSt) : Option cSt := match k_mv5z A with
  | some B => k_mv5g O B
  | none => none
theorem k_mv5_ok (h : k_mv5 O A = some B) (hB : c_OK ((p, l, e, R, s, m, args, below, meth, c), (D, cl, dA, AA), (k_K, O, w0), (cc, nL, Q)) n0 r0 pc B) : c_OK ((p, l, e, R, s, m, args, below, meth, c), (D, cl, dA, AA), (k_K, O, w0), (cc, nL, Q)) n0 r0 pc A := by
  unfold k_mv5 at h
  split at h
  · rename_i C hC
    exact k_mv5z_ok hC (k_mv5g_ok h hB)
  · cases h
/-- the new laws are to be copied -/
def k_mv6 (O : cCtr) (A : cSt) : Option cSt := match k_arr A with
  | some y => if k_gis A 1 0 then k_gups O [(1, c_con 7), (87, c_con 0)] A else none
  | _ => none
theorem k_mv6_ok (h : k_mv6 O A = some B) (hB : c_OK ((p, l, e, R, s, m, args, below, meth, c), (D, cl, dA, AA), (k_K, O, w0), (cc, nL, Q)) n0 r0 pc B) : c_OK ((p, l, e, R, s, m, args, below, meth, c), (D, cl, dA, AA), (k_K, O, w0), (cc, nL, Q)) n0 r0 pc A := by
  unfold k_mv6 at h
  split at h
  · rename_i y  ha
    split at h
    · rename_i hc
      have c0 := hc
      refine k_mv_ok ha h (fun r lv st w hr => ?_) hB
      have f0 := k_gis_ok hr c0
      refine ⟨rfl, ⟨fun h9 => ?_, fun h9 => ?_⟩, fun h1 F kn ty hJ => ?_⟩
      · have h9 : c_ev r (c_con 7) = 1 := h9
        rw [c_ev_con] at h9
        omega
      · omega
      have e1 : k_gsem r [(1, c_con 7), (87, c_con 0)] w.2.2 1 = 7 := c_ev_con r 7
      refine k_jmv (g := w.2.2) (fun j h1 h2 h3 => ?_) (Or.inl ?_) (fun _ => hJ.1 (by omega)) (k_bls_all (k_bls_0 (Or.inl f0) hJ.2.1)) (fun h9 => ?_) hJ
      · show (if j = 87 then _ else (if j = 1 then _ else _)) = _
        rw [if_neg h2, if_neg h1]
      · show c_ev r (c_con 0) ≤ 0; rw [c_ev_con]; decide
      · omega
    · cases h
  · cases h
/-- the new laws stand -/
def k_mv7 (O : cCtr) (A : cSt) : Option cSt := match k_arr A, k_gh A 80, k_gh A 81, k_gh A 87 with
  | some y, some e80, some e81, some e87 => if k_gis A 1 7 && k_ge0 A (c_addc e87 (-630)) && k_ge0 A e80 && c_in3 A 0 600 e81 && k_gis A 83 0 then k_gups O [(1, c_con 0)] A else none
  | _, _, _, _ => none
theorem k_mv7_ok (h : k_mv7 O A = some B) (hB : c_OK ((p, l, e, R, s, m, args, below, meth, c), (D, cl, dA, AA), (k_K, O, w0), (cc, nL, Q)) n0 r0 pc B) : c_OK ((p, l, e, R, s, m, args, below, meth, c), (D, cl, dA, AA), (k_K, O, w0), (cc, nL, Q)) n0 r0 pc A := by
  unfold k_mv7 at h
  split at h
  · rename_i y e80 e81 e87 ha hg80 hg81 hg87
    split at h
    · rename_i hc
      rw [Bool.and_eq_true, Bool.and_eq_true, Bool.and_eq_true, Bool.and_eq_true] at hc
      obtain ⟨⟨⟨⟨c0, c1⟩, c2⟩, c3⟩, c4⟩ := hc
      refine k_mv_ok ha h (fun r lv st w hr => ?_) hB
      have f0 := k_gis_ok hr c0
      have f1 := k_ge0_ok hr c1
      have f2 := k_ge0_ok hr c2
      have f3 := c_in3_ok hr c3
      have f4 := k_gis_ok hr c4
      have g80 := k_gh_ok hr hg80
      have g81 := k_gh_ok hr hg81
      have g87 := k_gh_ok hr hg87
      refine ⟨rfl, ⟨fun h9 => ?_, fun h9 => ?_⟩, fun h1 F kn ty hJ => ?_⟩
      · have h9 : c_ev r (c_con 0) = 1 := h9
        rw [c_ev_con] at h9
        omega
      · omega
      rw [c_ev_addc] at f1
      refine k_jmv (g := w.2.2) (fun j h1 h2 h3 => if_neg h1) (Or.inr ⟨?_, ?_, fun b hb => ?_⟩) (fun _ => hJ.1 (by omega)) (k_bls_all (k_jend7 f0 (by omega) (by omega) (by omega) f4 hJ)) (fun h9 => ?_) hJ
      · show c_ev r (c_con 0) ≠ 7; rw [c_ev_con]; decide
      · show c_ev r (c_con 0) ≠ 8; rw [c_ev_con]; decide
      · show c_ev r (c_con 0) ≠ _; rw [c_ev_con]; omega
      · have h9 : c_ev r (c_con 0) = 8 := h9
        rw [c_ev_con] at h9; omega
    · cases h
  · cases h
/-- a new line begins -/
def k_mv8 (O : cCtr) (A : cSt) : Option cSt := match k_arr A with
  | some y => k_gups O [(90, c_con 0), (91, c_con 0)] A
  | _ => none
theorem k_mv8_ok (h : k_mv8 O A = some B) (hB : c_OK ((p, l, e, R, s, m, args, below, meth, c), (D, cl, dA, AA), (k_K, O, w0), (cc, nL, Q)) n0 r0 pc B) : c_OK ((p, l, e, R, s, m, args, below, meth, c), (D, cl, dA, AA), (k_K, O, w0), (cc, nL, Q)) n0 r0 pc A := by
  unfold k_mv8 at h
  split at h
  · rename_i y  ha
    · refine k_mv_ok ha h (fun r lv st w hr => ?_) hB
      skip
      refine ⟨rfl, Iff.rfl, fun h1 F kn ty hJ => ?_⟩
      refine k_jbl (g := w.2.2) rfl ⟨rfl, rfl, rfl⟩ ⟨rfl, rfl, rfl⟩ ⟨rfl, rfl, rfl, rfl, rfl, rfl, rfl⟩ rfl rfl (k_tbl_gs rfl hJ.2.2.2.2.2.2.2.2.2.2.2) (k_bll_cg (fun _ _ => rfl) rfl rfl rfl rfl hJ.2.2.2.2.1) ?_ (k_clr_cg (fun _ _ => rfl) rfl hJ.2.2.2.2.2.2.1) hJ
      have g90 : k_gsem r [(90, c_con 0), (91, c_con 0)] w.2.2 90 = 0 := c_ev_con r 0
      have g91 : k_gsem r [(90, c_con 0), (91, c_con 0)] w.2.2 91 = 0 := c_ev_con r 0
      unfold k_bln
      rw [g90, g91]
      exact fun _ _ => ⟨by omega, fun m hm => absurd hm (by simp), rfl⟩
  · cases h
/-- the new line is to be copied -/
def k_mv9 (O : cCtr) (A : cSt) : Option cSt := match k_arr A with
  | some y => if k_gis A 1 0 then k_gups O [(1, c_con 8), (87, c_con 1712)] A else none
  | _ => none
theorem k_mv9_ok (h : k_mv9 O A = some B) (hB : c_OK ((p, l, e, R, s, m, args, below, meth, c), (D, cl, dA, AA), (k_K, O, w0), (cc, nL, Q)) n0 r0 pc B) : c_OK ((p, l, e, R, s, m, args, below, meth, c), (D, cl, dA, AA), (k_K, O, w0), (cc, nL, Q)) n0 r0 pc A := by
  unfold k_mv9 at h
  split at h
  · rename_i y  ha
    split at h
    · rename_i hc
      have c0 := hc
      refine k_mv_ok ha h (fun r lv st w hr => ?_) hB
      have f0 := k_gis_ok hr c0
      refine ⟨rfl, ⟨fun h9 => ?_, fun h9 => ?_⟩, fun h1 F kn ty hJ => ?_⟩
      · have h9 : c_ev r (c_con 8) = 1 := h9
        rw [c_ev_con] at h9
        omega
      · omega
      have e1 : k_gsem r [(1, c_con 8), (87, c_con 1712)] w.2.2 1 = 8 := c_ev_con r 8
      have e87 : k_gsem r [(1, c_con 8), (87, c_con 1712)] w.2.2 87 = 1712 := c_ev_con r 1712
      obtain ⟨a1, a2, a3, a4, a5, a6, a7, a8, a9, a10, a11, a12⟩ := hJ
      refine ⟨fun _ => a1 (by omega), k_bls_all (k_bls_0 (Or.inl f0) a2), k_tel_cg (fun _ _ _ => rfl) rfl rfl rfl a3, k_lyn_cg (fun _ _ _ => rfl) rfl rfl rfl a4, k_bll_cg (fun _ _ => rfl) rfl rfl rfl rfl a5, k_bln_cg (fun _ _ _ => rfl) rfl rfl a6, k_clr_cg (fun _ _ => rfl) rfl a7, fun b hb h9 => by omega, fun h9 => by omega, fun _ k hk h9 => ?_, k_slo_cg ⟨rfl, rfl, rfl, rfl, rfl, rfl, rfl⟩ a11, k_tbl_gs rfl a12⟩
      unfold k_np at hk
      omega
    · cases h
  · cases h
/-- the new line stands -/
def k_mv10 (O : cCtr) (A : cSt) : Option cSt := match k_arr A, k_gh A 87, k_gh A 90, k_gh A 91 with
  | some y, some e87, some e90, some e91 => if k_gis A 1 8 && k_ge0 A (c_addc e87 (-2000)) && k_ge0 A e90 && c_in3 A 0 206 e91 && k_src A y (c_con 9713) e91 then k_gups O [(1, c_con 0)] A else none
  | _, _, _, _ => none
theorem k_mv10_ok (h : k_mv10 O A = some B) (hB : c_OK ((p, l, e, R, s, m, args, below, meth, c), (D, cl, dA, AA), (k_K, O, w0), (cc, nL, Q)) n0 r0 pc B) : c_OK ((p, l, e, R, s, m, args, below, meth, c), (D, cl, dA, AA), (k_K, O, w0), (cc, nL, Q)) n0 r0 pc A := by
  unfold k_mv10 at h
  split at h
  · rename_i y e87 e90 e91 ha hg87 hg90 hg91
    split at h
    · rename_i hc
      rw [Bool.and_eq_true, Bool.and_eq_true, Bool.and_eq_true, Bool.and_eq_true] at hc
      obtain ⟨⟨⟨⟨c0, c1⟩, c2⟩, c3⟩, c4⟩ := hc
      refine k_mv_ok ha h (fun r lv st w hr => ?_) hB
      have f0 := k_gis_ok hr c0
      have f1 := k_ge0_ok hr c1
      have f2 := k_ge0_ok hr c2
      have f3 := c_in3_ok hr c3
      have g87 := k_gh_ok hr hg87
      have g90 := k_gh_ok hr hg90
      have g91 := k_gh_ok hr hg91
      refine ⟨rfl, ⟨fun h9 => ?_, fun h9 => ?_⟩, fun h1 F kn ty hJ => ?_⟩
      · have h9 : c_ev r (c_con 0) = 1 := h9
        rw [c_ev_con] at h9
        omega
      · omega
      rw [c_ev_addc] at f1
      have f4 := k_src_ok (j := 9713) hr c4 kn (c_ev_con r _)
      refine k_jmv (g := w.2.2) (fun j h1 h2 h3 => if_neg h1) (Or.inr ⟨?_, ?_, fun b hb => ?_⟩) (fun _ => hJ.1 (by omega)) (k_bls_all (k_jend8 f0 (by omega) (by omega) (by omega) (by omega) hJ)) (fun h9 => ?_) hJ
      · show c_ev r (c_con 0) ≠ 7; rw [c_ev_con]; decide
      · show c_ev r (c_con 0) ≠ 8; rw [c_ev_con]; decide
      · show c_ev r (c_con 0) ≠ _; rw [c_ev_con]; omega
      · have h9 : c_ev r (c_con 0) = 8 := h9
        rw [c_ev_con] at h9; omega
    · cases h
  · cases h
/-- a block is to be copied: from, to -/
def k_mv11 (O : cCtr) (fr to : cLin) (A : cSt) : Option cSt := match k_arr A with
  | some _ => if k_gis A 1 0 && c_in3 A 0 3 to then k_gups O [(1, c_addc to 3), (86, fr), (87, c_con 0)] A else none
  | none => none
theorem k_mv11_ok {fr to : cLin} (h : k_mv11 O fr to A = some B) (hB : c_OK ((p, l, e, R, s, m, args, below, meth, c), (D, cl, dA, AA), (k_K, O, w0), (cc, nL, Q)) n0 r0 pc B) : c_OK ((p, l, e, R, s, m, args, below, meth, c), (D, cl, dA, AA), (k_K, O, w0), (cc, nL, Q)) n0 r0 pc A := by
  unfold k_mv11 at h
  split at h
  · rename_i y ha
    split at h
    · rename_i hc
      rw [Bool.and_eq_true] at hc
      refine k_mv_ok ha h (fun r lv st w hr => ?_) hB
      have f0 := k_gis_ok hr hc.1
      have f1 := c_in3_ok hr hc.2
      have e1 : k_gsem r [(1, c_addc to 3), (86, fr), (87, c_con 0)] w.2.2 1 = c_ev r to + 3 := c_ev_addc r to 3
      refine ⟨rfl, ⟨fun h9 => by omega, fun h9 => by omega⟩, fun h1 F kn ty hJ => ?_⟩
      refine k_jmv (g := w.2.2) (fun j h1 h2 h3 => ?_) (Or.inl ?_) (fun _ => hJ.1 (by omega)) (k_bls_all (k_bls_0 (Or.inl f0) hJ.2.1)) (fun h9 => by omega) hJ
      · show (if j = 87 then _ else (if j = 86 then _ else (if j = 1 then _ else _))) = _
        rw [if_neg h2, if_neg h3, if_neg h1]
      · show c_ev r (c_con 0) ≤ 0
        rw [c_ev_con]; decide
    · cases h
  · cases h
/-- the block is copied -/
def k_mv12 (O : cCtr) (A : cSt) : Option cSt := match k_arr A, k_gh A 1, k_gh A 87 with
  | some y, some e1, some e87 => if c_in3 A 3 6 e1 && k_ge0 A (c_addc e87 (-2000)) then k_gups O [(1, c_con 0)] A else none
  | _, _, _ => none
theorem k_mv12_ok (h : k_mv12 O A = some B) (hB : c_OK ((p, l, e, R, s, m, args, below, meth, c), (D, cl, dA, AA), (k_K, O, w0), (cc, nL, Q)) n0 r0 pc B) : c_OK ((p, l, e, R, s, m, args, below, meth, c), (D, cl, dA, AA), (k_K, O, w0), (cc, nL, Q)) n0 r0 pc A := by
  unfold k_mv12 at h
  split at h
  · rename_i y e1 e87 ha hg1 hg87
    split at h
    · rename_i hc
      rw [Bool.and_eq_true] at hc
      obtain ⟨c0, c1⟩ := hc
      refine k_mv_ok ha h (fun r lv st w hr => ?_) hB
      have f0 := c_in3_ok hr c0
      have f1 := k_ge0_ok hr c1
      have g1 := k_gh_ok hr hg1
      have g87 := k_gh_ok hr hg87
      refine ⟨rfl, ⟨fun h9 => ?_, fun h9 => ?_⟩, fun h1 F kn ty hJ => ?_⟩
      · have h9 : c_ev r (c_con 0) = 1 := h9
        rw [c_ev_con] at h9
        omega
      · omega
      rw [c_ev_addc] at f1
      refine k_jmv (g := w.2.2) (fun j h1 h2 h3 => if_neg h1) (Or.inr ⟨?_, ?_, fun b hb => ?_⟩) (fun _ => hJ.1 (by omega)) (k_bls_all (k_jend3 (b := (w.2.2 1 - 3).toNat) (by omega) (by omega) (by omega) hJ)) (fun h9 => ?_) hJ
      · show c_ev r (c_con 0) ≠ 7; rw [c_ev_con]; decide
      · show c_ev r (c_con 0) ≠ 8; rw [c_ev_con]; decide
      · show c_ev r (c_con 0) ≠ _; rw [c_ev_con]; omega
      · have h9 : c_ev r (c_con 0) = 8 := h9
        rw [c_ev_con] at h9; omega
    · cases h
  · cases h
/-- a law is to be told: its two ends are known places of c -/
def k_mv13 (O : cCtr) (i1 i2 : cLin) (A : cSt) : Option cSt := match k_arr A with
  | some y => (match c_mget y i1 (c_me A), c_mget y i2 (c_me A) with
    | some (0, x1), some (0, x2) => if k_gis A 1 0 && c_in3 A 19 22 i1 && k_eq A i2 (c_addc i1 1) && c_in3 A 0 600 x1 && c_in3 A 0 600 x2 then k_gups O [(61, x2), (62, x1), (63, c_con 0)] A else none
    | _, _ => none)
  | none => none
theorem k_mv13_ok {i1 i2 : cLin} (h : k_mv13 O i1 i2 A = some B) (hB : c_OK ((p, l, e, R, s, m, args, below, meth, c), (D, cl, dA, AA), (k_K, O, w0), (cc, nL, Q)) n0 r0 pc B) : c_OK ((p, l, e, R, s, m, args, below, meth, c), (D, cl, dA, AA), (k_K, O, w0), (cc, nL, Q)) n0 r0 pc A := by
  unfold k_mv13 at h
  split at h
  · rename_i y ha
    split at h
    · rename_i x1 x2 hx1 hx2
      split at h
      · rename_i hc
        rw [Bool.and_eq_true, Bool.and_eq_true, Bool.and_eq_true, Bool.and_eq_true] at hc
        obtain ⟨⟨⟨⟨c0, c1⟩, c2⟩, c3⟩, c4⟩ := hc
        refine k_mv_ok ha h (fun r lv st w hr => ?_) hB
        have f0 := k_gis_ok hr c0
        have f1 := c_in3_ok hr c1
        have f2 := k_eq_ok hr c2
        rw [c_ev_addc] at f2
        have f3 := c_in3_ok hr c3
        have f4 := c_in3_ok hr c4
        refine ⟨rfl, Iff.rfl, fun h1 F kn ty hJ => ?_⟩
        have k1 := kn _ _ (c_ev r i1).toNat hx1 (by omega)
        have k2 := kn _ _ ((c_ev r i1).toNat + 1) hx2 (by omega)
        refine k_jtel (g := w.2.2) rfl ⟨rfl, rfl, rfl⟩ ⟨rfl, rfl, rfl, rfl, rfl, rfl, rfl⟩ ⟨rfl, rfl, rfl, rfl⟩ ⟨rfl, rfl⟩ rfl rfl rfl (k_tbl_gs rfl hJ.2.2.2.2.2.2.2.2.2.2.2) ?_ hJ
        have g61 : k_gsem r [(61, x2), (62, x1), (63, c_con 0)] w.2.2 61 = c_ev r x2 := rfl
        have g62 : k_gsem r [(61, x2), (62, x1), (63, c_con 0)] w.2.2 62 = c_ev r x1 := rfl
        have g63 : k_gsem r [(61, x2), (62, x1), (63, c_con 0)] w.2.2 63 = 0 := c_ev_con r 0
        unfold k_tel
        rw [g61, g62, g63]
        intro _ _ _
        have hl := (hJ.2.1 0 (by omega)).1 (by omega) (fun _ => by omega) ((c_ev r i1).toNat - 19) (by omega)
        rw [show 2000 * 0 + 19 + ((c_ev r i1).toNat - 19) = (c_ev r i1).toNat by omega, show 2000 * 0 + 20 + ((c_ev r i1).toNat - 19) = (c_ev r i1).toNat + 1 by omega, k1, k2] at hl
        refine ⟨(c_ev r x1).toNat, by omega, ?_, ?_⟩
        · have := hl (by omega) (by omega)
          rw [show 2000 * 0 + 30 + (c_ev r x1).toNat = 30 + (c_ev r x1).toNat by omega] at this
          rw [show (c_ev r x2 - ((c_ev r x1).toNat : Int)).toNat = (c_ev r x2 - c_ev r x1).toNat by omega]
          exact this
        · rw [show (c_ev r x1 - ((c_ev r x1).toNat : Int)).toNat = 0 by omega]
          rfl
      · cases h
    · cases h
  · cases h
/-- a line is to be told: its length is a known place of c -/
def k_mv14 (O : cCtr) (A : cSt) : Option cSt := match k_arr A with
  | some y => (match c_mget y (c_con 1713) (c_me A) with
    | some (0, x1) => if k_gis A 1 0 && c_in3 A 0 206 x1 then k_gups O [(65, x1), (66, c_con 0), (67, c_con 0)] A else none
    | _ => none)
  | none => none
theorem k_mv14_ok (h : k_mv14 O A = some B) (hB : c_OK ((p, l, e, R, s, m, args, below, meth, c), (D, cl, dA, AA), (k_K, O, w0), (cc, nL, Q)) n0 r0 pc B) : c_OK ((p, l, e, R, s, m, args, below, meth, c), (D, cl, dA, AA), (k_K, O, w0), (cc, nL, Q)) n0 r0 pc A := by
  unfold k_mv14 at h
  split at h
  · rename_i y ha
    split at h
    · rename_i x1 hx1
      split at h
      · rename_i hc
        rw [Bool.and_eq_true] at hc
        refine k_mv_ok ha h (fun r lv st w hr => ?_) hB
        have f0 := k_gis_ok hr hc.1
        have f1 := c_in3_ok hr hc.2
        refine ⟨rfl, Iff.rfl, fun h1 F kn ty hJ => ?_⟩
        have k1 := kn _ _ 1713 hx1 (c_ev_con r _)
        refine k_jlyn (g := w.2.2) rfl ⟨rfl, rfl, rfl⟩ ⟨rfl, rfl, rfl, rfl, rfl, rfl, rfl⟩ ⟨rfl, rfl, rfl, rfl⟩ ⟨rfl, rfl⟩ rfl rfl rfl (k_tbl_gs rfl hJ.2.2.2.2.2.2.2.2.2.2.2) ?_ hJ
        have g61 : k_gsem r [(65, x1), (66, c_con 0), (67, c_con 0)] w.2.2 65 = c_ev r x1 := rfl
        have g62 : k_gsem r [(65, x1), (66, c_con 0), (67, c_con 0)] w.2.2 66 = 0 := c_ev_con r 0
        have g63 : k_gsem r [(65, x1), (66, c_con 0), (67, c_con 0)] w.2.2 67 = 0 := c_ev_con r 0
        unfold k_lyn
        rw [g61, g62, g63]
        intro _ _ _
        have hl := (hJ.2.1 0 (by omega)).2 (by omega) (fun _ => by omega)
        have hl : F 1713 ≤ 206 → k_sf k_dN k_okN F 1794 (F 1713).toNat := hl
        rw [k1] at hl
        exact ⟨by omega, hl (by omega), rfl⟩
      · cases h
    · cases h
  · cases h
end MV
