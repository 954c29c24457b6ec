/-! ghost moves, and stores by hand -/
def c_noJ (K : cTab) : cTab := (K.1, K.2.1, K.2.2.1, K.2.2.2.1, [], fun _ _ _ _ => True)
theorem c_TW_noJ {K : cTab} {dA : Nat → ClassId} {w : cWld} (h : c_TW K dA w) : c_TW (c_noJ K) dA w := fun q hq => by
  obtain ⟨a, b, c, -⟩ := h q hq
  exact ⟨a, b, c, trivial⟩
theorem c_TW_J {K : cTab} {dA : Nat → ClassId} {w : cWld} {g : Nat → Int} (h : c_TW (c_noJ K) dA w) (hJ : ∀ q ∈ w.2.1, K.2.2.2.2.2 (w.1 q.1) q.1 (c_rd q.2) g) : c_TW K dA (w.1, w.2.1, g) := fun q hq => by
  obtain ⟨a, b, c, -⟩ := h q hq
  exact ⟨a, fun j v hv => c_in_mono_okV (fun _ _ h => h) (b j v hv), fun i hi1 hi2 y hy hy0 v hv => c_in_mono_okV (fun _ _ h => h) (c i hi1 hi2 y hy hy0 v hv), hJ q hq⟩
theorem c_Jfr_noJ (K : cTab) : c_Jfr (c_noJ K) := fun _ _ _ _ _ _ _ => trivial
def k_glo (j : Nat) : Int := if Nat.beq j 40 then 0 else -1000000000000
def k_ghi (j : Nat) : Int := if Nat.beq j 40 then 59 else 1000000000000
def k_gset (O : cCtr) (j : Nat) (e : cLin) (A : cSt) : Option cSt := if c_effIn (ct_eff O) 0 j j && c_wfL A.1 e && c_in3 A (k_glo j) (k_ghi j) e then some (c_setM A ((0, c_con (j : Int), (1, e)) :: (c_me A).filter (c_keepM A 0 j j))) else none
def k_gups (O : cCtr) : List (Nat × cLin) → cSt → Option cSt
  | [], A => some A
  | u :: l, A => match k_gset O u.1 u.2 A with
    | none => none
    | some B => k_gups O l B
def k_gsem (r : Nat → Int) : List (Nat × cLin) → (Nat → Int) → Nat → Int
  | [], g => g
  | u :: l, g => k_gsem r l (fun i => if i = u.1 then c_ev r u.2 else g i)
/-- a ghost number, exactly -/
def k_gh (A : cSt) (j : Nat) : Option cLin := match c_mget 0 (c_con (j : Int)) (c_me A) with
  | some a => if c_in2 A (-1000000000000) 1000000000000 a.2 && !(Nat.beq j 40) then some a.2 else none
  | none => none
theorem k_gh_ok {A : cSt} {j : Nat} {e : cLin} {r : Nat → Int} {lv : List (Nat × Value)} {st : List Value} {w : cWld} (hr : c_satR A r lv st w) (h : k_gh A j = some e) : w.2.2 j = c_ev r e := by
  unfold k_gh at h
  split at h
  · rename_i a ha
    split at h
    · rename_i hc
      cases h
      rw [Bool.and_eq_true] at hc
      have h2 := c_in2_ok hr hc.1
      have hj40 : j ≠ 40 := fun h9 => by
        rw [h9] at hc
        exact absurd hc.2 (by decide)
      obtain ⟨q, hq, q1, q2, q3⟩ := c_mget_ok ha
      have hm := hr.2.2.2.2.2.2 q hq
      unfold c_mem at hm
      rw [q1] at hm
      obtain ⟨i, m1, m2⟩ := hm
      rw [q2 r, c_ev_con] at m1
      have : i = j := by omega
      subst this
      rw [q3] at m2
      unfold c_gv at m2
      rw [if_neg hj40] at m2
      split at m2 <;> omega
    · cases h
  · cases h
section GH
variable {n0 : Nat} {r0 r1 : Nat → Int} {lv : List (Nat × Value)} {st : List Value} {w w0 : cWld} {A B : cSt} {O : cCtr}
theorem k_keep0 {j : Nat} {q : Nat × cLin × cAV} {r : Nat → Int} (hv : c_envOk r A.2.1) (h : c_keepM A 0 (j : Int) (j : Int) q = true) (h0 : q.1 = 0) : c_ev r q.2.1 ≠ (j : Int) := by
  unfold c_keepM at h
  rw [h0] at h
  change (!(Nat.beq 0 0) || (match c_rng A.2.1 q.2.1 with
    | some x => decide (x.2 < (j : Int)) || decide ((j : Int) < x.1)
    | none => false)) = true at h
  rw [Bool.or_eq_true] at h
  rcases h with h | h
  · exact absurd h (by decide)
  · split at h
    · rename_i x hx
      have h1 := c_rng_ok hv hx
      rw [Bool.or_eq_true] at h
      rcases h with h | h
      · have := of_decide_eq_true h; omega
      · have := of_decide_eq_true h; omega
    · cases h
theorem k_gset_ok {j : Nat} {e : cLin} (hs : c_sat n0 r1 A lv st w) (hn : n0 = A.1) (hE : c_ext (ct_eff O) (ct_pros O) w0 w) (h : k_gset O j e A = some B) :
    c_sat n0 r1 B lv st (w.1, w.2.1, fun i => if i = j then c_ev r1 e else w.2.2 i) ∧ c_ext (ct_eff O) (ct_pros O) w0 (w.1, w.2.1, fun i => if i = j then c_ev r1 e else w.2.2 i) ∧ B.1 = A.1 ∧ c_cu B = c_cu A ∧ c_su B = c_su A ∧ c_stk B = c_stk A := by
  unfold k_gset at h
  split at h
  · rename_i hc
    rw [Bool.and_eq_true, Bool.and_eq_true] at hc
    cases h
    have heff : c_hits (ct_eff O) 0 j := c_effIn_ok hc.1.1 (Int.le_refl _) (Int.le_refl _)
    refine ⟨hs.to rfl fun r hag hr => ⟨hr.1, hr.2.1, hr.2.2.1, hr.2.2.2.1, hr.2.2.2.2.1, hr.2.2.2.2.2.1, fun q hq => ?_⟩, ⟨hE.1, fun i hi => ?_⟩, rfl, rfl, rfl, rfl⟩
    · have hee : c_ev r e = c_ev r1 e := c_wfL_ok hc.1.2 (by rw [← hn]; exact hag)
      have hin := c_in3_ok hr hc.2
      rcases List.mem_cons.mp hq with rfl | hq
      · refine ⟨j, c_ev_con r _, ?_⟩
        show c_gv j (if j = j then c_ev r1 e else w.2.2 j) = c_ev r e
        rw [if_pos rfl, ← hee]
        unfold k_glo k_ghi at hin
        by_cases h40 : Nat.beq j 40 = true
        · rw [if_pos h40, if_pos h40] at hin
          rw [Nat.eq_of_beq_eq_true h40]
          exact c_gv_id40 hin.1 hin.2
        · rw [if_neg h40, if_neg h40] at hin
          exact c_gv_id (fun h9 => h40 (by rw [h9]; rfl)) (by omega) (by omega)
      · obtain ⟨h1, h2⟩ := List.mem_filter.mp hq
        have hm := hr.2.2.2.2.2.2 q h1
        unfold c_mem at hm ⊢
        split at hm
        · rename_i h0
          obtain ⟨i, m1, m2⟩ := hm
          refine ⟨i, m1, ?_⟩
          have := k_keep0 hr.1 h2 h0
          show c_gv i (if i = j then c_ev r1 e else w.2.2 i) = _
          rw [if_neg (by intro hij; subst hij; exact this m1)]
          exact m2
        · exact hm
    · show (if i = j then c_ev r1 e else w.2.2 i) = _
      rw [if_neg (by intro hij; subst hij; exact hi heff)]
      exact hE.2 i hi
  · cases h
theorem k_gups_ok : ∀ (U : List (Nat × cLin)) {A B : cSt} {w : cWld}, c_sat n0 r1 A lv st w → n0 = A.1 → c_ext (ct_eff O) (ct_pros O) w0 w → k_gups O U A = some B →
    c_sat n0 r1 B lv st (w.1, w.2.1, k_gsem r1 U w.2.2) ∧ c_ext (ct_eff O) (ct_pros O) w0 (w.1, w.2.1, k_gsem r1 U w.2.2) ∧ B.1 = A.1 ∧ c_cu B = c_cu A ∧ c_su B = c_su A ∧ c_stk B = c_stk A
  | [], A, B, w, hs, _, hE, h => by
    cases h
    exact ⟨hs, hE, rfl, rfl, rfl, rfl⟩
  | u :: l, A, B, w, hs, hn, hE, h => by
    unfold k_gups at h
    split at h
    · cases h
    · rename_i C hC
      obtain ⟨g1, g2, g3, g4, g5, g6⟩ := k_gset_ok hs hn hE hC
      obtain ⟨k1, k2, k3, k4, k5, k6⟩ := k_gups_ok l g1 (hn.trans g3.symm) g2 h
      exact ⟨k1, k2, k3.trans g3, k4.trans g4, k5.trans g5, k6.trans g6⟩
end GH
section GM
variable {p : Program} {l : Launch} {e : Env} {R : Room} {s : State} {m : MethodId} {args : Array Value} {below : List Frame} {meth : Method} {c : Code} {D : va_G} {cl : List vw_C} {dA : Nat → ClassId} {AA : Nat → Prop} {K : cTab} {O : cCtr} {w0 : cWld} {cc : ByteArray} {nL : Nat} {Q : State → Prop} {n0 : Nat} {r0 : Nat → Int}
  {A B : cSt} {pc len : Nat} {L : List (Nat × cSt)} {bk : String} {U : List (Nat × cLin)}
/-- a move of ghost numbers -/
theorem k_mvJ (hU : k_gups O U A = some B) (hJ : ∀ (r : Nat → Int) (lv : List (Nat × Value)) (st : List Value) (w : cWld), c_satR A r lv st w → c_TW K dA w → va_D AA w.2.1 → ∀ q ∈ w.2.1, K.2.2.2.2.2 (w.1 q.1) q.1 (c_rd q.2) (k_gsem r U w.2.2))
    (hB : c_OK ((p, l, e, R, s, m, args, below, meth, c), (D, cl, dA, AA), (K, O, w0), (cc, nL, Q)) n0 r0 pc B) : c_OK ((p, l, e, R, s, m, args, below, meth, c), (D, cl, dA, AA), (K, O, w0), (cc, nL, Q)) n0 r0 pc A := by
  intro lv st w cu su hcu hsu hT hE hs H locs ls hP hD hS hl
  obtain ⟨r1, hp, hn, ha, hr1⟩ := hs.pin
  obtain ⟨g1, g2, g3, g4, g5, g6⟩ := k_gups_ok U hp rfl hE hU
  exact hB lv st (w.1, w.2.1, k_gsem r1 U w.2.2) cu su (g4.trans hcu) (g5.trans hsu) (c_TW_J (c_TW_noJ hT) (hJ r1 lv st w hr1 hT hD)) g2 (g1.weak hn ha) H locs ls hP hD hS hl
/-- places that are loaded ahead of an instruction -/
def k_ld (K : cTab) (l : List (Nat × cLin)) (n : Nat) (A : cSt) : Option cSt := match c_loads K l A (c_ids n) with
  | some B => some (c_setS B.1 (c_stk A))
  | none => none
theorem k_ld_ok {q : List (Nat × cLin)} {n : Nat} (h : k_ld K q n A = some B)
    (hB : c_OK ((p, l, e, R, s, m, args, below, meth, c), (D, cl, dA, AA), (K, O, w0), (cc, nL, Q)) n0 r0 pc B) : c_OK ((p, l, e, R, s, m, args, below, meth, c), (D, cl, dA, AA), (K, O, w0), (cc, nL, Q)) n0 r0 pc A := by
  unfold k_ld at h
  split at h
  · rename_i C hC
    cases h
    intro lv st w cu su hcu hsu hT hE hs H locs ls hP hD hS hl
    obtain ⟨vs, S', x, g1, g2, g3, g4, g5, -⟩ := c_loads_ok hT hD _ _ _ _ C hC hs
    refine hB lv st w cu su (g4.trans hcu) (g5.trans hsu) hT hE (g1.setS fun r hr => ?_) H locs ls hP hD hS hl
    have hF : c_F2 (c_DV r) (c_stk C.1) (vs ++ st) := hr.2.2.2.2.2.1
    rw [g2] at hF
    have gen : ∀ (a : List cAV) (b : List Value), a.length = b.length → c_F2 (c_DV r) (a ++ c_stk A) (b ++ st) → c_F2 (c_DV r) (c_stk A) st := by
      intro a
      induction a with
      | nil => intro b hb hh; cases b with
        | nil => exact hh
        | cons y b => simp at hb
      | cons z a ih =>
        intro b hb hh
        cases b with
        | nil => simp at hb
        | cons y b => exact ih b (by simpa using hb) hh.2
    exact gen S' vs g3 hF
  · cases h
/-- an int is stored, and ghost numbers are set -/
def k_hst (K' : cTab) (O : cCtr) (U : List (Nat × cLin)) (A : cSt) (pc : Nat) : Option (List (Nat × cSt)) := match c_ast K' O A (pc + 1) (fun k a => Nat.beq k 1 && Nat.beq a.1 0) with
  | some [x] => (match k_gups O U x.2 with
    | some C => some [(pc + 1, C)]
    | none => none)
  | _ => none
theorem k_hst_ok {K' : cTab} (hJ' : c_Jfr K') (hw : ∀ w, c_TW K dA w → c_TW K' dA w) (hx : p.tables.exec = Jvm.exec) (hb : c.code = cc) (hK : va_K D cl (c_tys dA bk) s) (h : k_hst K' O U A pc = some L) (hd : decode cc pc = .ok (.iastore, 1))
    (hJ : ∀ (r : Nat → Int) (lv : List (Nat × Value)) (w : cWld) (a : cAV) (i : cLin) (o : cAV) (S : List cAV) (x : Nat × Nat) (z ix : Int32) (y : Nat) (ss : List Value) (q0 : Nat) (f : Nat → Int32), c_stk A = a :: (0, i) :: o :: S → c_ref A o = some x → a.1 = 0 → c_satR A r lv (.int z :: .int ix :: .ref y :: ss) w → c_TW K dA w → va_D AA w.2.1 → w.2.1[q0]? = some (y, .inl (dA 1, (K'.2.1 x.2).2.1, .inl f)) → w.1 y = x.2 → r x.1 = (y : Int) → z.toInt = c_ev r a.2 → ix.toInt = c_ev r i → 0 ≤ ix.toInt → ix.toInt < ((K'.2.1 x.2).2.1 : Int) →
      c_TW K' dA (w.1, w.2.1.set q0 (y, .inl (dA 1, (K'.2.1 x.2).2.1, .inl (upd f ix.toNatClampNeg z))), w.2.2) → c_TW K dA (w.1, w.2.1.set q0 (y, .inl (dA 1, (K'.2.1 x.2).2.1, .inl (upd f ix.toNatClampNeg z))), k_gsem r U w.2.2))
    (hL : ∀ q ∈ L, c_OK ((p, l, e, R, s, m, args, below, meth, c), (D, cl, dA, AA), (K, O, w0), (cc, nL, Q)) n0 r0 q.1 q.2) : c_OK ((p, l, e, R, s, m, args, below, meth, c), (D, cl, dA, AA), (K, O, w0), (cc, nL, Q)) n0 r0 pc A := by
  unfold k_hst at h
  split at h
  · rename_i x0 hg
    split at h
    · rename_i C hC
      cases h
      obtain ⟨a, i, o, S, x, B, hst, hx1, hok, hi, hB, hL0⟩ := c_ast_inv hg
      cases hL0
      intro lv st w cu su hcu hsu hT hE hs H locs ls hP hD hS hl
      obtain ⟨r1, hp, hn, ha, hr1⟩ := hs.pin
      obtain ⟨v, ix, y, ss, ce, q0, rfl, hq0, hy1, hform, hin, hlt, hdv, hv⟩ := c_ast_sem hJ' hp (hw w hT) hD hE hst hx1 hi hB
      rw [Bool.and_eq_true] at hok
      have hk := Nat.eq_of_beq_eq_true hok.1
      have ha0 := Nat.eq_of_beq_eq_true hok.2
      obtain ⟨z, rfl, -⟩ := c_DVi (hdv r1 hr1) ha0
      unfold c_form at hform
      rw [hk] at hform
      obtain ⟨f, rfl⟩ := hform
      obtain ⟨s1, s2, s3, s4, s5⟩ := hv (.inl (dA 1, (K'.2.1 x.2).2.1, .inl (upd f ix.toNatClampNeg z))) (fun j => by
        show (if j < _ then some _ else none) = _
        by_cases hj : j = ix.toNatClampNeg
        · subst hj
          rw [if_pos hlt, if_pos rfl]
          simp [c_rdA, upd]
        · rw [if_neg hj]
          show _ = if j < _ then some _ else none
          by_cases hj2 : j < (K'.2.1 x.2).2.1
          · rw [if_pos hj2, if_pos hj2]
            simp [c_rdA, upd, hj]
          · rw [if_neg hj2, if_neg hj2]) (fun h hh => c_form_inl (q := (dA 1, (K'.2.1 x.2).2.1, .inl f)) rfl rfl (Or.inl ⟨_, _, rfl, rfl⟩) hh)
      obtain ⟨r2, hp2, hn2, ha2, hr2⟩ := s1.pin
      have hrA : c_satR A r2 lv (.int z :: .int ix :: .ref y :: ss) w := by
        obtain ⟨-, r, h1, h2⟩ := hp
        exact h2 r2 (fun j hj => (ha2 j hj).trans (h1 j hj).symm)
      obtain ⟨g1, g2, g3, g4, g5, g6⟩ := k_gups_ok U hp2 rfl s3 hC
      obtain ⟨z', hz', hz2⟩ := c_DVi (hdv r2 hrA) ha0
      cases hz'
      obtain ⟨y', -, -, e1, e2, -, -, hy3⟩ := c_obj hp (hw w hT) hx1 (v := .ref y) (fun r hr => by
        have hF : c_F2 (c_DV r) (c_stk A) _ := hr.2.2.2.2.2.1
        rw [hst] at hF
        exact hF.2.2.1)
      cases e1
      have hix : ix.toInt = c_ev r2 i := by
        have hF : c_F2 (c_DV r2) (c_stk A) _ := hrA.2.2.2.2.2.1
        rw [hst] at hF
        obtain ⟨z9, h9, h8⟩ := c_DVi hF.2.1 rfl
        cases h9
        exact h8
      have hix2 := vp_in_iff.mp hin
      have s2' := hJ r2 lv w a i o S x z ix y ss q0 f hst hx1 ha0 hrA hT hD hq0 hy1 (hy3 r2 hrA) hz2 hix hix2.1 hix2.2 s2
      exact va_iast hx hb hK hP hD hS q0 0 hq0 rfl hin hd (fun H1 locs1 hP1 hD1 hS1 => hL _ List.mem_cons_self lv ss (w.1, w.2.1.set q0 (y, .inl (dA 1, (K'.2.1 x.2).2.1, .inl (upd f ix.toNatClampNeg z))), k_gsem r2 U w.2.2) cu su (g4.trans (s4.trans hcu)) (g5.trans (s5.trans hsu)) s2' g2 ((g1.weak hn2 ha2).weak hn ha) H1 locs1 ls hP1 hD1 hS1 hl)
    · cases h
  · cases h
end GM
