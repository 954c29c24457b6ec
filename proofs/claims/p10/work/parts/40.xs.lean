/-! all that is done by hand, by its number -/
def k_two (A : cSt) (e : cLin) (f1 f2 : cSt → Option (List (Nat × cSt))) (g : Option (List (Nat × cSt))) : Option (List (Nat × cSt)) := match k_alt A e f1 f2 with
  | some L => some L
  | none => g
def k_h1 (O : cCtr) (pc : Nat) (A : cSt) : Option (List (Nat × cSt)) := match k_x1 O pc A with
  | some L => some L
  | none => c_ast k_K O A (pc + 1) (fun k a => Nat.beq k 1 && Nat.beq a.1 0)
def k_h2 (O : cCtr) (pc : Nat) (A : cSt) : Option (List (Nat × cSt)) := match k_gh A 80 with
  | some e80 => k_two A e80 (k_x2a O pc) (k_x2c O pc) (k_alt A (c_addc e80 (-2)) (k_x2b O pc) (k_x2c O pc))
  | none => none
def k_h3 (O : cCtr) (pc : Nat) (A : cSt) : Option (List (Nat × cSt)) := match k_gh A 80 with
  | some e80 => k_alt A e80 (k_x3a O pc) (k_x3c O pc)
  | none => none
def k_h10 (O : cCtr) (pc : Nat) (A : cSt) : Option (List (Nat × cSt)) := match k_gh A 90 with
  | some e90 => k_two A e90 (k_x10a O pc) (k_x10c O pc) (k_two A (c_addc e90 (-1)) (k_x10b O pc) (k_x10c O pc) (k_alt A (c_addc e90 (-2)) (k_x10d O pc) (k_x10c O pc)))
  | none => none
def k_X1 (O : cCtr) (n pc : Nat) (A : cSt) : Option (List (Nat × cSt)) := match n with
  | 1 => k_h1 O pc A
  | 2 => k_h2 O pc A
  | 3 => k_h3 O pc A
  | 4 => k_x4 O pc A
  | 5 => k_x5 O pc A
  | 6 => k_x6 O pc A
  | 7 => k_x7 O pc A
  | 8 => k_x8 O pc A
  | 9 => k_x9 O pc A
  | 10 => k_h10 O pc A
  | 11 => k_x11 O pc A
  | 12 => k_x12 O pc A
  | 13 => k_x13 O pc A
  | 14 => k_x14 O pc A
  | 15 => k_x15 O pc A
  | 16 => k_x16 O pc A
  | 17 => k_x17 O pc A
  | 18 => k_x18 pc A
  | 21 => k_xbit pc A
  | 23 => k_spG pc 6 40 A
  | 26 => k_spL pc 5 3 A
  | 27 => k_spG pc 5 50 A
  | _ => none
def k_withC (f : cSt → Option cSt) (A : cSt) : Option cSt := match k_ld k_K [(1, c_con 22)] 2 A with
  | some B => f B
  | none => none
def k_m13 (O : cCtr) (A : cSt) : Option cSt := match k_ld k_K [(1, c_con 22), (3, (19, [(2, 1)])), (3, (20, [(2, 1)]))] 3 A with
  | some B => k_mv13 O (19, [(2, 1)]) (20, [(2, 1)]) B
  | none => none
def k_m14 (O : cCtr) (A : cSt) : Option cSt := match k_ld k_K [(1, c_con 22), (2, c_con 1713)] 2 A with
  | some B => k_mv14 O B
  | none => none
def k_X2 (O : cCtr) (n : Nat) (A : cSt) : Option cSt := match n with
  | 1 => k_mv1 A
  | 2 => k_withC (k_mv2 O) A
  | 3 => k_withC (k_mv3 O) A
  | 4 => k_withC (k_mv4 O) A
  | 5 => k_withC (k_mv5 O) A
  | 6 => k_withC (k_mv6 O) A
  | 7 => k_withC (k_mv7 O) A
  | 8 => k_withC (k_mv8 O) A
  | 9 => k_withC (k_mv9 O) A
  | 10 => k_withC (k_mv10 O) A
  | 11 => k_withC (k_mv11 O (c_sym 2) (c_sym 3)) A
  | 12 => k_withC (k_mv12 O) A
  | 13 => k_m13 O A
  | 14 => k_m14 O A
  | 15 => k_withC (k_mv15 O) A
  | 20 => k_rw A
  | 22 => k_withC (k_mvL O 40 6) A
  | 24 => k_withC (k_mvC O 1) A
  | 25 => k_withC (k_mvC O 0) A
  | 28 => k_withC (k_mvL O 50 5) A
  | _ => none
def k_X (O : cCtr) : cXs := (fun k A => k_X1 O (k % 100) (k / 100) A, fun k A => k_X2 O k A)
/-- which instructions they are -/
def k_isI (n : Nat) (x y z : Option (Jvm.ClassFile.Instr × Nat)) : Bool := match n, x, y, z with
  | 21, some (.ishr, 1), some (.iconst 1, 1), some (.iand, 1) => true
  | 11, some (.iaload, 1), _, _ => true
  | 12, some (.iaload, 1), _, _ => true
  | 18, some (.iaload, 1), _, _ => true
  | 14, some (.lmul, 1), _, _ => true
  | 15, some (.lmul, 1), _, _ => true
  | 16, some (.lmul, 1), _, _ => true
  | 17, some (.lsub, 1), _, _ => true
  | 23, some (.iload 6, 2), _, _ => true
  | 26, some (.iload 5, 2), _, _ => true
  | 27, some (.iload 5, 2), _, _ => true
  | n, some (.iastore, 1), _, _ => Nat.ble n 10 || Nat.beq n 13
  | _, _, _, _ => false
def k_annB (b : cBody) : Bool := b.2.2.1.all (fun q => !(Nat.beq q.2.1 9) || (Nat.beq (q.2.2 / 100) q.1 && k_isI (q.2.2 % 100) (c_find q.1 b.2.2.2.1) (c_find (q.1 + 1) b.2.2.2.1) (c_find (q.1 + 2) b.2.2.2.1)))
theorem c_annOf_mem {pc k x : Nat} : ∀ {l : cAnn}, c_annOf pc k l = some x → (pc, k, x) ∈ l
  | [], h => by cases h
  | q :: l, h => by
    unfold c_annOf at h
    split at h
    · rename_i hc
      rw [Bool.and_eq_true] at hc
      cases h
      have e1 := Nat.eq_of_beq_eq_true hc.1
      have e2 := Nat.eq_of_beq_eq_true hc.2
      have : q = (pc, k, q.2.2) := by rw [← e1, ← e2]
      rw [← this]
      exact List.mem_cons_self
    · exact List.mem_cons_of_mem _ (c_annOf_mem h)
section XS
variable {p : Program} {l : Launch} {e : Env} {R : Room} {s : State} {m : MethodId} {args : Array Value} {below : List Frame} {meth : Method} {c : Code} {D : va_G} {cl : List vw_C} {dA : Nat → ClassId} {AA : Nat → Prop} {O : cCtr} {w0 : cWld} {cc : ByteArray} {nL : Nat} {Q : State → Prop} {n0 : Nat} {r0 : Nat → Int}
  {A B : cSt} {pc len : Nat} {L : List (Nat × cSt)} {bk : String}
theorem k_withC_ok {f : cSt → Option cSt} (h : k_withC f A = some B) (hf : ∀ C, f C = some B → c_OK ((p, l, e, R, s, m, args, below, meth, c), (D, cl, dA, AA), (k_K, O, w0), (cc, nL, Q)) n0 r0 pc C) : c_OK ((p, l, e, R, s, m, args, below, meth, c), (D, cl, dA, AA), (k_K, O, w0), (cc, nL, Q)) n0 r0 pc A := by
  unfold k_withC at h
  split at h
  · rename_i C hC
    exact k_ld_ok hC (hf C h)
  · cases h
theorem k_X2_ok {n : Nat} (h : k_X2 O n A = some B) (hB : c_OK ((p, l, e, R, s, m, args, below, meth, c), (D, cl, dA, AA), (k_K, O, w0), (cc, nL, Q)) n0 r0 pc B) : c_OK ((p, l, e, R, s, m, args, below, meth, c), (D, cl, dA, AA), (k_K, O, w0), (cc, nL, Q)) n0 r0 pc A := by
  unfold k_X2 at h
  split at h
  · exact k_mv1_ok h hB
  · exact k_withC_ok h fun C hC => k_mv2_ok hC hB
  · exact k_withC_ok h fun C hC => k_mv3_ok hC hB
  · exact k_withC_ok h fun C hC => k_mv4_ok hC hB
  · exact k_withC_ok h fun C hC => k_mv5_ok hC hB
  · exact k_withC_ok h fun C hC => k_mv6_ok hC hB
  · exact k_withC_ok h fun C hC => k_mv7_ok hC hB
  · exact k_withC_ok h fun C hC => k_mv8_ok hC hB
  · exact k_withC_ok h fun C hC => k_mv9_ok hC hB
  · exact k_withC_ok h fun C hC => k_mv10_ok hC hB
  · exact k_withC_ok h fun C hC => k_mv11_ok hC hB
  · exact k_withC_ok h fun C hC => k_mv12_ok hC hB
  · unfold k_m13 at h
    split at h
    · rename_i C hC
      exact k_ld_ok hC (k_mv13_ok h hB)
    · cases h
  · unfold k_m14 at h
    split at h
    · rename_i C hC
      exact k_ld_ok hC (k_mv14_ok h hB)
    · cases h
  · exact k_withC_ok h fun C hC => k_mv15_ok hC hB
  · exact k_rw_ok h hB
  · exact k_withC_ok h fun C hC => k_mvL_ok hC hB
  · exact k_withC_ok h fun C hC => k_mvC_ok hC hB
  · exact k_withC_ok h fun C hC => k_mvC_ok hC hB
  · exact k_withC_ok h fun C hC => k_mvL_ok hC hB
  · cases h
theorem k_X1_ok {n : Nat} {x y z : Option (Jvm.ClassFile.Instr × Nat)} (hx : p.tables.exec = Jvm.exec) (hb : c.code = cc) (hK : va_K D cl (c_tys dA bk) s) (hi : k_isI n x y z = true) (hdx : ∀ i, x = some i → decode cc pc = .ok i) (hdy : ∀ i, y = some i → decode cc (pc + 1) = .ok i) (hdz : ∀ i, z = some i → decode cc (pc + 2) = .ok i) (h : k_X1 O n pc A = some L)
    (hL : ∀ q ∈ L, c_OK ((p, l, e, R, s, m, args, below, meth, c), (D, cl, dA, AA), (k_K, O, w0), (cc, nL, Q)) n0 r0 q.1 q.2) : c_OK ((p, l, e, R, s, m, args, below, meth, c), (D, cl, dA, AA), (k_K, O, w0), (cc, nL, Q)) n0 r0 pc A := by
  unfold k_isI at hi
  split at hi
  · have h : k_xbit pc A = some L := h
    exact k_xbit_ok h hx hb (hdx _ rfl) (hdy _ rfl) (hdz _ rfl) hL
  · exact k_x11_ok hx hb hK h (hdx _ rfl) hL
  · exact k_x12_ok hx hb hK h (hdx _ rfl) hL
  · exact k_x18_ok hx hb hK h (hdx _ rfl) hL
  · exact k_x14_ok hx hb h (hdx _ rfl) hL
  · exact k_x15_ok hx hb h (hdx _ rfl) hL
  · exact k_x16_ok hx hb h (hdx _ rfl) hL
  · exact k_x17_ok hx hb h (hdx _ rfl) hL
  · exact k_spG_ok h hx hb (hdx _ rfl) hL
  · exact k_spL_ok h hx hb (hdx _ rfl) hL
  · exact k_spG_ok h hx hb (hdx _ rfl) hL
  · have hd := hdx _ rfl
    unfold k_X1 at h
    split at h
    · unfold k_h1 at h
      split at h
      · rename_i hh
        cases h
        exact k_x1_ok hx hb hK hh hd hL
      · exact c_m_iastore (P := (fun _ _ => none, fun _ => [], fun _ => 0, fun _ _ => 0)) (own := 0) (an := []) (len := 1) k_Jfr hx hb hK (show c_step k_K (fun _ _ => none, fun _ => [], fun _ => 0, fun _ _ => 0) O nL 0 [] A pc 1 .iastore = some L from h) hd hL
    · unfold k_h2 at h
      split at h
      · rename_i e80 h80
        unfold k_two at h
        split at h
        · rename_i hh
          cases h
          exact k_alt_ok hh (fun lv st w => ⟨w.2.2 80, fun r hr => (k_gh_ok hr h80).symm⟩) (fun B L1 _ hf hL1 => k_x2a_ok hx hb hK hf hd hL1) (fun B L1 _ hf hL1 => k_x2c_ok hx hb hK hf hd hL1) hL
        · exact k_alt_ok h (fun lv st w => ⟨w.2.2 80 + (-2), fun r hr => by rw [c_ev_addc, ← k_gh_ok hr h80]⟩) (fun B L1 _ hf hL1 => k_x2b_ok hx hb hK hf hd hL1) (fun B L1 _ hf hL1 => k_x2c_ok hx hb hK hf hd hL1) hL
      · cases h
    · unfold k_h3 at h
      split at h
      · rename_i e80 h80
        exact k_alt_ok h (fun lv st w => ⟨w.2.2 80, fun r hr => (k_gh_ok hr h80).symm⟩) (fun B L1 _ hf hL1 => k_x3a_ok hx hb hK hf hd hL1) (fun B L1 _ hf hL1 => k_x3c_ok hx hb hK hf hd hL1) hL
      · cases h
    · exact k_x4_ok hx hb hK h hd hL
    · exact k_x5_ok hx hb hK h hd hL
    · exact k_x6_ok hx hb hK h hd hL
    · exact k_x7_ok hx hb hK h hd hL
    · exact k_x8_ok hx hb hK h hd hL
    · exact k_x9_ok hx hb hK h hd hL
    · unfold k_h10 at h
      split at h
      · rename_i e90 h90
        unfold k_two at h
        split at h
        · rename_i hh
          cases h
          exact k_alt_ok hh (fun lv st w => ⟨w.2.2 90, fun r hr => (k_gh_ok hr h90).symm⟩) (fun B L1 _ hf hL1 => k_x10a_ok hx hb hK hf hd hL1) (fun B L1 _ hf hL1 => k_x10c_ok hx hb hK hf hd hL1) hL
        · split at h
          · rename_i hh
            cases h
            exact k_alt_ok hh (fun lv st w => ⟨w.2.2 90 + (-1), fun r hr => by rw [c_ev_addc, ← k_gh_ok hr h90]⟩) (fun B L1 _ hf hL1 => k_x10b_ok hx hb hK hf hd hL1) (fun B L1 _ hf hL1 => k_x10c_ok hx hb hK hf hd hL1) hL
          · exact k_alt_ok h (fun lv st w => ⟨w.2.2 90 + (-2), fun r hr => by rw [c_ev_addc, ← k_gh_ok hr h90]⟩) (fun B L1 _ hf hL1 => k_x10d_ok hx hb hK hf hd hL1) (fun B L1 _ hf hL1 => k_x10c_ok hx hb hK hf hd hL1) hL
      · cases h
    · simp at hi
    · simp at hi
    · exact k_x13_ok hx hb hK h hd hL
    · simp at hi
    · simp at hi
    · simp at hi
    · simp at hi
    · simp at hi
    · simp at hi
    · simp at hi
    · simp at hi
    · simp at hi
    · cases h
  · cases hi
end XS
/-- a contract with something by hand is met -/
theorem k_goodX {l : Launch} {D : va_G} {cl : List vw_C} {dA : Nat → ClassId} {AA : Nat → Prop} {bk : String} {Z : cStat} {P : cPrg} {d fuel : Nat} {O : cCtr} {M : cMth} {b : cBody} (ht : c_tabsOk k_K P cl Z bk) (hM : Z.2.1 (ct_m O) = some M) (hbo : c_bodyOk cl Z O M b) (hrun : c_run (k_X O) k_K P O b fuel = true) (han : k_annB b = true)
    (hG : ∀ d', d' < d → ∀ a, ∀ ct ∈ P.2.1 a, c_Good l D cl dA AA bk k_K Z d' ct) : c_Good l D cl dA AA bk k_K Z d O := by
  refine c_goodX_ok ht hM (fun w rr vals _ _ _ => ⟨k_X O, b, fuel, hbo, hrun, ?_⟩) hG
  intro p e R s m args below meth c Q hx hb hml hown hts hK hN hAA hR n0 r0 hn hag
  have hdec : ∀ pc i, c_find pc b.2.2.2.1 = some i → decode M.2.1 pc = .ok i := fun pc i hi => by
    obtain ⟨q, q1, q2⟩ := c_find_ok hi
    exact hbo.2.2.2.1 q q1 (pc, i) q2
  refine ⟨fun pc k A x L hk hf hd hX hL => ?_, fun pc A B k hX hB => k_X2_ok hX hB⟩
  have h1 := List.all_eq_true.mp han _ (c_annOf_mem hk)
  rw [Bool.or_eq_true, Bool.and_eq_true] at h1
  rcases h1 with h1 | ⟨h1, h2⟩
  · have h1 : (!(Nat.beq 9 9)) = true := h1
    exact absurd h1 (by decide)
  · have hpc := Nat.eq_of_beq_eq_true h1
    have hX : k_X1 O (k % 100) (k / 100) A = some L := hX
    rw [show k / 100 = pc from hpc] at hX
    exact k_X1_ok hx hb hK h2 (fun i hi => hdec pc i hi) (fun i hi => hdec _ i hi) (fun i hi => hdec _ i hi) hX hL
