/-! a contract with instructions by hand: the same, but what is done by hand is to be shown -/
def c_Xok (l : Launch) (D : va_G) (cl : List vw_C) (dA : Nat → ClassId) (AA : Nat → Prop) (bk : String) (K : cTab) (Z : cStat) (P : cPrg) (d : Nat) (O : cCtr) (M : cMth) (b : cBody) (X : cXs) (w0 : cWld) (rr : Nat → Int) : Prop :=
  ∀ {p : Program} {e : Env} {R : Room} {s : State} {m : MethodId} {args : Array Value} {below : List Frame} {meth : Method} {c : Code} {Q : State → Prop}, p.tables.exec = Jvm.exec → c.code = M.2.1 → c.maxLocals = b.1 → s.vm.findClass (Z.1 b.2.1) = some m.cls → (∀ x ∈ Z.2.2.1, x.before args s = true) → va_K D cl (c_tys dA bk) s → (∀ x ∈ Z.2.2.2.1, va_Nw x s) → c_AX AA s → R = (headSpec (c_ws Z M) (c_rm d O)).room →
  ∀ (n0 : Nat) (r0 : Nat → Int), c_entryN O ≤ n0 → c_agr (c_entryN O) rr r0 →
    (∀ (pc k : Nat) (A : cSt) (x : Jvm.ClassFile.Instr × Nat) (L : List (Nat × cSt)), c_annOf pc 9 b.2.2.1 = some k → c_find pc b.2.2.2.1 = some x → decode M.2.1 pc = .ok x → X.1 k A = some L → (∀ q ∈ L, c_OK ((p, l, e, R, s, m, args, below, meth, c), (D, cl, dA, AA), (K, O, w0), (M.2.1, b.1, Q)) n0 r0 q.1 q.2) → c_OK ((p, l, e, R, s, m, args, below, meth, c), (D, cl, dA, AA), (K, O, w0), (M.2.1, b.1, Q)) n0 r0 pc A) ∧
    ∀ (pc : Nat) (A B : cSt) (k : Nat), X.2 k A = some B → c_OK ((p, l, e, R, s, m, args, below, meth, c), (D, cl, dA, AA), (K, O, w0), (M.2.1, b.1, Q)) n0 r0 pc B → c_OK ((p, l, e, R, s, m, args, below, meth, c), (D, cl, dA, AA), (K, O, w0), (M.2.1, b.1, Q)) n0 r0 pc A
theorem c_goodX_ok {l : Launch} {D : va_G} {cl : List vw_C} {dA : Nat → ClassId} {AA : Nat → Prop} {bk : String} {K : cTab} {Z : cStat} {P : cPrg} {d : Nat} {O : cCtr} {M : cMth} (ht : c_tabsOk K P cl Z bk) (hM : Z.2.1 (ct_m O) = some M)
    (hX : ∀ (w : cWld) (rr : Nat → Int) (vals : List Value), c_Pre O rr vals w → c_TW K dA w → va_D AA w.2.1 → ∃ (X : cXs) (b : cBody) (fuel : Nat), c_bodyOk cl Z O M b ∧ c_run X K P O b fuel = true ∧ c_Xok l D cl dA AA bk K Z P d O M b X w rr)
    (hG : ∀ d', d' < d → ∀ a, ∀ ct ∈ P.2.1 a, c_Good l D cl dA AA bk K Z d' ct) : c_Good l D cl dA AA bk K Z d O := by
  obtain ⟨hJ, hJ2, hrw, hac, hlib, hcl, hgd, hmO, hlk, hnw⟩ := ht
  intro M' hM' w rr vals hpre hdep hT hD
  have hMM : M' = M := Option.some.inj (hM'.symm.trans hM)
  subst hMM
  obtain ⟨X, b, fuel, hbo, hrun, hXok⟩ := hX w rr vals hpre hT hD
  obtain ⟨hpl, hnL, hown, hdec, hret, hann⟩ := hbo
  unfold c_run at hrun
  rw [Bool.and_eq_true, Bool.and_eq_true, Bool.and_eq_true] at hrun
  obtain ⟨⟨⟨hsl, hdw⟩, hck⟩, hgo⟩ := hrun
  refine Met.ofW (cc := M'.2.1) (maxL := M'.2.2.1) (ret := M'.2.2.2.1) hpl rfl ?_
  intro p e s m args below meth c s₁ B hml hP
  obtain ⟨rfl, hPP, hK, hN, hAA⟩ := hP
  have hts : ∀ x ∈ Z.2.2.1, x.before vals.toArray s = true := fun x hx => atoms_spec (ws := c_ws Z M') B.pre x (List.mem_cons_of_mem _ hx)
  have hownS : s.vm.findClass (Z.1 b.2.1) = some m.cls := by rw [hown]; exact findClass_of_methodNamed B.named
  have hnm : meth.name = M'.1.name := (name_of_methodNamed B.named B.method).1
  split at hgo
  · rename_i A hA
    obtain ⟨s1, s2, s3⟩ := c_entry_ok hT hD hpre hA
    have hlen := c_slots_ok _ _ _ hpre.1
    have hsl := Nat.le_of_ble_eq_true hsl
    rw [lg_entry_eq]
    have hX2 := fun n0 r0 hn hag => hXok (p := p) (e := e) (R := (headSpec (c_ws Z M') (c_rm d O)).room) (s := s) (m := m) (args := vals.toArray) (below := below) (meth := meth) (c := c) (Q := MQ below (c_Qc D cl dA AA K O rr w) vals.toArray s (ct_mc O) (ct_ms O) AA) B.exec B.bytes (hml.trans hnL.symm) hownS hts hK hN hAA rfl n0 r0 hn hag
    have key := c_whole_ok (p := p) (l := l) (e := e) (R := (headSpec (c_ws Z M') (c_rm d O)).room) (s := s) (m := m) (args := vals.toArray) (below := below) (meth := meth) (c := c) (D := D) (cl := cl) (dA := dA) (AA := AA) (K := K) (O := O) (w0 := w) (cc := M'.2.1) (nL := b.1) (Q := MQ below (c_Qc D cl dA AA K O rr w) vals.toArray s (ct_mc O) (ct_ms O) AA) (rr := rr) (P := P) (b := b) (fuel := fuel)
      (X := X) (fun n0 r0 hn hag pc A x L hf hst hL => by
        obtain ⟨q, q1, q2⟩ := c_find_ok hf
        have hd := hdec q q1 (pc, x) q2
        unfold c_stp at hst
        split at hst
        · rename_i k hk
          exact (hX2 n0 r0 hn hag).1 pc k A x L hk hf hd hst hL
        · refine c_step_ok (Z := Z) (bk := bk) (P := P) (rr := rr) (ins := x.1) (len := x.2) (Nat.lt_of_lt_of_le (by unfold c_entryN; omega) hn) hn hag (by rw [B.returns]; exact hret) B.notSynchronized rfl (fun ⟨ci, hci⟩ => hnm.trans (hann ci hci).1) (fun ci C T N hci hC => ((hann ci hci).2 C T N hC).trans hown.symm) hJ hJ2 hac hac.2.2 hlib hcl ⟨Nat.le_refl _, Nat.le_refl _⟩ B.exec B.bytes (hml.trans hnL.symm) hownS hts hK hN hnw hAA hgd hmO hlk (fun r hr => ?_) ⟨Nat.le_refl _, Nat.le_refl _, Nat.le_refl _⟩ (fun d' hd' => hG d' hd') hst hd hL
          rw [c_wfL_ok hdw (fun i hi => (hr i (Nat.lt_of_lt_of_le hi hn)).trans (hag i hi))]
          exact hdep) (fun n0 r0 hn hag pc A B k => (hX2 n0 r0 hn hag).2 pc A B k) hJ2 hrw (List.all_eq_true.mp hck) hgo
    exact key (lv_args 0 vals) [] w 0 0 s2 s3 hT (c_ext_rf _ _ _) s1 s.heap [] _ hPP hD va_S.rf (by rw [hnL]; exact lv_entry vals (by omega))
  · cases hgo
