/-! bodies, by one boolean each -/
def k_retB (k : Nat) (ret : Option FieldType) : Bool := match k with
  | 0 => decide (ret = none)
  | 1 => decide (ret = some .int)
  | 2 => decide (ret = some .long)
  | _ => decide (ret = some .boolean)
theorem k_retB_ok {k : Nat} {ret : Option FieldType} (h : k_retB k ret = true) : c_retT1 k ret := by
  match k, h with
  | 0, h => exact (of_decide_eq_true h : ret = none)
  | 1, h => exact (of_decide_eq_true h : ret = some .int)
  | 2, h => exact (of_decide_eq_true h : ret = some .long)
  | n + 3, h => exact (of_decide_eq_true h : ret = some .boolean)
def k_iniB (M : cMth) (b : cBody) : Bool := match c_annOf 0 3 b.2.2.1 with
  | none => true
  | some ci => decide (M.1.name = "<init>") && (match k_cl[ci]? with
    | some q => decide (q.1 = M.1.cls)
    | none => true)
def k_bodyB (M : cMth) (O : cCtr) (b : cBody) : Bool := plainName M.1.cls && Nat.beq b.1 M.2.2.1 && decide (k_nm b.2.1 = M.1.cls) && k_decB M.2.1 b.2.2.2.1 && k_retB (ct_ret O) M.2.2.2.1 && k_iniB M b
theorem k_bodyB_ok {M : cMth} {O : cCtr} {b : cBody} (h : k_bodyB M O b = true) : c_bodyOk k_cl k_Z O M b := by
  unfold k_bodyB at h
  rw [Bool.and_eq_true, Bool.and_eq_true, Bool.and_eq_true, Bool.and_eq_true, Bool.and_eq_true] at h
  obtain ⟨⟨⟨⟨⟨h1, h2⟩, h3⟩, h4⟩, h5⟩, h6⟩ := h
  refine ⟨h1, Nat.eq_of_beq_eq_true h2, of_decide_eq_true h3, k_decB_ok h4, k_retB_ok h5, fun ci hci => ?_⟩
  unfold k_iniB at h6
  rw [hci] at h6
  dsimp only at h6
  rw [Bool.and_eq_true] at h6
  refine ⟨of_decide_eq_true h6.1, fun C T N hC => ?_⟩
  have h7 := h6.2
  rw [hC] at h7
  exact of_decide_eq_true h7
/-- which instructions are by hand -/
def k_anB (l : cAnn) (ks : List (Nat × Nat)) : Bool := l.all (fun q => !(Nat.beq q.2.1 9) || ks.any (fun z => Nat.beq z.1 q.1 && Nat.beq z.2 q.2.2))
theorem k_anB_ok {l : cAnn} {ks : List (Nat × Nat)} (h : k_anB l ks = true) {pc k : Nat} (hk : c_annOf pc 9 l = some k) : (pc, k) ∈ ks := by
  have h1 := List.all_eq_true.mp h _ (c_annOf_mem hk)
  rw [Bool.or_eq_true] at h1
  rcases h1 with h1 | h1
  · have h1 : (!(Nat.beq 9 9)) = true := h1
    exact absurd h1 (by decide)
  · obtain ⟨z, z1, z2⟩ := List.any_eq_true.mp h1
    rw [Bool.and_eq_true] at z2
    have e1 := Nat.eq_of_beq_eq_true z2.1
    have e2 := Nat.eq_of_beq_eq_true z2.2
    have : z = (pc, k) := Prod.ext e1 e2
    rw [← this]
    exact z1
/-! the same for a class of which some methods are natives, this one not -/
theorem k_ofWF {l : Launch} {y : MethodName} {ws ws' : List Cond} {rm : Room} {Pc : Array Value → State → Prop} {Qc : Array Value → State → Outcome → State → Prop} {mc ms : Nat} {free : Addr → Prop} {cc : ByteArray} {maxL : Nat} {ret : Option FieldType} (hy : plainFor y = true) (hw : ws = Cond.code y cc maxL ret :: ws')
    (body : ∀ p e s m args below meth c s₁, BodyLoose p l y (headSpec ws rm) cc maxL ret e s m args below meth c s₁ → c.maxLocals = maxL → Pc args s → W p l e (headSpec ws rm).room s m args below meth c s.heap [] 0 0 (MQ below Qc args s mc ms free) (entryFrame m args maxL)) : Met l y ws rm Pc Qc mc ms free := by
  refine MetFree.of_bodySF (code := cc) (maxLocals := maxL) (ret := ret) hy ?_ ?_
  · intro args s m h hn
    obtain ⟨meth, c, h1, h2, h3, h4, h5, h6, -, -⟩ := Cond.code_spec hn (atoms_spec (ws := ws) h _ (by rw [hw]; exact List.mem_cons_self))
    exact ⟨meth, c, h1, h2, h3, h4, h5, h6⟩
  · intro p e s m args below meth c s₁ B hml hP _
    have hh0 : s₁.heap = s.heap := by rw [B.state]; rfl
    obtain ⟨t, a1, o, b1, b2, b3⟩ := body p e s m args below meth c s₁ B hml hP s₁ hh0 (Stand.of_body B)
    exact ⟨t, o, a1, b1, b2, ⟨b3.1, b3.2⟩⟩
def k_bodyF (cl : List vw_C) (Z : cStat) (O : cCtr) (M : cMth) (b : cBody) : Prop := b.1 = M.2.2.1 ∧ Z.1 b.2.1 = M.1.cls ∧ (∀ q ∈ b.2.2.2.1, ∀ x ∈ q.2, decode M.2.1 x.1 = .ok x.2) ∧ c_retT1 (ct_ret O) M.2.2.2.1 ∧
  (∀ ci, c_annOf 0 3 b.2.2.1 = some ci → M.1.name = "<init>" ∧ ∀ (C : String) (T : u_T) (N : Nat), cl[ci]? = some (C, T, N) → C = M.1.cls)
def k_bodyFB (M : cMth) (O : cCtr) (b : cBody) : Bool := Nat.beq b.1 M.2.2.1 && decide (k_nm b.2.1 = M.1.cls) && k_decB M.2.1 b.2.2.2.1 && k_retB (ct_ret O) M.2.2.2.1 && k_iniB M b
theorem k_bodyFB_ok {M : cMth} {O : cCtr} {b : cBody} (h : k_bodyFB M O b = true) : k_bodyF k_cl k_Z O M b := by
  unfold k_bodyFB at h
  rw [Bool.and_eq_true, Bool.and_eq_true, Bool.and_eq_true, Bool.and_eq_true] at h
  obtain ⟨⟨⟨⟨h2, h3⟩, h4⟩, h5⟩, h6⟩ := h
  refine ⟨Nat.eq_of_beq_eq_true h2, of_decide_eq_true h3, k_decB_ok h4, k_retB_ok h5, fun ci hci => ?_⟩
  unfold k_iniB at h6
  rw [hci] at h6
  dsimp only at h6
  rw [Bool.and_eq_true] at h6
  refine ⟨of_decide_eq_true h6.1, fun C T N hC => ?_⟩
  have h7 := h6.2
  rw [hC] at h7
  exact of_decide_eq_true h7
theorem k_goodF_ok {l : Launch} {D : va_G} {cl : List vw_C} {dA : Nat → ClassId} {AA : Nat → Prop} {bk : String} {K : cTab} {Z : cStat} {P : cPrg} {d fuel : Nat} {O : cCtr} {M : cMth} {b : cBody} (ht : c_tabsOk K P cl Z bk) (hM : Z.2.1 (ct_m O) = some M) (hpl : plainFor M.1 = true) (hbo : k_bodyF cl Z O M b) (hrun : c_run c_X0 K P O b fuel = true)
    (hG : ∀ d', d' < d → ∀ a, ∀ ct ∈ P.2.1 a, c_Good l D cl dA AA bk K Z d' ct) : c_Good l D cl dA AA bk K Z d O := by
  obtain ⟨hJ, hJ2, hrw, hac, hlib, hcl, hgd, hmO, hlk, hnw⟩ := ht
  obtain ⟨hnL, hown, hdec, hret, hann⟩ := hbo
  unfold c_run at hrun
  rw [Bool.and_eq_true, Bool.and_eq_true, Bool.and_eq_true] at hrun
  obtain ⟨⟨⟨hsl, hdw⟩, hck⟩, hgo⟩ := hrun
  intro M' hM' w rr vals hpre hdep hT hD
  have hMM : M' = M := Option.some.inj (hM'.symm.trans hM)
  subst hMM
  refine k_ofWF (cc := M'.2.1) (maxL := M'.2.2.1) (ret := M'.2.2.2.1) hpl rfl ?_
  intro p e s m args below meth c s₁ B hml hP
  obtain ⟨rfl, hPP, hK, hN, hAA⟩ := hP
  have hts : ∀ x ∈ Z.2.2.1, x.before vals.toArray s = true := fun x hx => atoms_spec (ws := c_ws Z M') B.pre x (List.mem_cons_of_mem _ hx)
  have hownS : s.vm.findClass (Z.1 b.2.1) = some m.cls := by rw [hown]; exact findClass_of_methodNamed B.named
  have hnm : meth.name = M'.1.name := (name_of_methodNamed B.named B.method).1
  split at hgo
  · rename_i A hA
    obtain ⟨s1, s2, s3⟩ := c_entry_ok hT hD hpre hA
    have hlen := c_slots_ok _ _ _ hpre.1
    have hsl := Nat.le_of_ble_eq_true hsl
    rw [lg_entry_eq]
    have key := c_whole_ok (p := p) (l := l) (e := e) (R := (headSpec (c_ws Z M') (c_rm d O)).room) (s := s) (m := m) (args := vals.toArray) (below := below) (meth := meth) (c := c) (D := D) (cl := cl) (dA := dA) (AA := AA) (K := K) (O := O) (w0 := w) (cc := M'.2.1) (nL := b.1) (Q := MQ below (c_Qc D cl dA AA K O rr w) vals.toArray s (ct_mc O) (ct_ms O) AA) (rr := rr) (P := P) (b := b) (fuel := fuel)
      (X := c_X0) (fun n0 r0 hn hag pc A x L hf hst hL => by
        obtain ⟨q, q1, q2⟩ := c_find_ok hf
        have hst : c_step K P O b.1 b.2.1 b.2.2.1 A pc x.2 x.1 = some L := by
          unfold c_stp at hst
          split at hst
          · cases hst
          · exact hst
        refine c_step_ok (Z := Z) (bk := bk) (P := P) (rr := rr) (ins := x.1) (len := x.2) (Nat.lt_of_lt_of_le (by unfold c_entryN; omega) hn) hn hag (by rw [B.returns]; exact hret) B.notSynchronized rfl (fun ⟨ci, hci⟩ => hnm.trans (hann ci hci).1) (fun ci C T N hci hC => ((hann ci hci).2 C T N hC).trans hown.symm) hJ hJ2 hac hac.2.2 hlib hcl ⟨Nat.le_refl _, Nat.le_refl _⟩ B.exec B.bytes (hml.trans hnL.symm) hownS hts hK hN hnw hAA hgd hmO hlk (fun r hr => ?_) ⟨Nat.le_refl _, Nat.le_refl _, Nat.le_refl _⟩ (fun d' hd' => hG d' hd') hst (hdec q q1 (pc, x) q2) hL
        rw [c_wfL_ok hdw (fun i hi => (hr i (Nat.lt_of_lt_of_le hi hn)).trans (hag i hi))]
        exact hdep) (fun _ _ _ _ _ _ _ _ hh => by cases hh) hJ2 hrw (List.all_eq_true.mp hck) hgo
    exact key (lv_args 0 vals) [] w 0 0 s2 s3 hT (c_ext_rf _ _ _) s1 s.heap [] _ hPP hD va_S.rf (by rw [hnL]; exact lv_entry vals (by omega))
  · cases hgo
