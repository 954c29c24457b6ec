/-! a contract that the checker accepts is met -/
def c_slots : List (Nat × Nat × Int × Int) → Nat
  | [] => 0
  | x :: l => (if Nat.beq x.1 1 then 2 else 1) + c_slots l
theorem c_slots_ok {w : cWld} {r : Nat → Int} : ∀ (l : List (Nat × Nat × Int × Int)) (vals : List Value) (i : Nat), c_argsR w r i l vals → (lg_sl vals).length = c_slots l
  | [], [], _, _ => rfl
  | x :: l, v :: vals, i, h => by
    have ih := c_slots_ok l vals (i + 1) h.2
    have h1 := h.1
    have e : (lg_sl (v :: vals)).length = (if v.category = 2 then 2 else 1) + (lg_sl vals).length := by
      unfold lg_sl
      rw [List.flatMap_cons, List.length_append]
      congr 1
      split <;> rfl
    rw [e, ih]
    show _ = (if Nat.beq x.1 1 then 2 else 1) + c_slots l
    congr 1
    unfold c_argR at h1
    split at h1
    · rename_i hk
      obtain ⟨y, rfl, -⟩ := h1
      rw [hk]; rfl
    · rename_i hk
      obtain ⟨y, rfl, -⟩ := h1
      rw [hk]; rfl
    · rename_i hk0 hk1
      obtain ⟨a, rfl, -⟩ := h1
      have : ¬ Nat.beq x.1 1 = true := fun q => hk1 (Nat.eq_of_beq_eq_true q)
      rw [if_neg this]; rfl
  | [], _ :: _, _, h => h.elim
  | _ :: _, [], _, h => h.elim
/-- a method's body, as the tables give it -/
def c_bodyOk (cl : List vw_C) (Z : cStat) (O : cCtr) (M : cMth) (b : cBody) : Prop := plainName M.1.cls = true ∧ b.1 = M.2.2.1 ∧ Z.1 b.2.1 = M.1.cls ∧ (∀ q ∈ b.2.2.2.1, ∀ x ∈ q.2, decode M.2.1 x.1 = .ok x.2) ∧ c_retT1 (ct_ret O) M.2.2.2.1 ∧
  (∀ ci, c_annOf 0 3 b.2.2.1 = some ci → M.1.name = "<init>" ∧ ∀ (C : String) (T : u_T) (N : Nat), cl[ci]? = some (C, T, N) → C = M.1.cls)
/-- nothing by hand -/
def c_X0 : cXs := (fun _ _ => none, fun _ _ => none)
/-- the checker's own run of one contract -/
def c_run (X : cXs) (K : cTab) (P : cPrg) (O : cCtr) (b : cBody) (fuel : Nat) : Bool := Nat.ble (c_slots (ct_args O)) b.1 && c_wfL (c_entryN O) (ct_dep O) && b.2.2.2.2.all (c_cutOk X K P O b fuel) && (match c_entry K O with
  | some A => c_go X K P O b none fuel false [(0, A)]
  | none => false)
/-- what the claim's tables must be -/
def c_tabsOk (K : cTab) (P : cPrg) (cl : List vw_C) (Z : cStat) (bk : String) : Prop := c_Jfr K ∧ c_Jnw K ∧ c_noRaw K ∧ c_acOk cl Z bk ∧ c_libOk Z ∧ c_clsOk P cl Z.2.2.1 ∧ GoodIn Z.2.2.1 Z.2.2.1 ∧ c_mOk K P cl Z ∧ c_lnkOk P cl Z ∧ ∀ x ∈ Z.2.2.2.1, ∃ (a : String) (i : Nat) (y : MethodName) (h : String), x = .methodLinkNest a i y h
theorem c_good_ok {l : Launch} {D : va_G} {cl : List vw_C} {dA : Nat → ClassId} {AA : Nat → Prop} {bk : String} {K : cTab} {Z : cStat} {P : cPrg} {d fuel : Nat} {O : cCtr} {M : cMth} {b : cBody} (ht : c_tabsOk K P cl Z bk) (hM : Z.2.1 (ct_m O) = some M) (hbo : c_bodyOk cl Z O M b) (hrun : c_run c_X0 K P O b fuel = true)
    (hG : ∀ d', d' < d → ∀ a, ∀ ct ∈ P.2.1 a, c_Good l D cl dA AA bk K Z d' ct) : c_Good l D cl dA AA bk K Z d O := by
  obtain ⟨hJ, hJ2, hrw, hac, hlib, hcl, hgd, hmO, hlk, hnw⟩ := ht
  obtain ⟨hpl, hnL, hown, hdec, hret, hann⟩ := hbo
  unfold c_run at hrun
  rw [Bool.and_eq_true, Bool.and_eq_true, Bool.and_eq_true] at hrun
  obtain ⟨⟨⟨hsl, hdw⟩, hck⟩, hgo⟩ := hrun
  intro M' hM' w rr vals hpre hdep hT hD
  have hMM : M' = M := Option.some.inj (hM'.symm.trans hM)
  subst hMM
  refine Met.ofW (cc := M'.2.1) (maxL := M'.2.2.1) (ret := M'.2.2.2.1) hpl rfl ?_
  intro p e s m args below meth c s₁ B hml hP
  obtain ⟨rfl, hPP, hK, hN, hAA⟩ := hP
  have hts : ∀ x ∈ Z.2.2.1, x.before vals.toArray s = true := fun x hx => atoms_spec (ws := c_ws Z M') B.pre x (List.mem_cons_of_mem _ hx)
  have hownS : s.vm.findClass (Z.1 b.2.1) = some m.cls := by rw [hown]; exact findClass_of_methodNamed B.named
  have hnm : meth.name = M'.1.name := (name_of_methodNamed B.named B.method).1
  split at hgo
  · rename_i A hA
    obtain ⟨s1, s2, s3⟩ := c_entry_ok hT hD hpre hA
    have hlen := c_slots_ok _ _ _ hpre.1
    have hsl := Nat.le_of_ble_eq_true hsl
    rw [lg_entry_eq]
    have key := c_whole_ok (p := p) (l := l) (e := e) (R := (headSpec (c_ws Z M') (c_rm d O)).room) (s := s) (m := m) (args := vals.toArray) (below := below) (meth := meth) (c := c) (D := D) (cl := cl) (dA := dA) (AA := AA) (K := K) (O := O) (w0 := w) (cc := M'.2.1) (nL := b.1) (Q := MQ below (c_Qc D cl dA AA K O rr w) vals.toArray s (ct_mc O) (ct_ms O) AA) (rr := rr) (P := P) (b := b) (fuel := fuel)
      (X := c_X0) (fun n0 r0 hn hag pc A x L hf hst hL => by
        obtain ⟨q, q1, q2⟩ := c_find_ok hf
        have hst : c_step K P O b.1 b.2.1 b.2.2.1 A pc x.2 x.1 = some L := by
          unfold c_stp at hst
          split at hst
          · cases hst
          · exact hst
        refine c_step_ok (Z := Z) (bk := bk) (P := P) (rr := rr) (ins := x.1) (len := x.2) (Nat.lt_of_lt_of_le (by unfold c_entryN; omega) hn) hn hag (by rw [B.returns]; exact hret) B.notSynchronized rfl (fun ⟨ci, hci⟩ => hnm.trans (hann ci hci).1) (fun ci C T N hci hC => ((hann ci hci).2 C T N hC).trans hown.symm) hJ hJ2 hac hac.2.2 hlib hcl ⟨Nat.le_refl _, Nat.le_refl _⟩ B.exec B.bytes (hml.trans hnL.symm) hownS hts hK hN hnw hAA hgd hmO hlk (fun r hr => ?_) ⟨Nat.le_refl _, Nat.le_refl _, Nat.le_refl _⟩ (fun d' hd' => hG d' hd') hst (hdec q q1 (pc, x) q2) hL
        rw [c_wfL_ok hdw (fun i hi => (hr i (Nat.lt_of_lt_of_le hi hn)).trans (hag i hi))]
        exact hdep) (fun _ _ _ _ _ _ _ _ hh => by cases hh) hJ2 hrw (List.all_eq_true.mp hck) hgo
    exact key (lv_args 0 vals) [] w 0 0 s2 s3 hT (c_ext_rf _ _ _) s1 s.heap [] _ hPP hD va_S.rf (by rw [hnL]; exact lv_entry vals (by omega))
  · cases hgo
/-- all contracts at once: by the depth -/
theorem c_all_ok {l : Launch} {D : va_G} {cl : List vw_C} {dA : Nat → ClassId} {AA : Nat → Prop} {bk : String} {K : cTab} {Z : cStat} {P : cPrg} (hall : ∀ (d : Nat), (∀ d', d' < d → ∀ a, ∀ ct ∈ P.2.1 a, c_Good l D cl dA AA bk K Z d' ct) → ∀ a, ∀ ct ∈ P.2.1 a, c_Good l D cl dA AA bk K Z d ct) : ∀ (d : Nat) (a : Nat), ∀ ct ∈ P.2.1 a, c_Good l D cl dA AA bk K Z d ct := by
  intro d
  induction d using Nat.strongRecOn with
  | _ d ih => exact hall d ih
