/-! second layer: a contract with something by hand is met -/
def j_X1 (K : cTab) (O : cCtr) (n pc : Nat) (A : cSt) : Option (List (Nat × cSt)) := match n with
  | 1 => j_x1 pc 3 true A
  | 2 => j_x1 pc 4 false A
  | 3 => j_x3 pc A
  | 40 => j_x40 K O pc A
  | 41 => j_cut A 1 300 4294967296 (-2147483648) 2147483647 pc
  | 42 => j_cut A 0 301 256 (-128) 127 pc
  | 43 => j_cut A 0 302 65536 (-32768) 32767 pc
  | 44 => j_x44 K O pc A
  | _ => none
def j_X (K : cTab) (O : cCtr) : cXs := (fun k A => j_X1 K O (k % 100) (k / 100) A, fun _ _ => none)
def j_isI (P : cPrg) (own n : Nat) (x : Option (Jvm.ClassFile.Instr × Nat)) : Bool := match n, x with
  | 1, some (.iload_n i, 1) => Nat.beq i.val 3
  | 2, some (.iload 4, 2) => true
  | 3, some (.iload 8, 2) => true
  | 40, some (.lastore, 1) => true
  | 41, some (.l2i, 1) => true
  | 42, some (.i2b, 1) => true
  | 43, some (.i2s, 1) => true
  | 44, some (.invokestatic i, 3) => (match P.1 own i with
    | some (6, _, _, _) => true
    | _ => false)
  | _, _ => false
def j_annB (P : cPrg) (b : cBody) : Bool := b.2.2.1.all (fun q => !(Nat.beq q.2.1 9) || (Nat.beq (q.2.2 / 100) q.1 && j_isI P b.2.1 (q.2.2 % 100) (c_find q.1 b.2.2.2.1)))
section JG
variable {p : Program} {l : Launch} {e : Env} {R : Room} {s : State} {m : MethodId} {args : Array Value} {below : List Frame} {meth : Method} {c : Code} {D : va_G} {cl : List vw_C} {dA : Nat → ClassId} {AA : Nat → Prop} {K : cTab} {O : cCtr} {w0 : cWld} {cc : ByteArray} {nL : Nat} {Q : State → Prop} {n0 : Nat} {r0 : Nat → Int}
  {P : cPrg} {own : Nat} {A : cSt} {pc : Nat} {L : List (Nat × cSt)} {Z : cStat} {bk : String}
theorem j_X1_ok (hJ : c_Jfr K) (hx : p.tables.exec = Jvm.exec) (hb : c.code = cc) (hml : c.maxLocals = nL) (hown : s.vm.findClass (Z.1 own) = some m.cls) (hts : ∀ w ∈ Z.2.2.1, w.before args s = true) (hK : va_K D cl (c_tys dA bk) s) (hlib : c_libOk Z) (hlk : c_lnkOk P cl Z) (hdep : ∀ r, c_agr n0 r0 r → c_ev r (ct_dep O) ≤ (R.frames : Int)) (hR : 64 * R.frames ≤ R.locals) {n : Nat} {x : Option (Jvm.ClassFile.Instr × Nat)} (hi : j_isI P own n x = true) (hdx : ∀ i, x = some i → decode cc pc = .ok i) (h : j_X1 K O n pc A = some L) (hL : ∀ q ∈ L, c_OK ((p, l, e, R, s, m, args, below, meth, c), (D, cl, dA, AA), (K, O, w0), (cc, nL, Q)) n0 r0 q.1 q.2) : c_OK ((p, l, e, R, s, m, args, below, meth, c), (D, cl, dA, AA), (K, O, w0), (cc, nL, Q)) n0 r0 pc A := by
  unfold j_isI at hi
  split at hi
  · rename_i i
    have h : j_x1 pc 3 true A = some L := h
    have h3 := Nat.eq_of_beq_eq_true hi
    refine j_x1_ok hx hb (Or.inl ⟨rfl, by decide, ?_⟩) h hL
    have := hdx _ rfl
    have he : i = (⟨3, by decide⟩ : Fin 4) := Fin.ext h3
    rw [he] at this
    exact this
  · have h : j_x1 pc 4 false A = some L := h
    exact j_x1_ok hx hb (Or.inr ⟨rfl, hdx _ rfl⟩) h hL
  · exact j_x3_ok hx hb (hdx _ rfl) h hL
  · exact j_x40_ok hJ hx hb hK (hdx _ rfl) h hL
  · exact j_x41_ok hx hb (hdx _ rfl) h hL
  · exact j_x42_ok hx hb (hdx _ rfl) h hL
  · exact j_x43_ok hx hb (hdx _ rfl) h hL
  · split at hi
    · rename_i hP
      exact j_x44_ok hJ hx hb hml hown hts hK hlib (hlk _ _ _ _ _ _ hP) hdep hR h (hdx _ rfl) hL
    · cases hi
  · cases hi
end JG
theorem j_goodX {l : Launch} {D : va_G} {cl : List vw_C} {dA : Nat → ClassId} {AA : Nat → Prop} {bk : String} {K : cTab} {Z : cStat} {P : cPrg} {d fuel : Nat} {O : cCtr} {M : cMth} {b : cBody} (ht : c_tabsOk K P cl Z bk) (hM : Z.2.1 (ct_m O) = some M) (hbo : c_bodyOk cl Z O M b) (hrun : c_run (j_X K O) K P O b fuel = true) (han : j_annB P b = true)
    (hG : ∀ d', d' < d → ∀ a, ∀ ct ∈ P.2.1 a, c_Good l D cl dA AA bk K Z d' ct) : c_Good l D cl dA AA bk K Z d O := by
  obtain ⟨hJ, hJ2, hrw, hac, hlib, hcl, hgd, hmO, hlk, hnw⟩ := ht
  obtain ⟨hpl, hnL, hown, hdec, hret, hann⟩ := hbo
  unfold c_run at hrun
  rw [Bool.and_eq_true, Bool.and_eq_true, Bool.and_eq_true] at hrun
  obtain ⟨⟨⟨hsl, hdw⟩, hck⟩, hgo⟩ := hrun
  intro M' hM' w rr vals hpre hdep hT hD
  have hMM : M' = M := Option.some.inj (hM'.symm.trans hM)
  subst hMM
  refine Met.ofW (cc := M'.2.1) (maxL := M'.2.2.1) (ret := M'.2.2.2.1) hpl rfl ?_
  intro p e s m args below meth c s₁ B hml hP
  obtain ⟨rfl, hPP, hK, hN, hAA⟩ := hP
  have hts : ∀ x ∈ Z.2.2.1, x.before vals.toArray s = true := fun x hx => atoms_spec (ws := c_ws Z M') B.pre x (List.mem_cons_of_mem _ hx)
  have hownS : s.vm.findClass (Z.1 b.2.1) = some m.cls := by rw [hown]; exact findClass_of_methodNamed B.named
  have hnm : meth.name = M'.1.name := (name_of_methodNamed B.named B.method).1
  split at hgo
  · rename_i A hA
    obtain ⟨s1, s2, s3⟩ := c_entry_ok hT hD hpre hA
    have hlen := c_slots_ok _ _ _ hpre.1
    have hsl := Nat.le_of_ble_eq_true hsl
    rw [lg_entry_eq]
    have key := c_whole_ok (p := p) (l := l) (e := e) (R := (headSpec (c_ws Z M') (c_rm d O)).room) (s := s) (m := m) (args := vals.toArray) (below := below) (meth := meth) (c := c) (D := D) (cl := cl) (dA := dA) (AA := AA) (K := K) (O := O) (w0 := w) (cc := M'.2.1) (nL := b.1) (Q := MQ below (c_Qc D cl dA AA K O rr w) vals.toArray s (ct_mc O) (ct_ms O) AA) (rr := rr) (P := P) (b := b) (fuel := fuel)
      (X := j_X K O) (fun n0 r0 hn hag pc A x L hf hst hL => by
        obtain ⟨q, q1, q2⟩ := c_find_ok hf
        have hd := hdec q q1 (pc, x) q2
        have hdp : ∀ r, c_agr n0 r0 r → c_ev r (ct_dep O) ≤ (d : Int) := fun r hr => by
          rw [c_wfL_ok hdw (fun i hi => (hr i (Nat.lt_of_lt_of_le hi hn)).trans (hag i hi))]
          exact hdep
        unfold c_stp at hst
        split at hst
        · rename_i k hk
          have h1 := List.all_eq_true.mp han _ (c_annOf_mem hk)
          rw [Bool.or_eq_true, Bool.and_eq_true] at h1
          rcases h1 with h1 | ⟨h1, h2⟩
          · have h1 : (!(Nat.beq 9 9)) = true := h1
            exact absurd h1 (by decide)
          · have hpc := Nat.eq_of_beq_eq_true h1
            have hX : j_X1 K O (k % 100) (k / 100) A = some L := hst
            rw [show k / 100 = pc from hpc] at hX
            dsimp only at h2
            rw [hf] at h2
            exact j_X1_ok (Z := Z) (bk := bk) (P := P) (own := b.2.1) hJ B.exec B.bytes (hml.trans hnL.symm) hownS hts hK hlib hlk hdp (Nat.le_refl _) h2 (fun i hi => by cases hi; exact hd) hX hL
        · exact c_step_ok (Z := Z) (bk := bk) (P := P) (rr := rr) (ins := x.1) (len := x.2) (Nat.lt_of_lt_of_le (by unfold c_entryN; omega) hn) hn hag (by rw [B.returns]; exact hret) B.notSynchronized rfl (fun ⟨ci, hci⟩ => hnm.trans (hann ci hci).1) (fun ci C T N hci hC => ((hann ci hci).2 C T N hC).trans hown.symm) hJ hJ2 hac hac.2.2 hlib hcl ⟨Nat.le_refl _, Nat.le_refl _⟩ B.exec B.bytes (hml.trans hnL.symm) hownS hts hK hN hnw hAA hgd hmO hlk hdp ⟨Nat.le_refl _, Nat.le_refl _, Nat.le_refl _⟩ (fun d' hd' => hG d' hd') hst hd hL) (fun _ _ _ _ _ _ _ _ hh => by cases hh) hJ2 hrw (List.all_eq_true.mp hck) hgo
    exact key (lv_args 0 vals) [] w 0 0 s2 s3 hT (c_ext_rf _ _ _) s1 s.heap [] _ hPP hD va_S.rf (by rw [hnL]; exact lv_entry vals (by omega))
  · cases hgo
