/-! the library's own methods on the class's string constants -/
def k_SB (adK adV : Nat → Nat) (fm : Nat) (AA : Nat → Prop) (U : State) : Prop := vk_S 3 k_sl k_sb adK adV AA U U.heap ∧ va_Z "java/lang/String" "COMPACT_STRINGS" "Z" (.int 1) AA U U.heap ∧ va_Zq "jdk/internal/util/Preconditions" "SIOOBE_FORMATTER" "Ljava/util/function/BiFunction;" AA U U.heap
def k_Sq (P : Option Value → Prop) : Array Value → State → Outcome → State → Prop := fun _ st oc t => (∃ v : Option Value, oc = .returned v ∧ P v) ∧ t.heap = st.heap
def k_rm (d : Nat) : Room := { frames := d, cells := 0, slots := 0, locals := 64 * d }
theorem k_SB_same {adK adV : Nat → Nat} {fm : Nat} {AA : Nat → Prop} {u U : State} (hh : U.heap = u.heap) (hal : u.vm.Alike U.vm) (h : k_SB adK adV fm AA u) : k_SB adK adV fm AA U := by
  obtain ⟨h1, h2, h3⟩ := h
  refine ⟨?_, ?_, ?_⟩
  · rw [hh]; exact h1.moved hal
  · rw [hh]; exact h2.moved hal
  · rw [hh]; exact h3.moved hal
theorem k_SB_at {adK adV : Nat → Nat} {fm : Nat} {AA : Nat → Prop} {s U : State} {H : Heap} {locs : List Loc} (hU : U.heap = H) (hW : s.WarmedH U.vm) (hS : va_S AA s.heap H locs) (h : k_SB adK adV fm AA s) : k_SB adK adV fm AA U := by
  obtain ⟨h1, h2, h3⟩ := h
  refine ⟨?_, ?_, ?_⟩
  · rw [hU]; exact (h1.moved hW.alike).kept hS.2.1
  · rw [hU]; exact (h2.moved hW.alike).kept hS.2.1
  · rw [hU]; exact (h3.moved hW.alike).kept hS.2.1
theorem k_SB_blind {adK adV : Nat → Nat} {fm : Nat} {AA : Nat → Prop} {vals : List Value} : FrameBlind (va_Pc vals (k_SB adK adV fm AA)) := fun _ U _ _ q => ⟨q.1, k_SB_same (u := U) rfl (Vm.Alike.refl _) q.2⟩
theorem k_tr_blind {vals : List Value} : FrameBlind (va_Pc vals (fun _ => True)) := fun _ _ _ _ q => ⟨q.1, trivial⟩
section KQ
variable {p : Program} {l : Launch} {e : Env} {R : Room} {s : State} {m : MethodId} {args : Array Value} {below : List Frame} {meth : Method} {c : Code} {Q : State → Prop}
theorem k_callQ {H : Heap} {locs : List Loc} {cells slots pc : Nat} {ls : Array Slot} {st0 rest : List Value} {va : Array Value} {P : Option Value → Prop} (hr : va_Run p l e R s m args below meth c H locs cells slots 0 0 (F0 m pc ls st0) rest (k_Sq P va) (fun _ => False))
    (kk : ∀ v : Option Value, P v → W p l e R s m args below meth c H locs cells slots Q (F0 m (pc + 3) ls (v.toList ++ rest))) : W p l e R s m args below meth c H locs cells slots Q (F0 m pc ls st0) := by
  intro T hT X
  obtain ⟨v, st₀, t, T', L, h0, X', hL, e1, e2, ⟨⟨v', hv, hp⟩, hz⟩, st⟩ := hr T hT X
  cases hv
  have hLn : L = [] := by
    cases L with
    | nil => rfl
    | cons q L => exact (hL q List.mem_cons_self).elim
  subst hLn
  rw [List.append_nil] at X'
  obtain ⟨t2, a1, b1⟩ := kk v hp T' (e1.trans (hz.trans h0)) X'
  exact ⟨t2, st t2 a1, b1⟩
end KQ
theorem k_mk {a : Nat} {M : cMth} (h : k_Z.2.1 a = some M) : k_mo a M := by
  have h := k_allF_ok (k_mtb_ok (a / 20)) (show (k_mtb (a / 20))[a % 20]? = some M from h)
  rw [Nat.div_add_mod] at h
  exact h
theorem k_dpc0 : decode k_M375.2.1 0 = .ok (.iload_n 0, 1) := by decide +kernel
theorem k_dpc1 : decode k_M375.2.1 1 = .ok (.ifCond .lt 8, 3) := by decide +kernel
theorem k_dpc4 : decode k_M375.2.1 4 = .ok (.iload_n 0, 1) := by decide +kernel
theorem k_dpc5 : decode k_M375.2.1 5 = .ok (.iload_n 1, 1) := by decide +kernel
theorem k_dpc6 : decode k_M375.2.1 6 = .ok (.if_icmp .lt 10, 3) := by decide +kernel
theorem k_dpc16 : decode k_M375.2.1 16 = .ok (.iload_n 0, 1) := by decide +kernel
theorem k_dpc17 : decode k_M375.2.1 17 = .ok (.ireturn, 1) := by decide +kernel
theorem k_mPre {l : Launch} {i n : Int32} {fm : Nat} (h0 : ¬ i < 0) (h1 : i < n) (d : Nat) : Met l k_M375.1 (c_ws k_Z k_M375) (k_rm d) (va_Pc [.int i, .int n, .ref fm] (fun _ => True)) (k_Sq (fun v => v = some (.int i))) 0 0 (fun _ => False) := by
  refine Met.ofW (cc := k_M375.2.1) (maxL := 3) (ret := k_M375.2.2.2.1) (by decide) rfl ?_
  intro p e s m args below meth c s₁ B hml hv
  obtain ⟨rfl, hv⟩ := hv
  have hx := B.exec
  have hb := B.bytes
  have hr := B.returns
  have hlocks := B.notSynchronized
  have hts : ∀ x ∈ k_ws, x.before _ s = true := fun x hx => atoms_spec (ws := c_ws k_Z k_M375) B.pre x (List.mem_cons_of_mem _ hx)
  have hown : s.vm.findClass "jdk/internal/util/Preconditions" = some m.cls := findClass_of_methodNamed B.named
  have hl := lv_entry ([.int i, .int n, .ref fm]) (n := 3) (Nat.le_of_ble_eq_true rfl)
  rw [lg_entry_eq]
  generalize (lg_sl ([.int i, .int n, .ref fm]) ++ List.replicate (3 - (lg_sl ([.int i, .int n, .ref fm])).length) Slot.unset).toArray = ls at hl ⊢
  have hl : lv_has ls 3 [(0, .int i), (1, .int n), (2, .ref fm)] := hl
  refine lv_iload_n hx hb k_dpc0 rfl (lv_at hl 0 rfl) ?_
  refine lv_if_lt hx hb k_dpc1 (tgt := 9) (by decide) (fun h => absurd h h0) (fun _ => ?_)
  refine lv_iload_n hx hb k_dpc4 rfl (lv_at hl 0 rfl) ?_
  refine lv_iload_n hx hb k_dpc5 rfl (lv_at hl 1 rfl) ?_
  refine lv_icmp_lt hx hb k_dpc6 (tgt := 16) (by decide) (fun _ => ?_) (fun h => absurd h1 h)
  refine lv_iload_n hx hb k_dpc16 rfl (lv_at hl 0 rfl) ?_
  exact W.iret hx hb hr (fun t ht hW => ⟨⟨_, rfl, rfl⟩, ht⟩) (fun q hq => by cases hq) k_dpc17 hlocks
theorem k_mPreN {l : Launch} {i n : Int32} (h0 : ¬ i < 0) (h1 : i < n) (d : Nat) : Met l k_M375.1 (c_ws k_Z k_M375) (k_rm d) (va_Pc [.int i, .int n, .null] (fun _ => True)) (k_Sq (fun v => v = some (.int i))) 0 0 (fun _ => False) := by
  refine Met.ofW (cc := k_M375.2.1) (maxL := 3) (ret := k_M375.2.2.2.1) (by decide) rfl ?_
  intro p e s m args below meth c s₁ B hml hv
  obtain ⟨rfl, hv⟩ := hv
  have hx := B.exec
  have hb := B.bytes
  have hr := B.returns
  have hlocks := B.notSynchronized
  have hts : ∀ x ∈ k_ws, x.before _ s = true := fun x hx => atoms_spec (ws := c_ws k_Z k_M375) B.pre x (List.mem_cons_of_mem _ hx)
  have hown : s.vm.findClass "jdk/internal/util/Preconditions" = some m.cls := findClass_of_methodNamed B.named
  have hl := lv_entry ([.int i, .int n, .null]) (n := 3) (Nat.le_of_ble_eq_true rfl)
  rw [lg_entry_eq]
  generalize (lg_sl ([.int i, .int n, .null]) ++ List.replicate (3 - (lg_sl ([.int i, .int n, .null])).length) Slot.unset).toArray = ls at hl ⊢
  have hl : lv_has ls 3 [(0, .int i), (1, .int n), (2, .null)] := hl
  refine lv_iload_n hx hb k_dpc0 rfl (lv_at hl 0 rfl) ?_
  refine lv_if_lt hx hb k_dpc1 (tgt := 9) (by decide) (fun h => absurd h h0) (fun _ => ?_)
  refine lv_iload_n hx hb k_dpc4 rfl (lv_at hl 0 rfl) ?_
  refine lv_iload_n hx hb k_dpc5 rfl (lv_at hl 1 rfl) ?_
  refine lv_icmp_lt hx hb k_dpc6 (tgt := 16) (by decide) (fun _ => ?_) (fun h => absurd h1 h)
  refine lv_iload_n hx hb k_dpc16 rfl (lv_at hl 0 rfl) ?_
  exact W.iret hx hb hr (fun t ht hW => ⟨⟨_, rfl, rfl⟩, ht⟩) (fun q hq => by cases hq) k_dpc17 hlocks
theorem k_dci0 : decode k_M367.2.1 0 = .ok (.iload_n 0, 1) := by decide +kernel
theorem k_dci1 : decode k_M367.2.1 1 = .ok (.iload_n 1, 1) := by decide +kernel
theorem k_dci2 : decode k_M367.2.1 2 = .ok (.getstatic 1053, 3) := by decide +kernel
theorem k_dci5 : decode k_M367.2.1 5 = .ok (.invokestatic 1059, 3) := by decide +kernel
theorem k_dci8 : decode k_M367.2.1 8 = .ok (.pop, 1) := by decide +kernel
theorem k_dci9 : decode k_M367.2.1 9 = .ok (.return_, 1) := by decide +kernel
theorem k_mChk {l : Launch} {i n : Int32} {adK adV : Nat → Nat} {fm : Nat} {AA : Nat → Prop} (h0 : ¬ i < 0) (h1 : i < n) (d : Nat) : Met l k_M367.1 (c_ws k_Z k_M367) (k_rm (d + 1)) (va_Pc [.int i, .int n] (k_SB adK adV fm AA)) (k_Sq (fun v => v = none)) 0 0 (fun _ => False) := by
  refine Met.ofW (cc := k_M367.2.1) (maxL := 2) (ret := k_M367.2.2.2.1) (by decide) rfl ?_
  intro p e s m args below meth c s₁ B hml hv
  obtain ⟨rfl, hv⟩ := hv
  have hx := B.exec
  have hb := B.bytes
  have hr := B.returns
  have hlocks := B.notSynchronized
  have hts : ∀ x ∈ k_ws, x.before _ s = true := fun x hx => atoms_spec (ws := c_ws k_Z k_M367) B.pre x (List.mem_cons_of_mem _ hx)
  have hown : s.vm.findClass "java/lang/String" = some m.cls := findClass_of_methodNamed B.named
  have hl := lv_entry ([.int i, .int n]) (n := 2) (Nat.le_of_ble_eq_true rfl)
  rw [lg_entry_eq]
  generalize (lg_sl ([.int i, .int n]) ++ List.replicate (2 - (lg_sl ([.int i, .int n])).length) Slot.unset).toArray = ls at hl ⊢
  have hl : lv_has ls 2 [(0, .int i), (1, .int n)] := hl
  refine lv_iload_n hx hb k_dci0 rfl (lv_at hl 0 rfl) ?_
  refine lv_iload_n hx hb k_dci1 rfl (lv_at hl 1 rfl) ?_
  rcases hv.2.2 with hz | ⟨fq, hz⟩
  · refine va_gets hx hb hz va_S.rf hown (hts _ (k_in 1 83 rfl rfl)) (fun _ h => h) k_dci2 ?_
    refine k_callQ (va_runS (bytes := k_M375.2.1) (maxL := k_M375.2.2.1) (ret := k_M375.2.2.2.1) (As := [.int i, .int n, .null]) (rest := []) ⟨hx, hb, hml, hown, hts⟩ (k_mPreN (l := l) h0 h1 d) ⟨callB_of (rm := k_rm d) (ws' := k_Z.2.2.1) 3 hts (c_goodIn k_good (k_mk (a := 375) rfl).1) rfl rfl rfl (hts _ (k_mk (a := 375) rfl).2.1) (hts _ (k_in 1 85 rfl rfl)) ⟨(k_mk (a := 375) rfl).2.2.1.1, (k_mk (a := 375) rfl).2.2.1.2, (by decide +kernel)⟩ ⟨Nat.le_refl _, by show 8 + (3 + 11) + 64 * (d) ≤ 64 * (d + 1); omega⟩, hts _ ((k_mk (a := 375) rfl).2.2.2.2.2.1 rfl)⟩ ⟨k_tr_blind, fun U hU hW => ⟨rfl, trivial⟩⟩ rfl rfl hl.1 rfl (lv_room (Nat.le_of_ble_eq_true rfl)) k_dci5 ⟨Nat.zero_le _, Nat.zero_le _⟩) (fun v hv2 => ?_)
    subst hv2
    refine lv_pop hx hb k_dci8 rfl ?_
    exact W.vret hx hb hr (fun t ht hW => ⟨⟨_, rfl, rfl⟩, ht⟩) (fun q hq => by cases hq) k_dci9 hlocks
  · refine va_gets hx hb hz va_S.rf hown (hts _ (k_in 1 83 rfl rfl)) (fun _ h => h) k_dci2 ?_
    refine k_callQ (va_runS (bytes := k_M375.2.1) (maxL := k_M375.2.2.1) (ret := k_M375.2.2.2.1) (As := [.int i, .int n, .ref fq]) (rest := []) ⟨hx, hb, hml, hown, hts⟩ (k_mPre (l := l) h0 h1 d) ⟨callB_of (rm := k_rm d) (ws' := k_Z.2.2.1) 3 hts (c_goodIn k_good (k_mk (a := 375) rfl).1) rfl rfl rfl (hts _ (k_mk (a := 375) rfl).2.1) (hts _ (k_in 1 85 rfl rfl)) ⟨(k_mk (a := 375) rfl).2.2.1.1, (k_mk (a := 375) rfl).2.2.1.2, (by decide +kernel)⟩ ⟨Nat.le_refl _, by show 8 + (3 + 11) + 64 * (d) ≤ 64 * (d + 1); omega⟩, hts _ ((k_mk (a := 375) rfl).2.2.2.2.2.1 rfl)⟩ ⟨k_tr_blind, fun U hU hW => ⟨rfl, trivial⟩⟩ rfl rfl hl.1 rfl (lv_room (Nat.le_of_ble_eq_true rfl)) k_dci5 ⟨Nat.zero_le _, Nat.zero_le _⟩) (fun v hv2 => ?_)
    subst hv2
    refine lv_pop hx hb k_dci8 rfl ?_
    exact W.vret hx hb hr (fun t ht hW => ⟨⟨_, rfl, rfl⟩, ht⟩) (fun q hq => by cases hq) k_dci9 hlocks
theorem k_dlc0 : decode k_M368.2.1 0 = .ok (.iload_n 1, 1) := by decide +kernel
theorem k_dlc1 : decode k_M368.2.1 1 = .ok (.aload_n 0, 1) := by decide +kernel
theorem k_dlc2 : decode k_M368.2.1 2 = .ok (.arraylength, 1) := by decide +kernel
theorem k_dlc3 : decode k_M368.2.1 3 = .ok (.invokestatic 9, 3) := by decide +kernel
theorem k_dlc6 : decode k_M368.2.1 6 = .ok (.aload_n 0, 1) := by decide +kernel
theorem k_dlc7 : decode k_M368.2.1 7 = .ok (.iload_n 1, 1) := by decide +kernel
theorem k_dlc8 : decode k_M368.2.1 8 = .ok (.baload, 1) := by decide +kernel
theorem k_dlc9 : decode k_M368.2.1 9 = .ok (.sipush 255, 3) := by decide +kernel
theorem k_dlc12 : decode k_M368.2.1 12 = .ok (.iand, 1) := by decide +kernel
theorem k_dlc13 : decode k_M368.2.1 13 = .ok (.i2c, 1) := by decide +kernel
theorem k_dlc14 : decode k_M368.2.1 14 = .ok (.ireturn, 1) := by decide +kernel
def k_chr (j : Nat) (i : Int32) (v : Option Value) : Prop := v = some (.int (((k_sb.getD j []).getD i.toNatClampNeg 0) &&& 255))
theorem k_mL1 {l : Launch} {i : Int32} {j : Nat} {adK adV : Nat → Nat} {fm : Nat} {AA : Nat → Prop} (hj : j < 3) (h0 : ¬ i < 0) (h1 : i < Int32.ofNat (k_sl.getD j 0)) (hin : vp_in i (k_sl.getD j 0)) (d : Nat) : Met l k_M368.1 (c_ws k_Z k_M368) (k_rm (d + 1 + 1)) (va_Pc [.ref (adV j), .int i] (k_SB adK adV fm AA)) (k_Sq (k_chr j i)) 0 0 (fun _ => False) := by
  refine Met.ofW (cc := k_M368.2.1) (maxL := 2) (ret := k_M368.2.2.2.1) (by decide) rfl ?_
  intro p e s m args below meth c s₁ B hml hv
  obtain ⟨rfl, hv⟩ := hv
  have hx := B.exec
  have hb := B.bytes
  have hr := B.returns
  have hlocks := B.notSynchronized
  have hts : ∀ x ∈ k_ws, x.before _ s = true := fun x hx => atoms_spec (ws := c_ws k_Z k_M368) B.pre x (List.mem_cons_of_mem _ hx)
  have hown : s.vm.findClass "java/lang/StringLatin1" = some m.cls := findClass_of_methodNamed B.named
  have hl := lv_entry ([.ref (adV j), .int i]) (n := 2) (Nat.le_of_ble_eq_true rfl)
  rw [lg_entry_eq]
  generalize (lg_sl ([.ref (adV j), .int i]) ++ List.replicate (2 - (lg_sl ([.ref (adV j), .int i])).length) Slot.unset).toArray = ls at hl ⊢
  have hl : lv_has ls 2 [(0, .ref (adV j)), (1, .int i)] := hl
  refine lv_iload_n hx hb k_dlc0 rfl (lv_at hl 1 rfl) ?_
  refine lv_aload_n hx hb k_dlc1 rfl (lv_at hl 0 rfl) ?_
  refine va_tlen hx hb (hv.1.1 j hj).2.2.2 va_S.rf rfl k_dlc2 ?_
  refine k_callQ (va_runS (bytes := k_M367.2.1) (maxL := k_M367.2.2.1) (ret := k_M367.2.2.2.1) (As := [.int i, .int (Int32.ofNat (k_sl.getD j 0))]) (rest := []) ⟨hx, hb, hml, hown, hts⟩ (k_mChk (l := l) (adK := adK) (adV := adV) (fm := fm) (AA := AA) h0 h1 d) ⟨callB_of (rm := k_rm (d + 1)) (ws' := k_Z.2.2.1) 2 hts (c_goodIn k_good (k_mk (a := 367) rfl).1) rfl rfl rfl (hts _ (k_mk (a := 367) rfl).2.1) (hts _ (k_in 1 80 rfl rfl)) ⟨(k_mk (a := 367) rfl).2.2.1.1, (k_mk (a := 367) rfl).2.2.1.2, (by decide +kernel)⟩ ⟨Nat.le_refl _, by show 8 + (2 + 11) + 64 * ((d + 1)) ≤ 64 * ((d + 1) + 1); omega⟩, hts _ ((k_mk (a := 367) rfl).2.2.2.2.2.1 rfl)⟩ ⟨k_SB_blind, fun U hU hW => ⟨rfl, k_SB_at hU hW va_S.rf hv⟩⟩ rfl rfl hl.1 rfl (lv_room (Nat.le_of_ble_eq_true rfl)) k_dlc3 ⟨Nat.zero_le _, Nat.zero_le _⟩) (fun v hv2 => ?_)
  subst hv2
  refine lv_aload_n hx hb k_dlc6 rfl (lv_at hl 0 rfl) ?_
  refine lv_iload_n hx hb k_dlc7 rfl (lv_at hl 1 rfl) ?_
  refine va_tb hx hb (hv.1.1 j hj).2.2.2 va_S.rf hin rfl k_dlc8 ?_
  refine lv_sipush hx hb k_dlc9 (v := 255) (by decide) ?_
  refine lv_iand hx hb k_dlc12 ?_
  refine lv_i2c hx hb k_dlc13 (sc_c2 _) ?_
  exact W.zret hx hb hr (sc_nar _) (fun t ht hW => ⟨⟨_, rfl, rfl⟩, ht⟩) (fun q hq => by cases hq) k_dlc14 hlocks
theorem k_dco0 : decode k_M365.2.1 0 = .ok (.getstatic 38, 3) := by decide +kernel
theorem k_dco3 : decode k_M365.2.1 3 = .ok (.ifCond .eq 10, 3) := by decide +kernel
theorem k_dco6 : decode k_M365.2.1 6 = .ok (.aload_n 0, 1) := by decide +kernel
theorem k_dco7 : decode k_M365.2.1 7 = .ok (.getfield 15, 3) := by decide +kernel
theorem k_dco10 : decode k_M365.2.1 10 = .ok (.goto 4, 3) := by decide +kernel
theorem k_dco14 : decode k_M365.2.1 14 = .ok (.ireturn, 1) := by decide +kernel
theorem k_mCod {l : Launch} {j : Nat} {adK adV : Nat → Nat} {fm : Nat} {AA : Nat → Prop} (hj : j < 3) (d : Nat) : Met l k_M365.1 (c_ws k_Z k_M365) (k_rm d) (va_Pc [.ref (adK j)] (k_SB adK adV fm AA)) (k_Sq (fun v => v = some (.int 0))) 0 0 (fun _ => False) := by
  refine Met.ofW (cc := k_M365.2.1) (maxL := 1) (ret := k_M365.2.2.2.1) (by decide) rfl ?_
  intro p e s m args below meth c s₁ B hml hv
  obtain ⟨rfl, hv⟩ := hv
  have hx := B.exec
  have hb := B.bytes
  have hr := B.returns
  have hlocks := B.notSynchronized
  have hts : ∀ x ∈ k_ws, x.before _ s = true := fun x hx => atoms_spec (ws := c_ws k_Z k_M365) B.pre x (List.mem_cons_of_mem _ hx)
  have hown : s.vm.findClass "java/lang/String" = some m.cls := findClass_of_methodNamed B.named
  have hl := lv_entry ([.ref (adK j)]) (n := 1) (Nat.le_of_ble_eq_true rfl)
  rw [lg_entry_eq]
  generalize (lg_sl ([.ref (adK j)]) ++ List.replicate (1 - (lg_sl ([.ref (adK j)])).length) Slot.unset).toArray = ls at hl ⊢
  have hl : lv_has ls 1 [(0, .ref (adK j))] := hl
  refine va_gets hx hb hv.2.1 va_S.rf hown (hts _ (k_in 1 67 rfl rfl)) (fun _ h => h) k_dco0 ?_
  refine lv_if_eq hx hb k_dco3 (tgt := 13) (by decide) (fun h => absurd h (by decide)) (fun _ => ?_)
  refine lv_aload_n hx hb k_dco6 rfl (lv_at hl 0 rfl) ?_
  refine vk_getf hx hb (hv.1.1 j hj).2.1 va_S.rf hown (hts _ (k_in 10 164 rfl rfl)) (fun _ h => h) k_dco7 ?_
  refine lv_goto hx hb k_dco10 (tgt := 14) (by decide) ?_
  exact W.zret (v := 0) hx hb hr (by decide) (fun t ht hW => ⟨⟨_, rfl, rfl⟩, ht⟩) (fun q hq => by cases hq) k_dco14 hlocks
theorem k_dil0 : decode k_M366.2.1 0 = .ok (.getstatic 38, 3) := by decide +kernel
theorem k_dil3 : decode k_M366.2.1 3 = .ok (.ifCond .eq 14, 3) := by decide +kernel
theorem k_dil6 : decode k_M366.2.1 6 = .ok (.aload_n 0, 1) := by decide +kernel
theorem k_dil7 : decode k_M366.2.1 7 = .ok (.getfield 15, 3) := by decide +kernel
theorem k_dil10 : decode k_M366.2.1 10 = .ok (.ifCond .ne 7, 3) := by decide +kernel
theorem k_dil13 : decode k_M366.2.1 13 = .ok (.iconst 1, 1) := by decide +kernel
theorem k_dil14 : decode k_M366.2.1 14 = .ok (.goto 4, 3) := by decide +kernel
theorem k_dil18 : decode k_M366.2.1 18 = .ok (.ireturn, 1) := by decide +kernel
theorem k_mLat {l : Launch} {j : Nat} {adK adV : Nat → Nat} {fm : Nat} {AA : Nat → Prop} (hj : j < 3) (d : Nat) : Met l k_M366.1 (c_ws k_Z k_M366) (k_rm d) (va_Pc [.ref (adK j)] (k_SB adK adV fm AA)) (k_Sq (fun v => v = some (.int 1))) 0 0 (fun _ => False) := by
  refine Met.ofW (cc := k_M366.2.1) (maxL := 1) (ret := k_M366.2.2.2.1) (by decide) rfl ?_
  intro p e s m args below meth c s₁ B hml hv
  obtain ⟨rfl, hv⟩ := hv
  have hx := B.exec
  have hb := B.bytes
  have hr := B.returns
  have hlocks := B.notSynchronized
  have hts : ∀ x ∈ k_ws, x.before _ s = true := fun x hx => atoms_spec (ws := c_ws k_Z k_M366) B.pre x (List.mem_cons_of_mem _ hx)
  have hown : s.vm.findClass "java/lang/String" = some m.cls := findClass_of_methodNamed B.named
  have hl := lv_entry ([.ref (adK j)]) (n := 1) (Nat.le_of_ble_eq_true rfl)
  rw [lg_entry_eq]
  generalize (lg_sl ([.ref (adK j)]) ++ List.replicate (1 - (lg_sl ([.ref (adK j)])).length) Slot.unset).toArray = ls at hl ⊢
  have hl : lv_has ls 1 [(0, .ref (adK j))] := hl
  refine va_gets hx hb hv.2.1 va_S.rf hown (hts _ (k_in 1 67 rfl rfl)) (fun _ h => h) k_dil0 ?_
  refine lv_if_eq hx hb k_dil3 (tgt := 17) (by decide) (fun h => absurd h (by decide)) (fun _ => ?_)
  refine lv_aload_n hx hb k_dil6 rfl (lv_at hl 0 rfl) ?_
  refine vk_getf hx hb (hv.1.1 j hj).2.1 va_S.rf hown (hts _ (k_in 10 164 rfl rfl)) (fun _ h => h) k_dil7 ?_
  refine lv_if_ne hx hb k_dil10 (tgt := 17) (by decide) (fun h => absurd rfl h) (fun _ => ?_)
  refine lv_iconst (v := 1) hx hb k_dil13 (by decide) ?_
  refine lv_goto hx hb k_dil14 (tgt := 18) (by decide) ?_
  exact W.zret (v := 1) hx hb hr (by decide) (fun t ht hW => ⟨⟨_, rfl, rfl⟩, ht⟩) (fun q hq => by cases hq) k_dil18 hlocks
theorem k_dln0 : decode k_M363.2.1 0 = .ok (.aload_n 0, 1) := by decide +kernel
theorem k_dln1 : decode k_M363.2.1 1 = .ok (.getfield 9, 3) := by decide +kernel
theorem k_dln4 : decode k_M363.2.1 4 = .ok (.arraylength, 1) := by decide +kernel
theorem k_dln5 : decode k_M363.2.1 5 = .ok (.aload_n 0, 1) := by decide +kernel
theorem k_dln6 : decode k_M363.2.1 6 = .ok (.invokevirtual 335, 3) := by decide +kernel
theorem k_dln9 : decode k_M363.2.1 9 = .ok (.ishr, 1) := by decide +kernel
theorem k_dln10 : decode k_M363.2.1 10 = .ok (.ireturn, 1) := by decide +kernel
theorem k_sl31 {j : Nat} (hj : j < 3) : k_sl.getD j 0 < 64 := by rcases (show j = 0 ∨ j = 1 ∨ j = 2 by omega) with rfl | rfl | rfl <;> decide
theorem k_mLen {l : Launch} {j : Nat} {adK adV : Nat → Nat} {fm : Nat} {AA : Nat → Prop} (hj : j < 3) (d : Nat) : Met l k_M363.1 (c_ws k_Z k_M363) (k_rm (d + 1)) (va_Pc [.ref (adK j)] (k_SB adK adV fm AA)) (k_Sq (fun v => v = some (.int (nI (k_sl.getD j 0))))) 0 0 (fun _ => False) := by
  refine Met.ofW (cc := k_M363.2.1) (maxL := 1) (ret := k_M363.2.2.2.1) (by decide) rfl ?_
  intro p e s m args below meth c s₁ B hml hv
  obtain ⟨rfl, hv⟩ := hv
  have hx := B.exec
  have hb := B.bytes
  have hr := B.returns
  have hlocks := B.notSynchronized
  have hts : ∀ x ∈ k_ws, x.before _ s = true := fun x hx => atoms_spec (ws := c_ws k_Z k_M363) B.pre x (List.mem_cons_of_mem _ hx)
  have hown : s.vm.findClass "java/lang/String" = some m.cls := findClass_of_methodNamed B.named
  have hl := lv_entry ([.ref (adK j)]) (n := 1) (Nat.le_of_ble_eq_true rfl)
  rw [lg_entry_eq]
  generalize (lg_sl ([.ref (adK j)]) ++ List.replicate (1 - (lg_sl ([.ref (adK j)])).length) Slot.unset).toArray = ls at hl ⊢
  have hl : lv_has ls 1 [(0, .ref (adK j))] := hl
  refine lv_aload_n hx hb k_dln0 rfl (lv_at hl 0 rfl) ?_
  refine vk_getf hx hb (hv.1.1 j hj).2.2.1 va_S.rf hown (hts _ (k_in 10 163 rfl rfl)) (fun _ h => h) k_dln1 ?_
  refine va_tlen hx hb (hv.1.1 j hj).2.2.2 va_S.rf (v := nI (k_sl.getD j 0)) rfl k_dln4 ?_
  refine lv_aload_n hx hb k_dln5 rfl (lv_at hl 0 rfl) ?_
  refine k_callQ (va_runV (bytes := k_M365.2.1) (maxL := k_M365.2.2.1) (ret := k_M365.2.2.2.1) (C := "java/lang/String") (As := []) (rest := [.int (nI (k_sl.getD j 0))]) ⟨hx, hb, hml, hown, hts⟩ (k_mCod (l := l) (adK := adK) (adV := adV) (fm := fm) (AA := AA) hj d) ⟨callB_of (rm := k_rm d) (ws' := k_Z.2.2.1) 0 hts (c_goodIn k_good (k_mk (a := 365) rfl).1) rfl rfl rfl (hts _ (k_mk (a := 365) rfl).2.1) (hts _ (k_in 1 63 rfl rfl)) ⟨(k_mk (a := 365) rfl).2.2.1.1, (k_mk (a := 365) rfl).2.2.1.2, (by decide +kernel)⟩ ⟨Nat.le_refl _, by show 8 + (1 + 11) + 64 * (d) ≤ 64 * (d + 1); omega⟩, hts _ ((k_mk (a := 365) rfl).2.2.2.2.1 rfl).1, hts _ ((k_mk (a := 365) rfl).2.2.2.2.1 rfl).2⟩ ⟨k_SB_blind, vk_recv hv.1 hj va_S.rf, fun U hU hW => ⟨rfl, k_SB_at hU hW va_S.rf hv⟩⟩ rfl rfl hl.1 rfl (lv_room (Nat.le_of_ble_eq_true rfl)) k_dln6 ⟨Nat.zero_le _, Nat.zero_le _⟩) (fun v hv2 => ?_)
  subst hv2
  refine lv_ishr hx hb k_dln9 ?_
  rw [sc_shr0 (by have := k_sl31 hj; omega)]
  exact W.iret hx hb hr (fun t ht hW => ⟨⟨_, rfl, rfl⟩, ht⟩) (fun q hq => by cases hq) k_dln10 hlocks
theorem k_dca0 : decode k_M364.2.1 0 = .ok (.aload_n 0, 1) := by decide +kernel
theorem k_dca1 : decode k_M364.2.1 1 = .ok (.invokevirtual 492, 3) := by decide +kernel
theorem k_dca4 : decode k_M364.2.1 4 = .ok (.ifCond .eq 12, 3) := by decide +kernel
theorem k_dca7 : decode k_M364.2.1 7 = .ok (.aload_n 0, 1) := by decide +kernel
theorem k_dca8 : decode k_M364.2.1 8 = .ok (.getfield 9, 3) := by decide +kernel
theorem k_dca11 : decode k_M364.2.1 11 = .ok (.iload_n 1, 1) := by decide +kernel
theorem k_dca12 : decode k_M364.2.1 12 = .ok (.invokestatic 495, 3) := by decide +kernel
theorem k_dca15 : decode k_M364.2.1 15 = .ok (.ireturn, 1) := by decide +kernel
theorem k_mChr {l : Launch} {i : Int32} {j : Nat} {adK adV : Nat → Nat} {fm : Nat} {AA : Nat → Prop} (hj : j < 3) (h0 : ¬ i < 0) (h1 : i < Int32.ofNat (k_sl.getD j 0)) (hin : vp_in i (k_sl.getD j 0)) (d : Nat) : Met l k_M364.1 (c_ws k_Z k_M364) (k_rm (d + 1 + 1 + 1)) (va_Pc [.ref (adK j), .int i] (k_SB adK adV fm AA)) (k_Sq (k_chr j i)) 0 0 (fun _ => False) := by
  refine Met.ofW (cc := k_M364.2.1) (maxL := 2) (ret := k_M364.2.2.2.1) (by decide) rfl ?_
  intro p e s m args below meth c s₁ B hml hv
  obtain ⟨rfl, hv⟩ := hv
  have hx := B.exec
  have hb := B.bytes
  have hr := B.returns
  have hlocks := B.notSynchronized
  have hts : ∀ x ∈ k_ws, x.before _ s = true := fun x hx => atoms_spec (ws := c_ws k_Z k_M364) B.pre x (List.mem_cons_of_mem _ hx)
  have hown : s.vm.findClass "java/lang/String" = some m.cls := findClass_of_methodNamed B.named
  have hl := lv_entry ([.ref (adK j), .int i]) (n := 2) (Nat.le_of_ble_eq_true rfl)
  rw [lg_entry_eq]
  generalize (lg_sl ([.ref (adK j), .int i]) ++ List.replicate (2 - (lg_sl ([.ref (adK j), .int i])).length) Slot.unset).toArray = ls at hl ⊢
  have hl : lv_has ls 2 [(0, .ref (adK j)), (1, .int i)] := hl
  refine lv_aload_n hx hb k_dca0 rfl (lv_at hl 0 rfl) ?_
  refine k_callQ (va_runV (bytes := k_M366.2.1) (maxL := k_M366.2.2.1) (ret := k_M366.2.2.2.1) (C := "java/lang/String") (As := []) (rest := []) ⟨hx, hb, hml, hown, hts⟩ (k_mLat (l := l) (adK := adK) (adV := adV) (fm := fm) (AA := AA) hj (d + 1 + 1)) ⟨callB_of (rm := k_rm (d + 1 + 1)) (ws' := k_Z.2.2.1) 0 hts (c_goodIn k_good (k_mk (a := 366) rfl).1) rfl rfl rfl (hts _ (k_mk (a := 366) rfl).2.1) (hts _ (k_in 1 73 rfl rfl)) ⟨(k_mk (a := 366) rfl).2.2.1.1, (k_mk (a := 366) rfl).2.2.1.2, (by decide +kernel)⟩ ⟨Nat.le_refl _, by show 8 + (1 + 11) + 64 * ((d + 1 + 1)) ≤ 64 * ((d + 1 + 1) + 1); omega⟩, hts _ ((k_mk (a := 366) rfl).2.2.2.2.1 rfl).1, hts _ ((k_mk (a := 366) rfl).2.2.2.2.1 rfl).2⟩ ⟨k_SB_blind, vk_recv hv.1 hj va_S.rf, fun U hU hW => ⟨rfl, k_SB_at hU hW va_S.rf hv⟩⟩ rfl rfl hl.1 rfl (lv_room (Nat.le_of_ble_eq_true rfl)) k_dca1 ⟨Nat.zero_le _, Nat.zero_le _⟩) (fun v hv2 => ?_)
  subst hv2
  refine lv_if_eq hx hb k_dca4 (tgt := 16) (by decide) (fun h => absurd h (by decide)) (fun _ => ?_)
  refine lv_aload_n hx hb k_dca7 rfl (lv_at hl 0 rfl) ?_
  refine vk_getf hx hb (hv.1.1 j hj).2.2.1 va_S.rf hown (hts _ (k_in 10 163 rfl rfl)) (fun _ h => h) k_dca8 ?_
  refine lv_iload_n hx hb k_dca11 rfl (lv_at hl 1 rfl) ?_
  refine k_callQ (va_runS (bytes := k_M368.2.1) (maxL := k_M368.2.2.1) (ret := k_M368.2.2.2.1) (As := [.ref (adV j), .int i]) (rest := []) ⟨hx, hb, hml, hown, hts⟩ (k_mL1 (l := l) (adK := adK) (adV := adV) (fm := fm) (AA := AA) hj h0 h1 hin d) ⟨callB_of (rm := k_rm (d + 1 + 1)) (ws' := k_Z.2.2.1) 2 hts (c_goodIn k_good (k_mk (a := 368) rfl).1) rfl rfl rfl (hts _ (k_mk (a := 368) rfl).2.1) (hts _ (k_in 1 77 rfl rfl)) ⟨(k_mk (a := 368) rfl).2.2.1.1, (k_mk (a := 368) rfl).2.2.1.2, (by decide +kernel)⟩ ⟨Nat.le_refl _, by show 8 + (2 + 11) + 64 * ((d + 1 + 1)) ≤ 64 * ((d + 1 + 1) + 1); omega⟩, hts _ ((k_mk (a := 368) rfl).2.2.2.2.2.1 rfl)⟩ ⟨k_SB_blind, fun U hU hW => ⟨rfl, k_SB_at hU hW va_S.rf hv⟩⟩ rfl rfl hl.1 rfl (lv_room (Nat.le_of_ble_eq_true rfl)) k_dca12 ⟨Nat.zero_le _, Nat.zero_le _⟩) (fun v hv2 => ?_)
  have hv2 : _ = some _ := hv2
  subst hv2
  exact W.zret hx hb hr (sc_nar _) (fun t ht hW => ⟨⟨_, rfl, rfl⟩, ht⟩) (fun q hq => by cases hq) k_dca15 hlocks
