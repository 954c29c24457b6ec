/-! a public call, told by both layers (third layer) -/
/-- a ghost with the tables of a text; the numbers below 1000 are given -/
def t_gh (X : t_X0) (s : Nat → Int) (j : Nat) : Int := if j < 1208925819614629174706176 then s j else if j < 2417851639229258349412352 then (if j = 1208925819614629174707199 then (X.2 : Int) else X.1 (j - 1208925819614629174706176)) else t_reg X (j / 1208925819614629174706176) (j % 1024) (j / 1024 % 1024) (j / 1048576 % 1024) (j % 1208925819614629174706176 / 1073741824)
theorem t_gh_lo {X : t_X0} {s : Nat → Int} {j : Nat} (h : j < 1208925819614629174706176) : t_gh X s j = s j := by
  unfold t_gh
  rw [if_pos h]
theorem t_gh_by {X : t_X0} {s : Nat → Int} {p : Nat} (h : p < 1023) : t_gh X s (1208925819614629174706176 + p) = X.1 p := by
  unfold t_gh
  rw [if_neg (by omega), if_pos (by omega), if_neg (by omega), Nat.add_sub_cancel_left]
theorem t_gh_n {X : t_X0} {s : Nat → Int} : t_gh X s 1208925819614629174707199 = (X.2 : Int) := by
  unfold t_gh
  rw [if_neg (by omega), if_pos (by omega), if_pos rfl]
theorem t_gh_tx {X : t_X0} {s : Nat → Int} (h : ∀ p, 1023 ≤ p → X.1 p = 0) : t_tx (t_gh X s) = X := by
  unfold t_tx
  rw [t_gh_n]
  refine Prod.ext ?_ ?_
  · funext p
    show (if p < 1023 then t_gh X s (1208925819614629174706176 + p) else 0) = X.1 p
    by_cases hp : p < 1023
    · rw [if_pos hp, t_gh_by hp]
    · rw [if_neg hp, h p (by omega)]
  · show ((X.2 : Int)).toNat = X.2
    omega
theorem t_gh_G {X : t_X0} {s : Nat → Int} (h0 : X.2 ≤ 600) (h1 : ∀ p, -128 ≤ X.1 p ∧ X.1 p ≤ 127) (h : ∀ p, 1023 ≤ p → X.1 p = 0) : t_G (t_gh X s) := by
  refine ⟨⟨by rw [t_gh_n]; omega, by rw [t_gh_n]; omega, fun p hp => by rw [t_gh_by hp]; exact h1 p⟩, fun r a b c v k1 k2 k3 k4 k5 k6 => ?_⟩
  rw [t_gh_tx h]
  unfold t_gh
  rw [if_neg (by omega), if_neg (by omega)]
  have e1 : (1208925819614629174706176 * r + a + 1024 * b + 1048576 * c + 1073741824 * v) / 1208925819614629174706176 = r := by omega
  have e2 : (1208925819614629174706176 * r + a + 1024 * b + 1048576 * c + 1073741824 * v) % 1024 = a := by omega
  have e3 : (1208925819614629174706176 * r + a + 1024 * b + 1048576 * c + 1073741824 * v) / 1024 % 1024 = b := by omega
  have e4 : (1208925819614629174706176 * r + a + 1024 * b + 1048576 * c + 1073741824 * v) / 1048576 % 1024 = c := by omega
  have e5 : (1208925819614629174706176 * r + a + 1024 * b + 1048576 * c + 1073741824 * v) % 1208925819614629174706176 / 1073741824 = v := by omega
  rw [e1, e2, e3, e4, e5]
/-! the third layer's types are the first one's, or weaker -/
theorem t_look_f {α : Type} {t : Nat} (f : Nat → Bool) (ht : f t = true) : ∀ l : List (Nat × α), k_look t (l.filter (fun q => f q.1)) = k_look t l
  | [] => rfl
  | q :: l => by
    rw [List.filter_cons]
    by_cases hq : Nat.beq q.1 t = true
    · have e := Nat.eq_of_beq_eq_true hq
      rw [e, ht, if_pos rfl]
      show (if Nat.beq q.1 t then some q.2 else _) = (if Nat.beq q.1 t then some q.2 else _)
      rw [if_pos hq, if_pos hq]
    · have e2 : k_look t (q :: l) = k_look t l := if_neg hq
      rw [e2, ← t_look_f f ht l]
      by_cases hf : f q.1 = true
      · rw [if_pos hf]
        exact if_neg hq
      · rw [if_neg hf]
theorem t_look_n {α : Type} {t : Nat} : ∀ {l : List (Nat × α)}, l.all (fun q => !(Nat.beq q.1 t)) = true → k_look t l = none
  | [], _ => rfl
  | q :: l, h => by
    rw [List.all_cons, Bool.and_eq_true] at h
    unfold k_look
    rw [if_neg (by intro hc; rw [hc] at h; cases h.1)]
    exact t_look_n h.2
def t_fl (q : Nat) : Bool := Nat.ble q 100 && !(Nat.beq q 58)
theorem t_typsEq : t_typs.filter (fun q => t_fl q.1) = k_typs.filter (fun q => t_fl q.1) := by decide +kernel
theorem t_unisEq : t_unis.filter (fun q => t_fl q.1) = k_unis.filter (fun q => t_fl q.1) := by decide +kernel
theorem t_typsLe : t_typs.all (fun q => Nat.ble q.1 100) = true := by decide +kernel
theorem t_unisLe : t_unis.all (fun q => Nat.ble q.1 100) = true := by decide +kernel
theorem t_typC : (List.range 10000).all (fun j => Nat.beq (c_ty k_K 58 j).1 0) = true := by decide +kernel
theorem t_tyI {t : Nat} (h : t_fl t = true) (j : Nat) : c_ty t_K t j = c_ty k_K t j := by
  have e1 : k_look t t_typs = k_look t k_typs := by rw [← t_look_f t_fl h t_typs, ← t_look_f t_fl h k_typs, t_typsEq]
  have e2 : k_look t t_unis = k_look t k_unis := by rw [← t_look_f t_fl h t_unis, ← t_look_f t_fl h k_unis, t_unisEq]
  have h58 : ¬ (Nat.beq t 58 = true) := fun h9 => by
    unfold t_fl at h
    rw [h9, Bool.and_eq_true] at h
    exact absurd h.2 (by decide)
  show (match k_look t t_unis with
    | some x => x
    | none => (match k_look t t_typs with
      | some l => k_reg j l
      | none => (5, 0, 0))) = (match k_look t k_unis with
    | some x => x
    | none => (if Nat.beq t 58 then k_typC j else match k_look t k_typs with
      | some l => k_reg j l
      | none => (5, 0, 0)))
  rw [e1, e2, if_neg h58]
theorem t_tyB {t : Nat} (h : 100 < t) (j : Nat) : c_ty t_K t j = (5, 0, 0) := by
  have off : ∀ {α : Type} {l : List (Nat × α)}, l.all (fun q => Nat.ble q.1 100) = true → k_look t l = none := fun {α} {l} hl => t_look_n (List.all_eq_true.mpr fun q hq => by
    have h1 := Nat.le_of_ble_eq_true (List.all_eq_true.mp hl q hq)
    cases hb : Nat.beq q.1 t with
    | false => rfl
    | true =>
      have := Nat.eq_of_beq_eq_true hb
      omega)
  show (match k_look t t_unis with
    | some x => x
    | none => (match k_look t t_typs with
      | some l => k_reg j l
      | none => (5, 0, 0))) = _
  rw [off t_unisLe, off t_typsLe]
theorem t_TW {dA : Nat → ClassId} {w : cWld} (hT : c_TW k_K dA w) (g : Nat → Int) (hJ : ∀ q ∈ w.2.1, t_J t_G t_rows t_ctags (w.1 q.1) q.1 (c_rd q.2) g) : c_TW t_K dA (w.1, w.2.1, g) := by
  intro q hq
  have hq : q ∈ w.2.1 := hq
  obtain ⟨f1, f2, -, -⟩ := hT q hq
  refine ⟨f1, fun j v hv => ?_, fun i hi => by cases hi, hJ q hq⟩
  show c_okV (w.1, w.2.1, g) (c_ty t_K (w.1 q.1) j) v
  by_cases hb : 100 < w.1 q.1
  · rw [t_tyB hb j]
    trivial
  · by_cases h58 : w.1 q.1 = 58
    · rw [h58] at f1 f2 ⊢
      have hlen : j < 10000 := by
        have e : k_K.2.1 58 = (1, 10000, 0) := by decide +kernel
        rw [e] at f1
        obtain ⟨f, hf⟩ := f1
        have hv' : c_rd q.2 j = some v := hv
        rw [hf] at hv'
        have hv' : (if j < 10000 then some (Value.int (f j)) else none) = some v := hv'
        by_cases h9 : j < 10000
        · exact h9
        · rw [if_neg h9] at hv'
          cases hv'
      have h0 := Nat.eq_of_beq_eq_true (List.all_eq_true.mp t_typC j (List.mem_range.mpr hlen))
      have h1 := f2 j v hv
      have e2 : c_ty t_K 58 j = (0, (-2147483648), 2147483647) := by rfl
      rw [e2]
      generalize hc : c_ty k_K 58 j = ct at h0 h1
      obtain ⟨k, lo, hi⟩ := ct
      have h0 : k = 0 := h0
      subst h0
      obtain ⟨x, rfl, -, -⟩ := h1
      exact ⟨x, rfl, x.le_toInt, by have := x.toInt_lt; show x.toInt ≤ 2147483647; omega⟩
    · rw [t_tyI (by unfold t_fl; rw [Bool.and_eq_true]; exact ⟨Nat.ble_eq.mpr (by omega), by
        cases hb9 : Nat.beq (w.1 q.1) 58 with
        | false => rfl
        | true => exact absurd (Nat.eq_of_beq_eq_true hb9) h58⟩) j]
      exact f2 j v hv
/-- what else is known of a call -/
abbrev t_Ix : Type := cCtr × (Nat → Int) × (Nat → Int)
def t_Wi (w : cWld) (i : t_Ix) : cWld := (w.1, w.2.1, i.2.2)
def t_Pi (dA : Nat → ClassId) (a : Nat) (ct : cCtr) (w : cWld) (vals : List Value) (i : t_Ix) : Prop := i.1 ∈ t_P.2.1 a ∧ ct_mc i.1 = ct_mc ct ∧ ct_ms i.1 = ct_ms ct ∧ c_Pre i.1 i.2.1 vals (t_Wi w i) ∧ c_ev i.2.1 (ct_dep i.1) ≤ ((1000 : Nat) : Int) ∧ c_TW t_K dA (t_Wi w i)
section P2
variable {p : Program} {l : Launch} {e : Env} {s : State} {m : MethodId} {below : List Frame} {meth : Method} {c : Code} {Q : State → Prop} {b L : Nat} {xs : Nat → Int32} {D : va_G} {dA : Nat → ClassId} {a1 a2 i cells slots : Nat} {ls : Array Slot} {w : cWld} {H : Heap} {locs : List Loc}
theorem t_met2 {AA : Nat → Prop} {a : Nat} {M : cMth} {ct : cCtr} {r : Nat → Int} {vals : List Value} (hM : k_Z.2.1 a = some M) (hct : ct ∈ k_P.2.1 a) (hpre : c_Pre ct r vals w) (hdep : c_ev r (ct_dep ct) ≤ ((1000 : Nat) : Int)) (hT : c_TW k_K dA w) (hD : va_D AA w.2.1) :
    Met l M.1 (c_ws k_Z M) (c_rm 1000 ct) (va_Pc vals (c_Bp D k_cl dA AA "MayBoats$Book" k_Z w)) (fun av st oc t => c_Qc D k_cl dA AA k_K ct r w av st oc t ∧ ∀ i : t_Ix, t_Pi dA a ct w vals i → c_Qc D k_cl dA AA t_K i.1 i.2.1 (t_Wi w i) av st oc t) (ct_mc ct) (ct_ms ct) AA := by
  have h1 := (k_mOk a M hM).2.2.2.2.2.2.2 ct hct
  have hG := k_all (l := l) (D := D) (dA := dA) (AA := AA) 1000 a ct hct M (by rw [h1.1]; exact hM) w r vals hpre hdep hT hD
  have hJ : ∀ i : t_Ix, t_Pi dA a ct w vals i → Met l M.1 (c_ws k_Z M) (c_rm 1000 ct) (va_Pc vals (c_Bp D k_cl dA AA "MayBoats$Book" k_Z w)) (c_Qc D k_cl dA AA t_K i.1 i.2.1 (t_Wi w i)) (ct_mc ct) (ct_ms ct) AA := fun i hi => by
    obtain ⟨i1, i2, i3, i4, i5, i6⟩ := hi
    have h2 := (t_mOk a M hM).2.2.2.2.2.2.2 i.1 i1
    have := t_all9 (l := l) (D := D) (dA := dA) (AA := AA) 1000 a i.1 i1 M (by rw [h2.1]; exact hM) (t_Wi w i) i.2.1 vals i4 i5 i6 hD
    have hrm : c_rm 1000 i.1 = c_rm 1000 ct := by unfold c_rm; rw [i2, i3]
    rw [i2, i3, hrm] at this
    exact this
  unfold Met at hG hJ ⊢
  refine (MetFree.all (G := Option { i : t_Ix // t_Pi dA a ct w vals i }) (P := fun _ => va_Pc vals (c_Bp D k_cl dA AA "MayBoats$Book" k_Z w)) (Q := fun o => match o with
    | none => fun av st oc t => c_Qc D k_cl dA AA k_K ct r w av st oc t ∧ ∃ L, FrameEnd st oc t L (ct_mc ct) (ct_ms ct) ∧ ∀ q ∈ L, AA q.base
    | some i => fun av st oc t => c_Qc D k_cl dA AA t_K i.1.1 i.1.2.1 (t_Wi w i.1) av st oc t ∧ ∃ L, FrameEnd st oc t L (ct_mc ct) (ct_ms ct) ∧ ∀ q ∈ L, AA q.base) (fun o => ?_)).mono (fun av st h => ⟨none, h⟩) (fun _ _ _ _ _ h => h) (fun av st oc t hP hq => ?_)
  · match o with
    | none => exact hG
    | some i => exact hJ i.1 i.2
  · have h0 := hq none hP
    exact ⟨⟨h0.1, fun i hi => (hq (some ⟨i, hi⟩) hP).1⟩, h0.2⟩
/-- a public call by both layers -/
theorem t_pub2 (C : k_Cx p s m c b L xs D dA) (I : k_In s D dA a1 a2 w H locs) {a idx pc : Nat} {M : cMth} {ct : cCtr} (hM : k_Z.2.1 a = some M) (hct : ct ∈ k_P.2.1 a) (hkd : M.2.2.2.2 = 0) (hlk : Jvm.Cond.methodLink "MayBoatsLaw" idx M.1 ∈ k_ws) (hpb : k_endB ct = true) {x : Nat} {As rest : List Value} (ns : List Int) (hpd : c_Pre ct (k_rv ns) (.ref x :: As) w ∧ c_ev (k_rv ns) (ct_dep ct) ≤ ((1000 : Nat) : Int)) (hcat : (rest.map fun v => v.category).sum ≤ 8) (hd : decode code pc = .ok (.invokevirtual idx, 3)) (hc : cells + ct_mc ct ≤ 600000) (hs : slots + ct_ms ct ≤ 7302250) (hls : ls.size = 4)
    (kk : ∀ (rv : List Value) (res : List Int) (w' : cWld) (H' : Heap) (locs' : List Loc), c_retV (ct_ret ct) rv res → c_Post ct (k_rv ns) w w' res → k_In s D dA a1 a2 w' H' locs' → (∀ i : t_Ix, t_Pi dA a ct w (.ref x :: As) i → ∃ (rv2 : List Value) (res2 : List Int) (w2 : cWld), rv2.head? = rv.head? ∧ c_retV (ct_ret i.1) rv2 res2 ∧ c_Post i.1 i.2.1 (t_Wi w i) w2 res2 ∧ va_P D k_cl w2.2.1 H' ∧ va_D (k_AA s) w2.2.1 ∧ c_TW t_K dA w2) → W p l e room_1 s m #[Value.ref b] below meth c H' locs' (cells + ct_mc ct) (slots + ct_ms ct) Q (F0 m (pc + 3) ls (rv ++ rest))) :
    W p l e room_1 s m #[Value.ref b] below meth c H locs cells slots Q (F0 m pc ls ((Value.ref x :: As).reverse ++ rest)) := by
  obtain ⟨hx, hb, hml, hown, hts, hK, hN, hAX, -, -, -⟩ := C
  obtain ⟨hP, hD, hT, hS, hi1, hi2, hg⟩ := I
  obtain ⟨hpre, hdep⟩ := hpd
  have hargs := hpre.1
  obtain ⟨m1, m2, m3, m4, m5, m6, m7, m8⟩ := k_mOk a M hM
  obtain ⟨t1, t2, t3, t4⟩ := m8 ct hct
  have hGd := t_met2 (l := l) (D := D) (AA := k_AA s) hM hct hpre hdep hT hD
  have hr : va_Run p l e room_1 s m #[Value.ref b] below meth c H locs cells slots (ct_mc ct) (ct_ms ct) (F0 m pc ls ((Value.ref x :: As).reverse ++ rest)) rest ((fun av st oc t => c_Qc D k_cl dA (k_AA s) k_K ct (k_rv ns) w av st oc t ∧ ∀ i : t_Ix, t_Pi dA a ct w (.ref x :: As) i → c_Qc D k_cl dA (k_AA s) t_K i.1 i.2.1 (t_Wi w i) av st oc t) (Value.ref x :: As).toArray) (k_AA s) := by
    obtain ⟨t, bb, al, ci, N, T, u1, u2, u3⟩ := t4 (by omega)
    have harg := hargs
    rw [u1] at harg
    obtain ⟨x', As', he, ce, hx1, hx2⟩ := c_args_ref harg
    cases he
    obtain ⟨q0, hq0⟩ := c_idx hx1
    have hform := (hT _ hx1).1
    dsimp only at hform
    rw [hx2, u2] at hform
    obtain ⟨fs, rfl, -⟩ := hform
    have hlenA : As.length = (ct_args ct).length - 1 := by
      have : (ct_args ct).length = (Value.ref x :: As).length := k_argsLen hargs
      rw [this, List.length_cons]
      omega
    rw [if_neg (by omega)] at t3
    exact va_runV (bytes := M.2.1) (maxL := M.2.2.1) (ret := M.2.2.2.1) (C := M.1.cls) ⟨hx, hb, hml, hown, hts⟩ hGd ⟨callB_of (rm := c_rm 1000 ct) (ws' := k_Z.2.2.1) _ hts (c_goodIn k_good m1) rfl rfl rfl (hts _ m2) (hts _ hlk) ⟨m3.1, m3.2, t3⟩ ⟨by show 1000 + 1 ≤ 2048; omega, by show 8 + (M.2.2.1 + 11) + 64 * 1000 ≤ 84000; omega⟩, hts _ (m5 hkd).1, hts _ (m5 hkd).2⟩ ⟨c_blind k_nest, va_recv hK hP u3 hq0, (c_Bp_at k_nest hK hN hAX hP hS)⟩ rfl hlenA hls (by show (Value.ref x :: As).reverse ++ rest = _; rw [List.reverse_cons, List.append_assoc]; rfl) (c_F_mr hcat) hd ⟨hc, hs⟩
  intro T0 hT0 X
  obtain ⟨v, st₀, t, T', L0, h0, X', hL, e1, e2, ⟨⟨⟨rv, res, w', hv, hret, hp, hbw⟩, hz, hk⟩, hj⟩, st⟩ := hr T0 hT0 X
  cases hv
  rw [h0] at hz hk
  rw [c_retV_list hret] at st
  obtain ⟨g1, g2⟩ := k_pubPost hpb hret hp hg
  have hS1 : va_S (k_AA s) s.heap T'.heap (locs ++ L0) := ⟨Nat.le_trans hS.1 (by rw [e1]; exact hz), fun q h1 h2 => by rw [e1, hk q (Nat.lt_of_lt_of_le h1 hS.1) h2]; exact hS.2.1 q h1 h2, fun q hq => by
    rcases List.mem_append.mp hq with h | h
    · exact hS.2.2 q h
    · exact hL q h⟩
  obtain ⟨t2, a1', b1⟩ := kk rv res w' T'.heap (locs ++ L0) hret hp ⟨by rw [e1]; exact hbw.1, hbw.2.1, hbw.2.2, hS1, g2 _ _ (by decide) hi1, g2 _ _ (by decide) hi2, g1⟩ (fun i hi => by
    obtain ⟨⟨rv2, res2, w2, hv2, hr2, hp2, hb2⟩, -⟩ := hj i hi
    refine ⟨rv2, res2, w2, ?_, hr2, hp2, by rw [e1]; exact hb2.1, hb2.2.1, hb2.2.2⟩
    exact (Outcome.returned.inj hv2).symm) T' rfl X'
  exact ⟨t2, st t2 a1', b1⟩
end P2
