/-! the constructors with something of their own: strings, rows of rows -/
theorem k_bo41 : k_bodyB k_M41 k_c41_0 k_b41_0 = true := by decide +kernel
theorem k_bo111 : k_bodyB k_M111 k_c111_0 k_b111_0 = true := by decide +kernel
theorem k_an41 : k_anB k_b41_0.2.2.1 [(69, 6930), (77, 7730), (85, 8530)] = true := by decide +kernel
theorem k_an111 : k_anB k_b111_0.2.2.1 [(30, 3031)] = true := by decide +kernel
theorem k_d41_69 : decode k_M41.2.1 69 = .ok (.ldc 42, 2) := by decide +kernel
theorem k_d41_71 : decode k_M41.2.1 71 = .ok (.iconst 0, 1) := by decide +kernel
theorem k_d41_72 : decode k_M41.2.1 72 = .ok (.invokevirtual 44, 3) := by decide +kernel
theorem k_d41_77 : decode k_M41.2.1 77 = .ok (.ldc 48, 2) := by decide +kernel
theorem k_d41_79 : decode k_M41.2.1 79 = .ok (.iload_n 1, 1) := by decide +kernel
theorem k_d41_80 : decode k_M41.2.1 80 = .ok (.invokevirtual 44, 3) := by decide +kernel
theorem k_d41_85 : decode k_M41.2.1 85 = .ok (.ldc 50, 2) := by decide +kernel
theorem k_d41_87 : decode k_M41.2.1 87 = .ok (.iload_n 1, 1) := by decide +kernel
theorem k_d41_88 : decode k_M41.2.1 88 = .ok (.invokevirtual 44, 3) := by decide +kernel
theorem k_d111_30 : decode k_M111.2.1 30 = .ok (.multianewarray 19 2, 4) := by decide +kernel
section KXS
variable {p : Program} {l : Launch} {e : Env} {R : Room} {s : State} {m : MethodId} {args : Array Value} {below : List Frame} {meth : Method} {c : Code} {D : va_G} {dA : Nat → ClassId} {AA : Nat → Prop} {O : cCtr} {w0 : cWld} {cc : ByteArray} {nL : Nat} {Q : State → Prop} {n0 : Nat} {r0 : Nat → Int} {A : cSt} {L : List (Nat × cSt)} {d : Nat}
theorem k_xs_ok {pc idx j : Nat} {tx : String} {e2 : cLin} {adK adV : Nat → Nat} {fm : Nat} (ht : c_tabsOk k_K k_P k_cl k_Z "MayBoats$Book") (hG : ∀ d', d' < d + 1 + 1 + 1 + 1 + 1 → ∀ a, ∀ ct ∈ k_P.2.1 a, c_Good l D k_cl dA AA "MayBoats$Book" k_K k_Z d' ct) (hj : j < 3) (hx : p.tables.exec = Jvm.exec) (hb : c.code = cc) (hml : c.maxLocals = nL) (hown : s.vm.findClass "MayBoats$Reader" = some m.cls) (hts : ∀ w ∈ k_ws, w.before args s = true)
    (hK : va_K D k_cl (c_tys dA "MayBoats$Book") s) (hN : ∀ x ∈ k_Z.2.2.2.1, va_Nw x s) (hA : c_AX AA s) (hSB : k_SB adK adV fm AA s) (hR : vk_R "MayBoats$Reader" idx tx (adK j) s) (hRf : R.frames = d + 1 + 1 + 1 + 1 + 1) (hRl : R.locals = 64 * (d + 1 + 1 + 1 + 1 + 1)) (hR2 : ct_mc O ≤ R.cells ∧ ct_ms O ≤ R.slots)
    (hd1 : decode cc pc = .ok (.ldc idx, 2)) (hd3 : decode cc (pc + 3) = .ok (.invokevirtual 44, 3))
    (hpush : ∀ (lv : List (Nat × Value)) (st : List Value) (w : cWld) (ls : Array Slot), c_sat n0 r0 A lv st w → lv_has ls nL lv → ∃ k : Int32, (∀ r, c_satR A r lv st w → k.toInt = c_ev r e2) ∧ ∀ (H : Heap) (locs : List Loc) (cu su : Nat) (rest : List Value), W p l e R s m args below meth c H locs cu su Q (F0 m (pc + 3) ls (.int k :: rest)) → W p l e R s m args below meth c H locs cu su Q (F0 m (pc + 2) ls rest))
    (h : k_xs O (pc + 3 + 3) j (0, e2) A = some L)
    (hL : ∀ q ∈ L, c_OK ((p, l, e, R, s, m, args, below, meth, c), (D, k_cl, dA, AA), (k_K, O, w0), (cc, nL, Q)) n0 r0 q.1 q.2) : c_OK ((p, l, e, R, s, m, args, below, meth, c), (D, k_cl, dA, AA), (k_K, O, w0), (cc, nL, Q)) n0 r0 pc A := by
  have hnw := ht.2.2.2.2.2.2.2.2.2
  unfold k_xs at h
  split at h
  · rename_i t S hst
    intro lv st w cu su hcu hsu hT hE hs H locs ls hP hD hS hl
    obtain ⟨k, hk, hgo⟩ := hpush lv st w ls hs hl
    have hs2 : c_sat n0 r0 (c_setS A ((0, e2) :: t :: S)) lv (.int k :: st) w := hs.setS fun r hr => ⟨⟨k, rfl, hk r hr⟩, by
      have h9 : c_F2 (c_DV r) (c_stk A) st := hr.2.2.2.2.2.1
      rw [hst] at h9
      exact h9⟩
    subst hcu; subst hsu
    obtain ⟨vals, ss, pv, hst2, hlen, hcat, hpre, -, hcu2, hsu2, hcont⟩ := c_call1_ok hT hD hs2 (avs := [t, (0, e2)]) (S := S) rfl h
    have hargs := hpre.1
    obtain ⟨v0, v1, rfl⟩ : ∃ v0 v1, vals = [v0, v1] := by
      match vals, hlen with
      | [a, b], _ => exact ⟨a, b, rfl⟩
    obtain ⟨⟨a, hv0, ha1, hain⟩, ⟨y, hv1, hy1, hy2, hy3⟩, -⟩ := hargs
    subst hv0; subst hv1
    have hst3 : Value.int k :: st = Value.int y :: Value.ref a :: ss := hst2
    injection hst3 with e1 e3
    injection e1 with e1
    subst e1; subst e3
    obtain ⟨ce, hin1, hin2⟩ := hain
    have hform := (hT _ hin1).1
    dsimp only at hform
    rw [hin2] at hform
    obtain ⟨fs, rfl, -⟩ : ∃ fs : List Value, ce = .inr (4, fs) ∧ fs.length = 12 := hform
    obtain ⟨q0, hq0⟩ := c_idx hin1
    refine va_ldcS hx hb hown hR hd1 ?_
    refine hgo _ _ _ _ _ ?_
    have hy2 : k_wF j ≤ pv 2 := hy2
    have hy3 : pv 2 ≤ k_wF j := hy3
    have hke : c_cell w pv 1 (4, []) (pv 3) := hpre.2.1 0 (1, (4, [])) rfl
    have hM := k_mKey (l := l) (D := D) (dA := dA) (AA := AA) (adK := adK) (adV := adV) (fm := fm) (j := j) (d := d) (a := a) (k := k) (w := w) (pv := pv) ht hj ⟨_, hin1, hin2⟩ (by have h9 : k.toInt = pv 2 := hy1; omega) ha1 hke hT hD (fun d' hd' => hG d' (by omega))
    refine c_callU (D := D) (cl := k_cl) (dA := dA) (K := k_K) (ct := k_cAK j) (r1 := pv) (w := w) (va := [Value.ref a, Value.ref (adK j), Value.int k].toArray) (rest := ss) ?_ hS fun rv res w' H1 locs1 hrv hpost hP1 hD1 hT1 hS1 => ?_
    · exact va_runV (bytes := k_M42.2.1) (maxL := k_M42.2.2.1) (ret := k_M42.2.2.2.1) (C := "MayBoats$Reader") (As := [.ref (adK j), .int k]) (rest := ss) ⟨hx, hb, hml, hown, hts⟩ hM ⟨callB_of (rm := k_rm (d + 1 + 1 + 1 + 1)) (ws' := k_Z.2.2.1) 2 hts (c_goodIn k_good (k_mk (a := 42) rfl).1) rfl rfl rfl (hts _ (k_mk (a := 42) rfl).2.1) (hts _ (k_in 1 55 rfl rfl)) ⟨(k_mk (a := 42) rfl).2.2.1.1, (k_mk (a := 42) rfl).2.2.1.2, (by decide +kernel)⟩ ⟨by rw [hRf]; exact Nat.le_refl _, by rw [hRl]; show 8 + (8 + 11) + 64 * (d + 1 + 1 + 1 + 1) ≤ 64 * (d + 1 + 1 + 1 + 1 + 1); omega⟩, hts _ ((k_mk (a := 42) rfl).2.2.2.2.1 rfl).1, hts _ ((k_mk (a := 42) rfl).2.2.2.2.1 rfl).2⟩ ⟨fun a0 U g mk q => ⟨q.1, ((c_blind (D := D) (cl := k_cl) (dA := dA) (AA := AA) (bk := "MayBoats$Book") (w := w) (vals := [Value.ref a, Value.ref (adK j), Value.int k]) hnw) a0 U g mk ⟨q.1, q.2.1⟩).2, k_SB_same (u := U) rfl (Vm.Alike.refl _) q.2.2⟩, va_recv hK hP k_cc4 hq0, fun U hU hW => ⟨rfl, (c_Bp_at (vals := [Value.ref a, Value.ref (adK j), Value.int k]) hnw hK hN hA hP hS U hU hW).2, k_SB_at hU hW hS hSB⟩⟩ rfl rfl hl.1 rfl (c_F_mr hcat) hd3 ⟨Nat.le_trans hcu2 hR2.1, Nat.le_trans hsu2 hR2.2⟩
    · obtain ⟨⟨q, hq, hq1, k1, k2, k3⟩, k4⟩ := hcont w' rv res hrv hT1 hD1 hpost
      have hfin := hL q hq lv _ w' _ _ k2 k3 hT1 (k4 w0 hE) k1 H1 locs1 ls hP1 hD1 hS1 hl
      rw [hq1] at hfin
      exact hfin
  · cases h
/-- one more cell: what is known stays -/
theorem k_wN_sat {lv : List (Nat × Value)} {st : List Value} {w : cWld} {q t : Nat} {ce : va_E} (hs : c_sat n0 r0 A lv st w) (hq : ∀ x ∈ w.2.1, x.1 ≠ q) : c_sat n0 r0 A lv st (c_wN w q t ce) := hs.to rfl fun r _ hr => by
  obtain ⟨h1, h2, h3, h4, h5, h6, h7⟩ := hr
  exact ⟨h1, h2, fun x hx h0 => by
    obtain ⟨a, g1, g2⟩ := h3 x hx h0
    exact ⟨a, g1, c_wN_in hq g2⟩, h4, h5, h6, fun x hx => c_wN_mem (h7 x hx)⟩
theorem k_P1 {cl : List vw_C} {H : Heap} {q : Nat} {cA : ClassId} {a : vp_A} (h : H[q]? = some (vp_cell cA a)) : va_P D cl [(q, .inl (cA, a))] H := fun k x hx => by
  cases k with
  | zero => cases hx; exact h
  | succ k => cases hx
theorem k_D1 {ws : va_W} {q : Nat} {ce : va_E} (hD : va_D AA ws) (hq : ∀ x ∈ ws, x.1 ≠ q) (hA : AA q) : va_D AA (ws ++ [(q, ce)]) := by
  refine va_D.app hD ⟨fun i j x y hx hy _ => ?_, fun k x hx => ?_⟩ fun i j x y hx hy => ?_
  · cases i with
    | zero => cases j with
      | zero => rfl
      | succ j => cases hy
    | succ i => cases hx
  · cases k with
    | zero => cases hx; exact hA
    | succ k => cases hx
  · cases j with
    | zero => cases hy; exact hq x (List.mem_of_getElem? hx)
    | succ j => cases hy
def k_rE (dA : Nat → ClassId) : va_E := .inl (dA 2, 60, .inr (.inl (fun _ => 0)))
def k_oE (dA : Nat → ClassId) (h : Nat) : va_E := .inl (dA 7, 4, .inr (.inr (.inr (.inr (fun j => some (h + 1 + j))))))
theorem k_t17 (j : Nat) : c_ty k_K 17 j = (1, -9223372036854775808, 9223372036854775807) := by
  unfold c_ty
  have : k_K.2.2.2.1 17 = some (1, -9223372036854775808, 9223372036854775807) := by decide +kernel
  rw [this]
theorem k_t18 (j : Nat) : c_ty k_K 18 j = (3, 17, 0) := by
  unfold c_ty
  have : k_K.2.2.2.1 18 = some (3, 17, 0) := by decide +kernel
  rw [this]
theorem k_s17 : k_K.2.1 17 = (2, 60, 0) := by decide +kernel
theorem k_s18 : k_K.2.1 18 = (7, 4, 0) := by decide +kernel
theorem k_i17 : ∀ i ∈ k_K.2.2.1, i.1 ≠ 17 := c_all_ne (f := fun i : cImp => i.1) (by decide +kernel)
theorem k_i18 : ∀ i ∈ k_K.2.2.1, i.1 ≠ 18 := c_all_ne (f := fun i : cImp => i.1) (by decide +kernel)
theorem k_p17 : ∀ x ∈ k_K.2.2.2.2.1, x.1 ≠ 17 := c_all_ne (f := fun x : Nat × Nat × Nat => x.1) (by decide +kernel)
theorem k_p18 : ∀ x ∈ k_K.2.2.2.2.1, x.1 ≠ 18 := c_all_ne (f := fun x : Nat × Nat × Nat => x.1) (by decide +kernel)
theorem k_rowTW {w : cWld} {q : Nat} (hT : c_TW k_K dA w) (hq : ∀ x ∈ w.2.1, x.1 ≠ q) : c_TW k_K dA (c_wN w q 17 (k_rE dA)) := by
  refine c_wN_TW hT hq (by rw [k_s17]; exact ⟨_, rfl⟩) (fun j v hv => ?_) k_i17 (k_Jnw 17 q _ _ (Or.inl k_p17))
  rw [k_t17]
  have hv : (if j < 60 then some (Value.long 0) else none) = some v := hv
  split at hv
  · cases hv
    exact ⟨0, rfl, by decide, by decide⟩
  · cases hv
theorem k_outTW {w : cWld} {h : Nat} (hT : c_TW k_K dA w) (hq : ∀ x ∈ w.2.1, x.1 ≠ h) (hr : ∀ j, j < 4 → c_in w (h + 1 + j) 17) : c_TW k_K dA (c_wN w h 18 (k_oE dA h)) := by
  refine c_wN_TW hT hq (by rw [k_s18]; exact ⟨_, rfl⟩) (fun j v hv => ?_) k_i18 (k_Jnw 18 h _ _ (Or.inl k_p18))
  rw [k_t18]
  have hv : (if j < 4 then some (Value.ref (h + 1 + j)) else none) = some v := hv
  split at hv
  · rename_i hj
    cases hv
    exact ⟨h + 1 + j, rfl, hr j hj⟩
  · cases hv
theorem k_wN_self {w : cWld} {q t : Nat} {ce : va_E} : c_in (c_wN w q t ce) q t := ⟨ce, List.mem_append_right _ (List.mem_singleton.mpr rfl), if_pos rfl⟩
theorem k_wN_ne {w : cWld} {q t z : Nat} {ce : va_E} (h : ∀ x ∈ w.2.1, x.1 ≠ z) (hz : q ≠ z) : ∀ x ∈ (c_wN w q t ce).2.1, x.1 ≠ z := by
  intro x hx
  rcases List.mem_append.mp hx with hx | hx
  · exact h x hx
  · cases List.mem_singleton.mp hx
    exact hz
theorem k_x31_ok (hx : p.tables.exec = Jvm.exec) (hb : c.code = cc) (hown : s.vm.findClass "MayBoats" = some m.cls) (hts : ∀ w ∈ k_ws, w.before args s = true) (hK : va_K D k_cl (c_tys dA "MayBoats$Book") s) (hA : c_AX AA s) (hR2 : ct_mc O ≤ R.cells ∧ ct_ms O ≤ R.slots)
    (hd : decode cc 30 = .ok (.multianewarray 19 2, 4)) (h : k_x31 O A = some L)
    (hL : ∀ q ∈ L, c_OK ((p, l, e, R, s, m, args, below, meth, c), (D, k_cl, dA, AA), (k_K, O, w0), (cc, nL, Q)) n0 r0 q.1 q.2) : c_OK ((p, l, e, R, s, m, args, below, meth, c), (D, k_cl, dA, AA), (k_K, O, w0), (cc, nL, Q)) n0 r0 30 A := by
  unfold k_x31 at h
  split at h
  · rename_i S hst
    split at h
    · rename_i hc
      cases h
      rw [Bool.and_eq_true] at hc
      have hc1 := Nat.le_of_ble_eq_true hc.1
      have hc2 := Nat.le_of_ble_eq_true hc.2
      intro lv st w cu su hcu hsu hT hE hs H locs ls hP hD hS hl
      subst hcu; subst hsu
      obtain ⟨x, y, ss, rfl, kk⟩ := c_topi2 hs hst rfl rfl
      obtain ⟨r, -, hr⟩ := hs.at
      obtain ⟨g1, g2, g3⟩ := kk r hr
      have g1 : x.toInt = 4 := g1.trans (c_ev_nil (idx := ((4, []) : cLin)) rfl r)
      have g2 : y.toInt = 60 := g2.trans (c_ev_nil (idx := ((60, []) : cLin)) rfl r)
      have ex : x = 4 := Int32.toInt_inj.mp g1
      have ey : y = 60 := Int32.toInt_inj.mp g2
      subst ex; subst ey
      obtain ⟨hA1, adK, adV, fm, -, -, -, -, -, hov⟩ := hA
      refine k_multi hx hb hown (hts _ (k_in 1 46 rfl rfl)) hov (hts _ (k_in 1 149 rfl rfl)) hd (Nat.le_trans hc1 hR2.1) (Nat.le_trans hc2 hR2.2) fun H' cA cB hcA hcB hsz hold hout hrow => ?_
      have eA : cA = dA 7 := by
        have e1 : s.vm.findClass "[[J" = some (dA 7) := (hK.2 6 _ rfl).2
        exact Option.some.inj (hcA.symm.trans e1)
      have eB : cB = dA 2 := by
        have e1 : s.vm.findClass "[J" = some (dA 2) := (hK.2 1 _ rfl).2
        exact Option.some.inj (hcB.symm.trans e1)
      subst eA; subst eB
      have hlt : ∀ z ∈ w.2.1, z.1 < H.size := fun z hz => by
        obtain ⟨k, hk⟩ := List.getElem?_of_mem hz
        exact (hP k z hk).lt
      have hne : ∀ i, ∀ z ∈ w.2.1, z.1 ≠ H.size + i := fun i z hz => by
        have := hlt z hz
        omega
      have hAn : ∀ i, AA (H.size + i) := fun i => hA1 _ (Nat.le_trans hS.1 (Nat.le_add_right _ _))
      have hPold : va_P D k_cl w.2.1 H' := hP.kept fun k z hz => hold z.1 ((hP k z hz).lt)
      have q1 : ∀ z ∈ w.2.1, z.1 ≠ H.size + 1 + 0 := fun z hz => by have := hlt z hz; omega
      have q2 : ∀ z ∈ (c_wN w (H.size + 1 + 0) 17 (k_rE dA)).2.1, z.1 ≠ H.size + 1 + 1 := k_wN_ne (fun z hz => by have := hlt z hz; omega) (by omega)
      have q3 : ∀ z ∈ (c_wN (c_wN w (H.size + 1 + 0) 17 (k_rE dA)) (H.size + 1 + 1) 17 (k_rE dA)).2.1, z.1 ≠ H.size + 1 + 2 := k_wN_ne (k_wN_ne (fun z hz => by have := hlt z hz; omega) (by omega)) (by omega)
      have q4 : ∀ z ∈ (c_wN (c_wN (c_wN w (H.size + 1 + 0) 17 (k_rE dA)) (H.size + 1 + 1) 17 (k_rE dA)) (H.size + 1 + 2) 17 (k_rE dA)).2.1, z.1 ≠ H.size + 1 + 3 := k_wN_ne (k_wN_ne (k_wN_ne (fun z hz => by have := hlt z hz; omega) (by omega)) (by omega)) (by omega)
      have q5 : ∀ z ∈ (c_wN (c_wN (c_wN (c_wN w (H.size + 1 + 0) 17 (k_rE dA)) (H.size + 1 + 1) 17 (k_rE dA)) (H.size + 1 + 2) 17 (k_rE dA)) (H.size + 1 + 3) 17 (k_rE dA)).2.1, z.1 ≠ H.size := k_wN_ne (k_wN_ne (k_wN_ne (k_wN_ne (fun z hz => by have := hlt z hz; omega) (by omega)) (by omega)) (by omega)) (by omega)
      have i0 := c_wN_in (t := 17) (ce := k_rE dA) q4 (c_wN_in (t := 17) (ce := k_rE dA) q3 (c_wN_in (t := 17) (ce := k_rE dA) q2 (k_wN_self (w := w) (q := H.size + 1 + 0) (t := 17) (ce := k_rE dA))))
      have i1 := c_wN_in (t := 17) (ce := k_rE dA) q4 (c_wN_in (t := 17) (ce := k_rE dA) q3 (k_wN_self (w := c_wN w (H.size + 1 + 0) 17 (k_rE dA)) (q := H.size + 1 + 1) (t := 17) (ce := k_rE dA)))
      have i2 := c_wN_in (t := 17) (ce := k_rE dA) q4 (k_wN_self (w := c_wN (c_wN w (H.size + 1 + 0) 17 (k_rE dA)) (H.size + 1 + 1) 17 (k_rE dA)) (q := H.size + 1 + 2) (t := 17) (ce := k_rE dA))
      have i3 := k_wN_self (w := c_wN (c_wN (c_wN w (H.size + 1 + 0) 17 (k_rE dA)) (H.size + 1 + 1) 17 (k_rE dA)) (H.size + 1 + 2) 17 (k_rE dA)) (q := H.size + 1 + 3) (t := 17) (ce := k_rE dA)
      have T1 := k_rowTW hT q1
      have T2 := k_rowTW T1 q2
      have T3 := k_rowTW T2 q3
      have T4 := k_rowTW T3 q4
      have T5 := k_outTW T4 q5 (fun j hj => by
        rcases (show j = 0 ∨ j = 1 ∨ j = 2 ∨ j = 3 by omega) with rfl | rfl | rfl | rfl
        · exact i0
        · exact i1
        · exact i2
        · exact i3)
      have E5 := c_wN_ext (t := 18) (ce := k_oE dA H.size) (c_wN_ext (t := 17) (ce := k_rE dA) (c_wN_ext (t := 17) (ce := k_rE dA) (c_wN_ext (t := 17) (ce := k_rE dA) (c_wN_ext (t := 17) (ce := k_rE dA) hE q1) q2) q3) q4) q5
      have S4 := k_wN_sat (t := 17) (ce := k_rE dA) (k_wN_sat (t := 17) (ce := k_rE dA) (k_wN_sat (t := 17) (ce := k_rE dA) (k_wN_sat (t := 17) (ce := k_rE dA) hs q1) q2) q3) q4
      have S5 := S4.newR (t := 18) (ce := k_oE dA H.size) (cs := 5) (sl := 244) (S := S) (ss := ss) q5 (fun r hr => by
        have h9 : c_F2 (c_DV r) (c_stk A) (.int 60 :: .int 4 :: ss) := hr.2.2.2.2.2.1
        rw [hst] at h9
        exact h9.2.2)
      have P5 : va_P D k_cl (((((w.2.1 ++ [(H.size + 1 + 0, k_rE dA)]) ++ [(H.size + 1 + 1, k_rE dA)]) ++ [(H.size + 1 + 2, k_rE dA)]) ++ [(H.size + 1 + 3, k_rE dA)]) ++ [(H.size, k_oE dA H.size)]) H' := ((((hPold.app (k_P1 (hrow 0 (by decide)))).app (k_P1 (hrow 1 (by decide)))).app (k_P1 (hrow 2 (by decide)))).app (k_P1 (hrow 3 (by decide)))).app (k_P1 hout)
      have D5 : va_D AA (((((w.2.1 ++ [(H.size + 1 + 0, k_rE dA)]) ++ [(H.size + 1 + 1, k_rE dA)]) ++ [(H.size + 1 + 2, k_rE dA)]) ++ [(H.size + 1 + 3, k_rE dA)]) ++ [(H.size, k_oE dA H.size)]) := k_D1 (k_D1 (k_D1 (k_D1 (k_D1 hD q1 (hA1 _ (by have := hS.1; omega))) q2 (hA1 _ (by have := hS.1; omega))) q3 (hA1 _ (by have := hS.1; omega))) q4 (hA1 _ (by have := hS.1; omega))) q5 (hA1 _ hS.1)
      refine hL _ List.mem_cons_self lv (.ref H.size :: ss) _ _ _ rfl rfl T5 E5 S5 H' locs ls P5 D5 ⟨by have := hS.1; omega, fun q h1 h2 => (hold q (Nat.lt_of_lt_of_le h1 hS.1)).trans (hS.2.1 q h1 h2), hS.2.2⟩ hl
    · cases h
  · cases h
end KXS
theorem k_g41 {l : Launch} {D : va_G} {dA : Nat → ClassId} {AA : Nat → Prop} {d : Nat} (ht : c_tabsOk k_K k_P k_cl k_Z "MayBoats$Book") (hG : ∀ d', d' < d → ∀ a, ∀ ct ∈ k_P.2.1 a, c_Good l D k_cl dA AA "MayBoats$Book" k_K k_Z d' ct) : c_Good l D k_cl dA AA "MayBoats$Book" k_K k_Z d k_c41_0 := by
  by_cases hd9 : d < 9
  · intro M hM w r0 vals hpre hdep
    exfalso
    have h9 : (9 : Int) + 0 ≤ (d : Int) := hdep
    omega
  · obtain ⟨d0, rfl⟩ : ∃ d0, d = d0 + 1 + 1 + 1 + 1 + 1 := ⟨d - 5, by omega⟩
    refine c_goodX_ok ht (M := k_M41) rfl (fun w rr vals _ _ _ => ⟨k_XS k_c41_0, k_b41_0, 4000, k_bodyB_ok k_bo41, k_r41_0, ?_⟩) hG
    intro p e R s m args below meth c Q hx hb hml hown hts hK hN hAX hR n0 r0 hn hag
    refine ⟨fun pc k A x L hk hf hd hX hL => ?_, fun pc A B k hX hB => by cases hX⟩
    obtain ⟨hA1, adK, adV, fm, h1, ⟨h2, h3, h4⟩, h5, h6, h7, h8⟩ := id hAX
    have hRf : R.frames = d0 + 1 + 1 + 1 + 1 + 1 := by rw [hR]; rfl
    have hRl : R.locals = 64 * (d0 + 1 + 1 + 1 + 1 + 1) := by rw [hR]; rfl
    have hR2 : ct_mc k_c41_0 ≤ R.cells ∧ ct_ms k_c41_0 ≤ R.slots := by rw [hR]; exact ⟨Nat.le_refl _, Nat.le_refl _⟩
    have hloc : ∀ (B : cSt) (pc3 pc2 : Nat) (e2 : cLin), c_locGet 1 (c_loc B) = some (0, e2) → decode k_M41.2.1 pc2 = .ok (.iload_n 1, 1) → pc3 = pc2 + 1 → ∀ (lv : List (Nat × Value)) (st : List Value) (w : cWld) (ls : Array Slot), c_sat n0 r0 B lv st w → lv_has ls k_b41_0.1 lv → ∃ k : Int32, (∀ r, c_satR B r lv st w → k.toInt = c_ev r e2) ∧ ∀ (H : Heap) (locs : List Loc) (cu su : Nat) (rest : List Value), W p l e R s m args below meth c H locs cu su Q (F0 m pc3 ls (.int k :: rest)) → W p l e R s m args below meth c H locs cu su Q (F0 m pc2 ls rest) := by
      intro B pc3 pc2 e2 hB hdd hpc lv st w ls hs hl
      subst hpc
      obtain ⟨v, hv, kk⟩ := c_loc_at hs hl hB
      obtain ⟨r, -, hr⟩ := hs.at
      obtain ⟨k, rfl, -⟩ := c_DVi (kk r hr) rfl
      refine ⟨k, fun r hr => ?_, fun H locs cu su rest hW => lv_iload_n hx hb hdd rfl hv hW⟩
      obtain ⟨k', hk', h9⟩ := c_DVi (kk r hr) rfl
      cases hk'
      exact h9
    rcases List.mem_cons.mp (k_anB_ok k_an41 hk) with hm | hm
    · cases hm
      have hX : k_xs k_c41_0 (69 + 3 + 3) 0 (0, (0, [])) A = some L := hX
      exact k_xs_ok (fm := fm) (j := 0) ht hG (by decide) hx hb hml hown hts hK hN hAX ⟨h1, h5, h6⟩ h2 hRf hRl hR2 k_d41_69 k_d41_72 (fun lv st w ls hs hl => ⟨0, fun r hr => by rw [c_ev_nil (idx := ((0, []) : cLin)) rfl r]; rfl, fun H locs cu su rest hW => lv_iconst (v := 0) hx hb k_d41_71 (by decide) hW⟩) hX hL
    · rcases List.mem_cons.mp hm with hm | hm
      · cases hm
        have hX : k_xsL k_c41_0 83 1 A = some L := hX
        unfold k_xsL at hX
        split at hX
        · rename_i e2 he2
          split at hX
          · rename_i hb0
            obtain ⟨t0, e3⟩ := e2
            have : t0 = 0 := Nat.eq_of_beq_eq_true hb0
            subst this
            exact k_xs_ok (fm := fm) (j := 1) ht hG (by decide) hx hb hml hown hts hK hN hAX ⟨h1, h5, h6⟩ h3 hRf hRl hR2 k_d41_77 k_d41_80 (hloc A _ 79 e3 he2 k_d41_79 rfl) hX hL
          · cases hX
        · cases hX
      · have hm := List.mem_singleton.mp hm
        cases hm
        have hX : k_xsL k_c41_0 91 2 A = some L := hX
        unfold k_xsL at hX
        split at hX
        · rename_i e2 he2
          split at hX
          · rename_i hb0
            obtain ⟨t0, e3⟩ := e2
            have : t0 = 0 := Nat.eq_of_beq_eq_true hb0
            subst this
            exact k_xs_ok (fm := fm) (j := 2) ht hG (by decide) hx hb hml hown hts hK hN hAX ⟨h1, h5, h6⟩ h4 hRf hRl hR2 k_d41_85 k_d41_88 (hloc A _ 87 e3 he2 k_d41_87 rfl) hX hL
          · cases hX
        · cases hX
theorem k_g111 {l : Launch} {D : va_G} {dA : Nat → ClassId} {AA : Nat → Prop} {d : Nat} (ht : c_tabsOk k_K k_P k_cl k_Z "MayBoats$Book") (hG : ∀ d', d' < d → ∀ a, ∀ ct ∈ k_P.2.1 a, c_Good l D k_cl dA AA "MayBoats$Book" k_K k_Z d' ct) : c_Good l D k_cl dA AA "MayBoats$Book" k_K k_Z d k_c111_0 := by
  refine c_goodX_ok ht (M := k_M111) rfl (fun w rr vals _ _ _ => ⟨k_XR k_c111_0, k_b111_0, 4000, k_bodyB_ok k_bo111, k_r111_0, ?_⟩) hG
  intro p e R s m args below meth c Q hx hb hml hown hts hK hN hAX hR n0 r0 hn hag
  refine ⟨fun pc k A x L hk hf hd hX hL => ?_, fun pc A B k hX hB => by cases hX⟩
  have hm := List.mem_singleton.mp (k_anB_ok k_an111 hk)
  cases hm
  have hR2 : ct_mc k_c111_0 ≤ R.cells ∧ ct_ms k_c111_0 ≤ R.slots := by rw [hR]; exact ⟨Nat.le_refl _, Nat.le_refl _⟩
  exact k_x31_ok hx hb hown hts hK hAX hR2 k_d111_30 hX hL
