/-! a block is copied: the types by hand, too -/
def k_Kw : cTab := (k_K.1, k_K.2.1, k_K.2.2.1, fun t => if Nat.beq t 58 then some k_int else k_K.2.2.2.1 t, [], fun _ _ _ _ => True)
theorem k_Kw_ty {t j : Nat} (h : t ≠ 58) : c_ty k_Kw t j = c_ty k_K t j := by
  unfold c_ty
  show (match (if Nat.beq t 58 then some k_int else k_K.2.2.2.1 t) with
    | some x => x
    | none => k_K.1 t j) = _
  rw [if_neg (fun h9 => h (Nat.eq_of_beq_eq_true h9))]
  cases k_K.2.2.2.1 t <;> rfl
theorem k_Kw_58 (j : Nat) : c_ty k_Kw 58 j = k_int := rfl
theorem k_okint (w : cWld) (x : Int32) : c_okV w k_int (.int x) := ⟨x, rfl, x.le_toInt, by have := x.toInt_lt; show x.toInt ≤ 2147483647; omega⟩
theorem k_TWw {dA : Nat → ClassId} {w : cWld} (h : c_TW k_K dA w) : c_TW k_Kw dA w := fun q hq => by
  obtain ⟨a, b, c, -⟩ := h q hq
  refine ⟨a, fun j v hv => ?_, c, trivial⟩
  by_cases ht : w.1 q.1 = 58
  · rw [ht] at a ⊢
    obtain ⟨f, hf⟩ := k_form a
    rw [hf] at hv
    have hv : (if j < 10000 then some (Value.int (f j)) else none) = some v := hv
    by_cases hj : j < 10000
    · rw [if_pos hj] at hv
      cases hv
      rw [k_Kw_58]
      exact k_okint w _
    · rw [if_neg hj] at hv
      cases hv
  · rw [k_Kw_ty ht]
    exact b j v hv
theorem k_TWs {dA : Nat → ClassId} {w : cWld} {g : Nat → Int} (h : c_TW k_Kw dA w) (ht : ∀ q ∈ w.2.1, w.1 q.1 = 58 → ∀ j v, c_rd q.2 j = some v → c_okV w (k_typC j) v) (hJ : ∀ q ∈ w.2.1, k_K.2.2.2.2.2 (w.1 q.1) q.1 (c_rd q.2) g) : c_TW k_K dA (w.1, w.2.1, g) := fun q hq => by
  obtain ⟨a, b, c, -⟩ := h q hq
  refine ⟨a, fun j v hv => c_in_mono_okV (fun _ _ h => h) ?_, fun i hi1 hi2 y hy hy0 v hv => c_in_mono_okV (fun _ _ h => h) (c i hi1 hi2 y hy hy0 v hv), hJ q hq⟩
  by_cases h58 : w.1 q.1 = 58
  · rw [show (w.1, w.2.1, g).1 q.1 = 58 from h58, k_ty58]
    exact ht q hq h58 j v hv
  · have := b j v hv
    rw [k_Kw_ty h58] at this
    exact this
/-- the type of a place of a block -/
def k_tyB (k : Nat) : cVT := if Nat.ble 1591 k && Nat.ble k 1711 then (if Nat.beq (k % 4) 2 then (0, 0, 30) else k_int) else k_reg k k_regC
theorem k_typC_b {b k : Nat} (hk : k < 2000) : k_typC (2000 * b + k) = if b = 0 ∧ 8 ≤ k ∧ k ≤ 11 then k_int else k_tyB k := by
  have hm : (2000 * b + k) % 2000 = k := by omega
  unfold k_typC
  rw [hm]
  by_cases h : b = 0 ∧ 8 ≤ k ∧ k ≤ 11
  · rw [if_pos h, if_pos]
    rw [Bool.and_eq_true]
    exact ⟨Nat.ble_eq_true_of_le (by omega), Nat.ble_eq_true_of_le (by omega)⟩
  · rw [if_neg h, if_neg]
    · rfl
    · intro h9
      rw [Bool.and_eq_true] at h9
      have h1 := Nat.le_of_ble_eq_true h9.1
      have h2 := Nat.le_of_ble_eq_true h9.2
      exact h (by omega)
theorem k_tyB8 {k : Nat} (h1 : 8 ≤ k) (h2 : k ≤ 11) : k_tyB k = (0, 0, 11) := by
  rcases (show k = 8 ∨ k = 9 ∨ k = 10 ∨ k = 11 by omega) with q | q | q | q <;> subst q <;> decide +kernel
/-- one block's place into another's -/
def k_x9 (O : cCtr) (pc : Nat) (A : cSt) : Option (List (Nat × cSt)) := match k_arr A, k_gh A 1, k_gh A 86, k_gh A 87 with
  | some y, some e1, some e86, some e87 => (match k_tp A y with
    | some (a, i) => if k_eq A i (c_add (c_mul 2000 (c_addc e1 (-3))) e87) && c_in3 A 3 6 e1 && c_in3 A 0 3 e86 && c_in3 A 0 1999 e87 && (k_ge0 A (c_addc (c_sub e1 e86) (-4)) || k_ge0 A (c_addc (c_sub e86 e1) 2)) && k_src A y (c_add i (c_mul 2000 (c_sub e86 (c_addc e1 (-3))))) a.2 then k_hst k_Kw O [(87, c_addc e87 1), (61, c_con 0), (65, c_con 0)] A pc else none
    | none => none)
  | _, _, _, _ => none
section KB
variable {p : Program} {l : Launch} {e : Env} {R : Room} {s : State} {m : MethodId} {args : Array Value} {below : List Frame} {meth : Method} {c : Code} {D : va_G} {cl : List vw_C} {dA : Nat → ClassId} {AA : Nat → Prop} {O : cCtr} {w0 : cWld} {cc : ByteArray} {nL : Nat} {Q : State → Prop} {n0 : Nat} {r0 : Nat → Int}
  {A B : cSt} {pc len : Nat} {L : List (Nat × cSt)} {bk : String}
theorem k_x9_ok (hx : p.tables.exec = Jvm.exec) (hb : c.code = cc) (hK : va_K D cl (c_tys dA bk) s) (h : k_x9 O pc A = some L) (hd : decode cc pc = .ok (.iastore, 1)) (hL : ∀ q ∈ L, c_OK ((p, l, e, R, s, m, args, below, meth, c), (D, cl, dA, AA), (k_K, O, w0), (cc, nL, Q)) n0 r0 q.1 q.2) : c_OK ((p, l, e, R, s, m, args, below, meth, c), (D, cl, dA, AA), (k_K, O, w0), (cc, nL, Q)) n0 r0 pc A := by
  unfold k_x9 at h
  split at h
  · rename_i y e1 e86 e87 ha hg1 hg86 hg87
    split at h
    · rename_i a i ht
      split at h
      · rename_i hc
        rw [Bool.and_eq_true, Bool.and_eq_true, Bool.and_eq_true, Bool.and_eq_true, Bool.and_eq_true, Bool.or_eq_true] at hc
        obtain ⟨⟨⟨⟨⟨c0, c1⟩, c2⟩, c3⟩, c4⟩, c5⟩ := hc
        obtain ⟨S, hst, ha0⟩ := k_tp_inv ht
        have hst : c_stk A = a :: (0, i) :: (2, c_sym y) :: S := hst
        refine k_hst_ok (K' := k_Kw) (fun _ _ _ _ _ _ _ => trivial) (fun w => k_TWw) hx hb hK h hd (fun r lv w a' i' o S' x z ix y' ss q0 f hs' hx1 ha0 hr hT hD hq0 hw1 hr1 hz hi hi0 hi1 hTW => ?_) hL
        rw [hst] at hs'
        cases hs'
        obtain ⟨v, g, x1, x2, x3, x4, x5, x6, x7, x8⟩ := k_cell hT hD ha hr
        have hxy : x.1 = y := by
          have := (c_ref_ok hx1).2.1
          have := congrArg (fun q => q.2.2) this
          have h9 : [(y, (1 : Int))] = [(x.1, 1)] := this
          cases h9
          rfl
        rw [hxy] at hr1
        have hvy : v = y' := by omega
        subst hvy
        have h58 : x.2 = 58 := hw1.symm.trans x3
        rw [h58] at hq0 hTW hi1 ⊢
        have hN : (k_Kw.2.1 58).2.1 = 10000 := by decide +kernel
        rw [hN] at hq0 hTW hi1 ⊢
        have := c_uniq hD (c_mem_of_at hq0) x2
        cases this
        have hcl := c_clamp hi0
        have hlt : ix.toNatClampNeg < 10000 := by omega
        have f0 := k_eq_ok hr c0
        have f1 := c_in3_ok hr c1
        have f2 := c_in3_ok hr c2
        have f3 := c_in3_ok hr c3
        have g1 := k_gh_ok hr hg1
        have g86 := k_gh_ok hr hg86
        have g87 := k_gh_ok hr hg87
        rw [c_ev_add, c_ev_mul, c_ev_addc] at f0
        have f4 : c_ev r e86 ≠ c_ev r e1 - 3 := by
          rcases c4 with c4 | c4
          · have := k_ge0_ok hr c4
            rw [c_ev_addc, c_ev_sub] at this
            omega
          · have := k_ge0_ok hr c4
            rw [c_ev_addc, c_ev_sub] at this
            omega
        obtain ⟨b, hb9⟩ : ∃ b : Nat, (b : Int) = c_ev r e1 - 3 := ⟨(c_ev r e1 - 3).toNat, by omega⟩
        obtain ⟨fr, hf9⟩ : ∃ fr : Nat, (fr : Int) = c_ev r e86 := ⟨(c_ev r e86).toNat, by omega⟩
        obtain ⟨k, hk9⟩ : ∃ k : Nat, (k : Int) = c_ev r e87 := ⟨(c_ev r e87).toNat, by omega⟩
        have hixe : ix.toNatClampNeg = 2000 * b + k := by omega
        have f5 := k_src_ok (j := 2000 * fr + k) hr c5 x8 (by rw [c_ev_add, c_ev_mul, c_ev_sub, c_ev_addc]; omega)
        have hn1 : w.2.2 1 ≠ 1 := by omega
        have hJ := x6 hn1
        have hfrt := x7 (2000 * fr + k) (by omega)
        have h811 := hJ.1 (by omega)
        -- the new value's type
        have htz : c_okV w (k_typC (2000 * b + k)) (.int z) := by
          rw [k_typC_b (by omega)]
          by_cases hb8 : b = 0 ∧ 8 ≤ k ∧ k ≤ 11
          · rw [if_pos hb8]
            exact k_okint w z
          · rw [if_neg hb8]
            by_cases hf8 : fr = 0 ∧ 8 ≤ k ∧ k ≤ 11
            · rw [k_tyB8 hf8.2.1 hf8.2.2]
              have h9 := h811 k hf8.2.1 hf8.2.2
              rw [hf8.1, Nat.mul_zero, Nat.zero_add] at f5
              exact ⟨z, rfl, by show 0 ≤ z.toInt; omega, by show z.toInt ≤ 11; omega⟩
            · have hmem := hT _ x2
              have hv := hmem.2.1 (2000 * fr + k) (.int (f (2000 * fr + k))) (by show (if 2000 * fr + k < 10000 then some _ else none) = _; rw [if_pos (by omega)]; rfl)
              dsimp only at hv
              rw [x3, k_ty58, k_typC_b (by omega), if_neg hf8] at hv
              have hzz : z = f (2000 * fr + k) := by
                refine Int32.toInt_inj.mp ?_
                rw [hz, ← f5]
                unfold k_F
                rw [if_pos (by omega)]
              rw [hzz]
              exact hv
        refine k_TWs hTW (fun q hq h9 j u hu => ?_) (fun q hq => ?_)
        · rcases c_set_in hD hq0 hq with rfl | ⟨hq1, hq2⟩
          · have hu : (if j < 10000 then some (Value.int (upd f ix.toNatClampNeg z j)) else none) = some u := hu
            by_cases hj : j < 10000
            · rw [if_pos hj] at hu
              cases hu
              by_cases hji : j = ix.toNatClampNeg
              · rw [hji]
                simp only [upd, if_pos]
                rw [hixe]
                exact c_in_mono_okV (fun a t hh => by
                  obtain ⟨e2, h1, h2⟩ := hh
                  by_cases hb : a = v
                  · subst hb
                    exact ⟨_, c_set_new hq0, h2⟩
                  · exact ⟨e2, c_set_old hq0 h1 hb, h2⟩) htz
              · have hmem := (hT _ x2).2.1 j (.int (f j)) (by show (if j < 10000 then some _ else none) = _; rw [if_pos hj]; rfl)
                dsimp only at hmem
                rw [x3, k_ty58] at hmem
                simp only [upd, if_neg hji]
                exact c_in_mono_okV (fun a t hh => by
                  obtain ⟨e2, h1, h2⟩ := hh
                  by_cases hb : a = v
                  · subst hb
                    exact ⟨_, c_set_new hq0, h2⟩
                  · exact ⟨e2, c_set_old hq0 h1 hb, h2⟩) hmem
            · rw [if_neg hj] at hu
              cases hu
          · have hmem := (hT _ hq1).2.1 j u hu
            have h9 : w.1 q.1 = 58 := h9
            rw [h9, k_ty58] at hmem
            exact c_in_mono_okV (fun a t hh => by
              obtain ⟨e2, h1, h2⟩ := hh
              by_cases hb : a = v
              · subst hb
                exact ⟨_, c_set_new hq0, h2⟩
              · exact ⟨e2, c_set_old hq0 h1 hb, h2⟩) hmem
        · rcases c_set_in hD hq0 hq with rfl | ⟨hq1, hq2⟩
          · show k_J k_tc k_tm k_ci (w.1 v) v _ _
            rw [x3]
            refine ⟨fun _ => ?_, fun h9 => absurd h9 (by decide)⟩
            rw [k_F_iv, k_F_up hlt, hixe]
            refine ⟨fun h1 => absurd h1 hn1, fun h1 h2 => ?_⟩
            have hzF : z.toInt = k_F f (2000 * fr + k) := by omega
            exact k_jcpb (g := w.2.2) (fr := fr) (by omega) (by omega) (by omega) (by omega) hzF (fun hb0 h7 h8 => by
              have h9 := hfrt (by rw [k_typC_b (by omega), if_neg (by omega), k_tyB8 h7 h8])
              rw [k_typC_b (by omega), if_neg (by omega), k_tyB8 h7 h8] at h9
              dsimp only at h9
              omega) (by omega) (by omega) (by omega) (by show c_ev r (c_addc e87 1) = _; rw [c_ev_addc]; omega) rfl rfl (c_ev_con r 0) (c_ev_con r 0) ⟨rfl, rfl, rfl, rfl, rfl, rfl, rfl⟩ ⟨rfl, rfl, rfl, rfl⟩ ⟨rfl, rfl⟩ rfl (k_tbl_gs rfl hJ.2.2.2.2.2.2.2.2.2.2.2) hJ
          · refine k_oth (hT q hq1).2.2.2 Iff.rfl rfl (fun _ hn h9 => hq2 ?_)
            have := x4 hn
            omega
      · cases h
    · cases h
  · cases h
/-- a load of which no more is wanted than that it is an int -/
def k_x18 (pc : Nat) (A : cSt) : Option (List (Nat × cSt)) := c_ald k_Kw A (pc + 1) (fun k => Nat.beq k 1)
theorem k_x18_ok (hx : p.tables.exec = Jvm.exec) (hb : c.code = cc) (hK : va_K D cl (c_tys dA bk) s) (h : k_x18 pc A = some L) (hd : decode cc pc = .ok (.iaload, 1)) (hL : ∀ q ∈ L, c_OK ((p, l, e, R, s, m, args, below, meth, c), (D, cl, dA, AA), (k_K, O, w0), (cc, nL, Q)) n0 r0 q.1 q.2) : c_OK ((p, l, e, R, s, m, args, below, meth, c), (D, cl, dA, AA), (k_K, O, w0), (cc, nL, Q)) n0 r0 pc A := by
  obtain ⟨i, o, S, x, B, hst, hx1, hok, hi, hB, rfl⟩ := c_ald_inv h
  intro lv st w cu su hcu hsu hT hE hs H locs ls hP hD hS hl
  obtain ⟨ix, y, ss, ce, q0, rfl, hq0, hform, hin, hlt, hv⟩ := c_ald_sem hs (k_TWw hT) hD hst hx1 hi hB
  have hk := Nat.eq_of_beq_eq_true hok
  unfold c_form at hform
  rw [hk] at hform
  obtain ⟨f, rfl⟩ := hform
  obtain ⟨s1, s2, s3⟩ := hv _ (if_pos hlt)
  exact va_iald hx hb hK hP q0 0 hq0 rfl hin hd (hL _ List.mem_cons_self lv _ w cu su (s2.trans hcu) (s3.trans hsu) hT hE s1 H locs ls hP hD hS hl)
end KB
