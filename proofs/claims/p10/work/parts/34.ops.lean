/-! the claim's own word: frames, and the general form of moves and stores by hand -/
theorem k_hit {x : Nat × Nat × Nat} {t i : Nat} (hx : x ∈ k_prot) (h1 : x.1 = t) (h2 : x.2.1 ≤ i) (h3 : i ≤ x.2.2) : c_hits k_prot t i := ⟨x, hx, h1, h2, h3⟩
theorem k_pc_hits {i : Nat} (h : k_pc i) : c_hits k_prot k_tc i := by
  rcases h with h | h | ⟨b, k, hb, rfl, hk⟩
  · exact ⟨(58, 8, 11), by decide, rfl, h.1, h.2⟩
  · exact ⟨(58, 8003, 8003), by decide, rfl, by dsimp only; omega, by dsimp only; omega⟩
  · unfold k_lp k_np at hk
    rcases (show b = 0 ∨ b = 1 ∨ b = 2 ∨ b = 3 ∨ b = 4 by omega) with rfl | rfl | rfl | rfl | rfl
    · rcases hk with (hk | hk) | (hk | hk)
      · exact ⟨(58, 19, 23), by decide, rfl, by dsimp only; omega, by dsimp only; omega⟩
      · exact ⟨(58, 30, 629), by decide, rfl, by dsimp only; omega, by dsimp only; omega⟩
      · exact ⟨(58, 1713, 1713), by decide, rfl, by dsimp only; omega, by dsimp only; omega⟩
      · exact ⟨(58, 1794, 1999), by decide, rfl, by dsimp only; omega, by dsimp only; omega⟩
    · rcases hk with (hk | hk) | (hk | hk)
      · exact ⟨(58, 2019, 2023), by decide, rfl, by dsimp only; omega, by dsimp only; omega⟩
      · exact ⟨(58, 2030, 2629), by decide, rfl, by dsimp only; omega, by dsimp only; omega⟩
      · exact ⟨(58, 3713, 3713), by decide, rfl, by dsimp only; omega, by dsimp only; omega⟩
      · exact ⟨(58, 3794, 3999), by decide, rfl, by dsimp only; omega, by dsimp only; omega⟩
    · rcases hk with (hk | hk) | (hk | hk)
      · exact ⟨(58, 4019, 4023), by decide, rfl, by dsimp only; omega, by dsimp only; omega⟩
      · exact ⟨(58, 4030, 4629), by decide, rfl, by dsimp only; omega, by dsimp only; omega⟩
      · exact ⟨(58, 5713, 5713), by decide, rfl, by dsimp only; omega, by dsimp only; omega⟩
      · exact ⟨(58, 5794, 5999), by decide, rfl, by dsimp only; omega, by dsimp only; omega⟩
    · rcases hk with (hk | hk) | (hk | hk)
      · exact ⟨(58, 6019, 6023), by decide, rfl, by dsimp only; omega, by dsimp only; omega⟩
      · exact ⟨(58, 6030, 6629), by decide, rfl, by dsimp only; omega, by dsimp only; omega⟩
      · exact ⟨(58, 7713, 7713), by decide, rfl, by dsimp only; omega, by dsimp only; omega⟩
      · exact ⟨(58, 7794, 7999), by decide, rfl, by dsimp only; omega, by dsimp only; omega⟩
    · rcases hk with (hk | hk) | (hk | hk)
      · exact ⟨(58, 8019, 8023), by decide, rfl, by dsimp only; omega, by dsimp only; omega⟩
      · exact ⟨(58, 8030, 8629), by decide, rfl, by dsimp only; omega, by dsimp only; omega⟩
      · exact ⟨(58, 9713, 9713), by decide, rfl, by dsimp only; omega, by dsimp only; omega⟩
      · exact ⟨(58, 9794, 9999), by decide, rfl, by dsimp only; omega, by dsimp only; omega⟩
theorem k_Jfr : c_Jfr k_K := by
  intro t a f f' g h hJ
  refine ⟨fun ht => ?_, fun ht => ?_⟩
  · subst ht
    have e : ∀ i, k_pc i → k_iv f' i = k_iv f i := fun i hi => by
      unfold k_iv
      rw [h i (k_pc_hits hi)]
    exact ⟨fun h1 => k_JB_cg e ((hJ.1 rfl).1 h1), fun h1 h2 => k_JC_cg e ((hJ.1 rfl).2 h1 h2)⟩
  · subst ht
    rcases hJ.2 rfl with h1 | h1
    · exact Or.inl h1
    · right
      have := h k_ci ⟨(13, 22, 22), by decide, rfl, by decide, by decide⟩
      rw [this]
      exact h1
theorem k_Jnw : c_Jnw k_K := by
  intro t a f g h
  refine ⟨fun ht => ?_, fun ht => ?_⟩
  · subst ht
    rcases h with h | ⟨h1, h2⟩
    · exact absurd rfl (h (58, 8, 11) (by decide))
    · refine ⟨fun _ => k_JB_zero fun j => ?_, fun h3 => absurd h1 h3⟩
      rcases h2 with h2 | h2
      · exact absurd h2 (by decide +kernel)
      · unfold k_iv
        split
        · rename_i x hx
          rcases h2 j _ hx with q | q | q
          · cases q; rfl
          · cases q
          · cases q
        · rfl
  · subst ht
    rcases h with h | ⟨h1, h2⟩
    · exact absurd rfl (h (13, 22, 22) (by decide))
    · exact Or.inl h1
/-- the contents of c -/
def k_F (f : Nat → Int32) (j : Nat) : Int := if j < 10000 then (f j).toInt else 0
theorem k_F_iv {dA : Nat → ClassId} {f : Nat → Int32} : k_iv (c_rd (.inl (dA 1, 10000, .inl f))) = k_F f := by
  funext j
  unfold k_iv k_F
  show (match (if j < 10000 then some (Value.int (f j)) else none) with
    | some (.int x) => x.toInt
    | _ => 0) = _
  by_cases h : j < 10000
  · rw [if_pos h, if_pos h]
  · rw [if_neg h, if_neg h]
theorem k_F_up {f : Nat → Int32} {i : Nat} {z : Int32} (hi : i < 10000) : k_F (upd f i z) = k_up (k_F f) i z.toInt := by
  funext j
  unfold k_F k_up
  by_cases h : j = i
  · subst h
    rw [if_pos hi, if_pos rfl]
    simp [upd]
  · rw [if_neg h]
    dsimp only
    by_cases h2 : j < 10000
    · rw [if_pos h2, if_pos h2]
      simp [upd, h]
    · rw [if_neg h2, if_neg h2]
/-- the symbol of this object's c -/
def k_arr (A : cSt) : Option Nat := match c_tagOf 1 A.2.2.2.1, c_mget 1 (c_con 22) (c_me A) with
  | some t, some (2, (0, [(s, 1)])) => if Nat.beq t 13 && c_mem3 1 3 A.2.2.1 && !(Nat.beq s 0) then some s else none
  | _, _ => none
def k_typd (F : Nat → Int) : Prop := ∀ j, j < 10000 → (k_typC j).1 = 0 → (k_typC j).2.1 ≤ F j ∧ F j ≤ (k_typC j).2.2
def k_kn (A : cSt) (r : Nat → Int) (s : Nat) (F : Nat → Int) : Prop := ∀ (idx e : cLin) (j : Nat), c_mget s idx (c_me A) = some (0, e) → c_ev r idx = (j : Int) → F j = c_ev r e
theorem k_form {dA : Nat → ClassId} {e : va_E} (h : c_form dA (k_K.2.1 58) e) : ∃ f, e = .inl (dA 1, 10000, .inl f) := by
  have h9 : k_K.2.1 58 = (1, 10000, 0) := by decide +kernel
  rw [h9] at h
  exact h
theorem k_ty58 (j : Nat) : c_ty k_K 58 j = k_typC j := by
  unfold c_ty
  have h9 : k_K.2.2.2.1 58 = none := by decide +kernel
  rw [h9]
  rfl
theorem k_tyci : c_ty k_K 13 22 = (3, 58, 0) := by decide +kernel
section KO
variable {dA : Nat → ClassId} {AA : Nat → Prop} {A : cSt} {r : Nat → Int} {lv : List (Nat × Value)} {st : List Value} {w : cWld} {s : Nat}
theorem k_arr_inv (h : k_arr A = some s) : c_tagOf 1 A.2.2.2.1 = some 13 ∧ c_mget 1 (c_con 22) (c_me A) = some (2, c_sym s) ∧ (1, 3) ∈ A.2.2.1 ∧ s ≠ 0 := by
  unfold k_arr at h
  split at h
  · rename_i t s' h1 h2
    split at h
    · rename_i hc
      rw [Bool.and_eq_true, Bool.and_eq_true] at hc
      cases h
      rw [Nat.eq_of_beq_eq_true hc.1.1] at h1
      refine ⟨h1, h2, c_mem3_ok hc.1.2, fun h0 => ?_⟩
      rw [h0] at hc
      exact absurd hc.2 (by decide)
    · cases h
  · cases h
theorem k_cell (hT : c_TW k_K dA w) (hD : va_D AA w.2.1) (h : k_arr A = some s) (hr : c_satR A r lv st w) : ∃ (y : Nat) (f : Nat → Int32), r s = (y : Int) ∧ (y, .inl (dA 1, 10000, .inl f)) ∈ w.2.1 ∧ w.1 y = 58 ∧ (w.2.2 1 ≠ 1 → (y : Int) = w.2.2 2) ∧ (w.2.2 1 = 1 → k_JB (k_F f)) ∧ (w.2.2 1 ≠ 1 → k_JC (k_F f) w.2.2) ∧ k_typd (k_F f) ∧ k_kn A r s (k_F f) := by
  obtain ⟨h1, h2, h3, h0⟩ := k_arr_inv h
  obtain ⟨x, x1, e, x2, x3⟩ := hr.2.2.1 _ (c_tagOf_ok h1) (hr.2.1 _ h3)
  have x1 : r 1 = (x : Int) := x1
  have x3 : w.1 x = 13 := x3
  obtain ⟨f1, f2, f3, f4⟩ := hT _ x2
  dsimp only at f1 f2 f3 f4
  rw [x3] at f1 f2 f3 f4
  obtain ⟨q, hq, q1, q2, q3⟩ := c_mget_ok h2
  have hm := hr.2.2.2.2.2.2 q hq
  unfold c_mem at hm
  split at hm
  · rename_i hz; rw [q1] at hz; exact absurd hz (by decide)
  · obtain ⟨a, e', j, v, m1, m2, m3, m4, m5⟩ := hm
    rw [q1] at m1
    have : a = x := by omega
    subst this
    have := c_uniq hD m2 x2
    subst this
    rw [q2 r, c_ev_con] at m3
    have : j = 22 := by omega
    subst this
    have h5 := f2 22 v m4
    rw [k_tyci] at h5
    obtain ⟨y, rfl, hy⟩ := (h5 : ∃ a : Nat, v = .ref a ∧ c_in w a ((58 : Int)).toNat)
    obtain ⟨ce, y1, y2⟩ := hy
    have y2 : w.1 y = 58 := y2
    rw [q3] at m5
    have hry : r s = (y : Int) := by
      rcases c_DVr m5 rfl with ⟨hh, -⟩ | ⟨x', hh, h9⟩
      · cases hh
      · cases hh
        rw [← c_ev_sym r s]
        exact h9
    obtain ⟨g1, g2, g3, g4⟩ := hT _ y1
    dsimp only at g1 g2 g3 g4
    rw [y2] at g1 g2 g3 g4
    obtain ⟨f, rfl⟩ := k_form g1
    have hJ := (g4.1 rfl)
    rw [k_F_iv] at hJ
    have hg2 : w.2.2 1 ≠ 1 → (y : Int) = w.2.2 2 := fun hn => by
      rcases f4.2 rfl with h9 | h9
      · exact absurd h9 hn
      · exact h9 y m4
    refine ⟨y, f, hry, y1, y2, hg2, hJ.1, fun hn => hJ.2 hn (hg2 hn), fun j hj ht => ?_, fun idx e j hk hj => ?_⟩
    · have h6 := g2 j (.int (f j)) (by show (if j < 10000 then some _ else none) = _; rw [if_pos hj]; rfl)
      rw [k_ty58] at h6
      unfold c_okV at h6
      rw [ht] at h6
      obtain ⟨x, hx, h7, h8⟩ := h6
      cases hx
      unfold k_F
      rw [if_pos hj]
      exact ⟨h7, h8⟩
    · obtain ⟨z, hz, z1, z2, z3⟩ := c_mget_ok hk
      have hm := hr.2.2.2.2.2.2 z hz
      unfold c_mem at hm
      split at hm
      · rename_i hz0; rw [z1] at hz0; exact absurd hz0 h0
      · obtain ⟨a', e', j', v', n1, n2, n3, n4, n5⟩ := hm
        rw [z1] at n1
        have : a' = y := by omega
        subst this
        have := c_uniq hD n2 y1
        subst this
        rw [z2 r] at n3
        have : j' = j := by omega
        subst this
        rw [z3] at n5
        obtain ⟨x, rfl, h7⟩ := c_DVi n5 rfl
        have n4 : (if j' < 10000 then some (Value.int (f j')) else none) = some (.int x) := n4
        unfold k_F
        by_cases hj2 : j' < 10000
        · rw [if_pos hj2] at n4 ⊢
          cases n4
          exact h7
        · rw [if_neg hj2] at n4
          cases n4
end KO
section KM
variable {p : Program} {l : Launch} {e : Env} {R : Room} {s : State} {m : MethodId} {args : Array Value} {below : List Frame} {meth : Method} {c : Code} {D : va_G} {cl : List vw_C} {dA : Nat → ClassId} {AA : Nat → Prop} {O : cCtr} {w0 : cWld} {cc : ByteArray} {nL : Nat} {Q : State → Prop} {n0 : Nat} {r0 : Nat → Int}
  {A B : cSt} {pc len : Nat} {L : List (Nat × cSt)} {bk : String} {U : List (Nat × cLin)} {y : Nat}
/-- other cells keep the word -/
theorem k_oth {t a : Nat} {f : Nat → Option Value} {g g' : Nat → Int} (h : k_J k_tc k_tm k_ci t a f g) (e1 : g' 1 = 1 ↔ g 1 = 1) (e2 : g' 2 = g 2) (ha : t = 58 → g 1 ≠ 1 → (a : Int) ≠ g 2) : k_J k_tc k_tm k_ci t a f g' := by
  refine ⟨fun ht => ⟨fun h1 => (h.1 ht).1 (e1.mp h1), fun h1 h2 => ?_⟩, fun ht => ?_⟩
  · exact absurd (h2.trans e2) (ha ht (fun h9 => h1 (e1.mpr h9)))
  · rcases h.2 ht with h1 | h1
    · exact Or.inl (e1.mpr h1)
    · right
      rw [e2]
      exact h1
/-- a move of ghost numbers -/
theorem k_mv_ok (ha : k_arr A = some y) (hU : k_gups O U A = some B) (hm : ∀ (r : Nat → Int) (lv : List (Nat × Value)) (st : List Value) (w : cWld), c_satR A r lv st w → k_gsem r U w.2.2 2 = w.2.2 2 ∧ (k_gsem r U w.2.2 1 = 1 ↔ w.2.2 1 = 1) ∧ (w.2.2 1 ≠ 1 → ∀ F, k_kn A r y F → k_typd F → k_JC F w.2.2 → k_JC F (k_gsem r U w.2.2)))
    (hB : c_OK ((p, l, e, R, s, m, args, below, meth, c), (D, cl, dA, AA), (k_K, O, w0), (cc, nL, Q)) n0 r0 pc B) : c_OK ((p, l, e, R, s, m, args, below, meth, c), (D, cl, dA, AA), (k_K, O, w0), (cc, nL, Q)) n0 r0 pc A := by
  refine k_mvJ hU (fun r lv st w hr hT hD q hq => ?_) hB
  obtain ⟨e2, e1, hJC⟩ := hm r lv st w hr
  obtain ⟨x, f, x1, x2, x3, x4, x5, x6, x7, x8⟩ := k_cell hT hD ha hr
  have hJ := (hT q hq).2.2.2
  by_cases hx : q.1 = x
  · have hq2 : (x, q.2) ∈ w.2.1 := by rw [← hx]; exact hq
    have := c_uniq hD hq2 x2
    rw [hx] at hJ ⊢
    rw [this] at hJ ⊢
    show k_J k_tc k_tm k_ci (w.1 x) x _ _
    rw [x3]
    refine ⟨fun _ => ?_, fun h9 => absurd h9 (by decide)⟩
    rw [k_F_iv]
    exact ⟨fun h1 => x5 (e1.mp h1), fun h1 h2 => hJC (fun h9 => h1 (e1.mpr h9)) _ x8 x7 (x6 (fun h9 => h1 (e1.mpr h9)))⟩
  · refine k_oth hJ e1 e2 (fun _ hn h9 => hx ?_)
    have := x4 hn
    omega
/-- a store into c, with ghost numbers -/
theorem k_st_ok (ha : k_arr A = some y) (hx : p.tables.exec = Jvm.exec) (hb : c.code = cc) (hK : va_K D cl (c_tys dA bk) s) (h : k_hst (c_noJ k_K) O U A pc = some L) (hd : decode cc pc = .ok (.iastore, 1)) {a : cAV} {i : cLin} {S : List cAV} (hst : c_stk A = a :: (0, i) :: (2, c_sym y) :: S)
    (hm : ∀ (r : Nat → Int) (lv : List (Nat × Value)) (st : List Value) (w : cWld), c_satR A r lv st w → k_gsem r U w.2.2 2 = w.2.2 2 ∧ (k_gsem r U w.2.2 1 = 1 ↔ w.2.2 1 = 1) ∧ ∀ (F : Nat → Int) (ix : Nat), k_kn A r y F → k_typd F → ix < 10000 → c_ev r i = (ix : Int) → (w.2.2 1 = 1 → k_JB F → k_JB (k_up F ix (c_ev r a.2))) ∧ (w.2.2 1 ≠ 1 → k_JC F w.2.2 → k_JC (k_up F ix (c_ev r a.2)) (k_gsem r U w.2.2)))
    (hL : ∀ q ∈ L, c_OK ((p, l, e, R, s, m, args, below, meth, c), (D, cl, dA, AA), (k_K, O, w0), (cc, nL, Q)) n0 r0 q.1 q.2) : c_OK ((p, l, e, R, s, m, args, below, meth, c), (D, cl, dA, AA), (k_K, O, w0), (cc, nL, Q)) n0 r0 pc A := by
  refine k_hst_ok (c_Jfr_noJ k_K) (fun w => c_TW_noJ) hx hb hK h hd (fun r lv w a' i' o S' x z ix y' ss q0 f hs' hx1 ha0 hr hT hD hq0 hw1 hr1 hz hi hi0 hi1 hTW => ?_) hL
  rw [hst] at hs'
  cases hs'
  obtain ⟨e2, e1, hJC⟩ := hm r lv _ w hr
  obtain ⟨v, g, x1, x2, x3, x4, x5, x6, x7, x8⟩ := k_cell hT hD ha hr
  have hxy : x.1 = y := by
    have := (c_ref_ok hx1).2.1
    have := congrArg (fun q => q.2.2) this
    have h9 : [(y, (1 : Int))] = [(x.1, 1)] := this
    cases h9
    rfl
  rw [hxy] at hr1
  have hvy : v = y' := by omega
  subst hvy
  have h58 : x.2 = 58 := hw1.symm.trans x3
  rw [h58] at hq0 hTW hi1 ⊢
  have hN : ((c_noJ k_K).2.1 58).2.1 = 10000 := by decide +kernel
  rw [hN] at hq0 hTW hi1 ⊢
  have := c_uniq hD (c_mem_of_at hq0) x2
  cases this
  have hcl := c_clamp hi0
  have hlt : ix.toNatClampNeg < 10000 := by omega
  obtain ⟨j1, j2⟩ := hJC (k_F f) ix.toNatClampNeg x8 x7 hlt (by omega)
  refine c_TW_J hTW (fun q hq => ?_)
  rcases c_set_in hD hq0 hq with rfl | ⟨hq1, hq2⟩
  · show k_J k_tc k_tm k_ci (w.1 v) v _ _
    rw [x3]
    refine ⟨fun _ => ?_, fun h9 => absurd h9 (by decide)⟩
    rw [k_F_iv, k_F_up hlt, hz]
    exact ⟨fun h1 => j1 (e1.mp h1) (x5 (e1.mp h1)), fun h1 h2 => j2 (fun h9 => h1 (e1.mpr h9)) (x6 (fun h9 => h1 (e1.mpr h9)))⟩
  · refine k_oth (hT q hq1).2.2.2 e1 e2 (fun _ hn h9 => hq2 ?_)
    have := x4 hn
    omega
/-- two ways, by a number that the world has -/
def k_alt (A : cSt) (e : cLin) (f1 f2 : cSt → Option (List (Nat × cSt))) : Option (List (Nat × cSt)) := match (match c_asm A 3 e with
    | none => some []
    | some B => f1 B), (match c_asm A 2 e with
    | none => some []
    | some B => f2 B) with
  | some L1, some L2 => some (L1 ++ L2)
  | _, _ => none
theorem k_alt_ok {x : cLin} {f1 f2 : cSt → Option (List (Nat × cSt))} (h : k_alt A x f1 f2 = some L) (hd : ∀ (lv : List (Nat × Value)) (st : List Value) (w : cWld), ∃ z : Int, ∀ r, c_satR A r lv st w → c_ev r x = z)
    (h1 : ∀ B L1, c_asm A 3 x = some B → f1 B = some L1 → (∀ q ∈ L1, c_OK ((p, l, e, R, s, m, args, below, meth, c), (D, cl, dA, AA), (k_K, O, w0), (cc, nL, Q)) n0 r0 q.1 q.2) → c_OK ((p, l, e, R, s, m, args, below, meth, c), (D, cl, dA, AA), (k_K, O, w0), (cc, nL, Q)) n0 r0 pc B)
    (h2 : ∀ B L1, c_asm A 2 x = some B → f2 B = some L1 → (∀ q ∈ L1, c_OK ((p, l, e, R, s, m, args, below, meth, c), (D, cl, dA, AA), (k_K, O, w0), (cc, nL, Q)) n0 r0 q.1 q.2) → c_OK ((p, l, e, R, s, m, args, below, meth, c), (D, cl, dA, AA), (k_K, O, w0), (cc, nL, Q)) n0 r0 pc B)
    (hL : ∀ q ∈ L, c_OK ((p, l, e, R, s, m, args, below, meth, c), (D, cl, dA, AA), (k_K, O, w0), (cc, nL, Q)) n0 r0 q.1 q.2) : c_OK ((p, l, e, R, s, m, args, below, meth, c), (D, cl, dA, AA), (k_K, O, w0), (cc, nL, Q)) n0 r0 pc A := by
  unfold k_alt at h
  split at h
  · rename_i L1 L2 g1 g2
    cases h
    intro lv st w cu su hcu hsu hT hE hs H locs ls hP hD hS hl
    obtain ⟨z, hz⟩ := hd lv st w
    rcases Int.lt_or_le z 0 with hz0 | hz0
    · obtain ⟨B, b1, b2⟩ := hs.asm (o := 2) (e := x) (fun r hr => by show c_ev r x < 0; rw [hz r hr]; exact hz0)
      rw [b1] at g2
      have hlk := c_asm_like b1
      have k1 := congrArg (fun x => x.2.2.2.1) hlk.2.2
      have k2 := congrArg (fun x => x.2.2.2.2) hlk.2.2
      exact h2 B L2 b1 g2 (fun q hq => hL q (List.mem_append_right _ hq)) lv st w cu su (Eq.trans k1 hcu) (Eq.trans k2 hsu) hT hE b2 H locs ls hP hD hS hl
    · obtain ⟨B, b1, b2⟩ := hs.asm (o := 3) (e := x) (fun r hr => by show 0 ≤ c_ev r x; rw [hz r hr]; exact hz0)
      rw [b1] at g1
      have hlk := c_asm_like b1
      have k1 := congrArg (fun x => x.2.2.2.1) hlk.2.2
      have k2 := congrArg (fun x => x.2.2.2.2) hlk.2.2
      exact h1 B L1 b1 g1 (fun q hq => hL q (List.mem_append_left _ hq)) lv st w cu su (Eq.trans k1 hcu) (Eq.trans k2 hsu) hT hE b2 H locs ls hP hD hS hl
  · cases h
end KM
