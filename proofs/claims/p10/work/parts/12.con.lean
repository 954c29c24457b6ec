/-! a contract's two sides -/
def c_argR (w : cWld) (x : Nat × Nat × Int × Int) (v : Value) (z : Int) : Prop := match x.1 with
  | 0 => ∃ y : Int32, v = .int y ∧ y.toInt = z ∧ x.2.2.1 ≤ z ∧ z ≤ x.2.2.2
  | 1 => ∃ y : Int64, v = .long y ∧ y.toInt = z ∧ x.2.2.1 ≤ z ∧ z ≤ x.2.2.2
  | _ => ∃ a : Nat, v = .ref a ∧ z = (a : Int) ∧ c_in w a x.2.1
def c_argsR (w : cWld) (r : Nat → Int) : Nat → List (Nat × Nat × Int × Int) → List Value → Prop
  | _, [], [] => True
  | i, x :: l, v :: m => c_argR w x v (r i) ∧ c_argsR w r (i + 1) l m
  | _, _, _ => False
def c_Pre (ct : cCtr) (r : Nat → Int) (vals : List Value) (w : cWld) : Prop := c_argsR w r 1 (ct_args ct) vals ∧ (∀ (k : Nat) (q : Nat × cLin), (ct_ec ct)[k]? = some q → c_cell w r q.1 q.2 (r (1 + (ct_args ct).length + k))) ∧
  (∀ f ∈ ct_pre ct, 0 ≤ c_ev r f) ∧ ∀ q ∈ ct_pfl ct, (q.2 = 1 ∨ q.2 = 2) ∧ c_flag q.2 (r q.1)
def c_Dj (ct : cCtr) (w' : cWld) (r : Nat → Int) (res : List Int) (d : cDj) : Prop := ∃ r', c_agr (c_entryN ct) r r' ∧ (∀ (k : Nat) (z : Int), res[k]? = some z → r' (c_entryN ct + k) = z) ∧ (∀ (k : Nat) (q : Nat × cLin), d.2.2[k]? = some q → c_cell w' r' q.1 q.2 (r' (c_entryN ct + res.length + k))) ∧
  (∀ f ∈ d.1, 0 ≤ c_ev r' f) ∧ ∀ q ∈ d.2.1, ((q.2 = 1 ∨ q.2 = 2) ∨ q.2 = 3) → c_flag q.2 (r' q.1)
def c_Post (ct : cCtr) (r : Nat → Int) (w w' : cWld) (res : List Int) : Prop := c_ext (ct_eff ct) (ct_pros ct) w w' ∧ (ct_rdy ct ≠ 0 → ∃ a : Nat, r 1 = (a : Int) ∧ c_in w' a (ct_rdy ct)) ∧ ∃ d ∈ ct_post ct, c_Dj ct w' r res d
def c_retV (k : Nat) (rv : List Value) (res : List Int) : Prop := match k with
  | 0 => rv = [] ∧ res = []
  | 1 => ∃ x : Int32, rv = [.int x] ∧ res = [x.toInt]
  | 2 => ∃ x : Int64, rv = [.long x] ∧ res = [x.toInt]
  | _ => ∃ x : Int32, rv = [.int x] ∧ res = [x.toInt] ∧ 0 ≤ x.toInt ∧ x.toInt ≤ 1
section CD
variable {n0 : Nat} {r0 : Nat → Int} {lv : List (Nat × Value)} {st ss : List Value} {w w' w0 : cWld} {K : cTab} {dA : Nat → ClassId} {AA : Nat → Prop} {A B : cSt}
theorem c_argOk_ok {r : Nat → Int} {x : Nat × Nat × Int × Int} {a : cAV} {v : Value} (hr : c_satR A r lv st w) (hd : c_DV r a v) (h : c_argOk A x a = true) : c_argR w x v (c_ev r a.2) := by
  unfold c_argOk at h
  unfold c_argR
  split at h
  · rename_i e
    rw [e]
    rw [Bool.and_eq_true, Bool.or_eq_true] at h
    obtain ⟨y, rfl, hy⟩ := c_DVi hd (Nat.eq_of_beq_eq_true h.1)
    refine ⟨y, rfl, hy, ?_⟩
    rcases h.2 with h | h
    · exact c_in2_ok hr h
    · rw [Bool.and_eq_true] at h
      have h1 := c_ent_ok hr.1 hr.2.2.2.1 _ _ h.1
      have h2 := c_ent_ok hr.1 hr.2.2.2.1 _ _ h.2
      rw [c_ev_addc] at h1 h2
      rw [c_ev_mul] at h2
      omega
  · rename_i e
    rw [e]
    rw [Bool.and_eq_true] at h
    obtain ⟨y, rfl, hy⟩ := c_DVl hd (Nat.eq_of_beq_eq_true h.1)
    exact ⟨y, rfl, hy, c_in2_ok hr h.2⟩
  · rename_i e1 e2
    split at h
    · rename_i s hs
      split at h
      · rename_i t ht
        have ht2 := Nat.eq_of_beq_eq_true h
        obtain ⟨rfl, h3⟩ := c_refS_ok hs
        have hp : (0 : Int) ≤ r s := hr.2.1 _ h3
        obtain ⟨z, g1, g2⟩ := hr.2.2.1 _ (c_tagOf_ok ht) hp
        have g1 : r s = (z : Int) := g1
        have ev : c_ev r ((2 : Nat), c_sym s).2 = r s := c_ev_sym r s
        have goal : ∃ a : Nat, v = .ref a ∧ c_ev r ((2 : Nat), c_sym s).2 = (a : Int) ∧ c_in w a x.2.1 := by
          rcases c_DVr hd rfl with ⟨-, h2⟩ | ⟨y, rfl, h2⟩
          · omega
          · have : y = z := by omega
            subst this
            exact ⟨y, rfl, h2, by rw [← ht2]; exact g2⟩
        split
        · rename_i q; exact absurd q e1
        · rename_i q; exact absurd q e2
        · exact goal
      · cases h
    · cases h
theorem c_argsOk_ok {r : Nat → Int} (hr : c_satR A r lv st w) : ∀ (l : List (Nat × Nat × Int × Int)) (avs : List cAV) (vals : List Value) (p : Nat → Int) (i : Nat), c_argsOk A l avs = true → c_F2 (c_DV r) avs vals → (∀ (k : Nat) (a : cAV), avs[k]? = some a → p (i + k) = c_ev r a.2) → c_argsR w p i l vals
  | [], [], [], _, _, _, _, _ => trivial
  | x :: l, a :: avs, v :: vals, p, i, h, hF, hp => by
    unfold c_argsOk at h
    rw [Bool.and_eq_true] at h
    refine ⟨?_, c_argsOk_ok hr l avs vals p (i + 1) h.2 hF.2 (fun k b hb => ?_)⟩
    · have := hp 0 a rfl
      rw [Nat.add_zero] at this
      rw [this]
      exact c_argOk_ok hr hF.1 h.1
    · have := hp (k + 1) b hb
      rw [show i + 1 + k = i + (k + 1) by omega]
      exact this
  | [], [], _ :: _, _, _, _, hF, _ => hF.elim
  | [], _ :: _, _, _, _, h, _, _ => by simp [c_argsOk] at h
  | _ :: _, [], _, _, _, h, _, _ => by simp [c_argsOk] at h
  | _ :: _, _ :: _, [], _, _, _, hF, _ => hF.elim
theorem c_argsOk_len : ∀ {l : List (Nat × Nat × Int × Int)} {avs : List cAV}, c_argsOk A l avs = true → l.length = avs.length
  | [], [], _ => rfl
  | x :: l, a :: avs, h => by
    unfold c_argsOk at h
    rw [Bool.and_eq_true] at h
    rw [List.length_cons, List.length_cons, c_argsOk_len h.2]
  | [], _ :: _, h => by simp [c_argsOk] at h
  | _ :: _, [], h => by simp [c_argsOk] at h
/-- what is left of the known places, behind what a callee hits -/
theorem c_killE_mem : ∀ {E : cEff} {A : cSt} {q : Nat × cLin × cAV}, q ∈ c_me (c_killE A E) → q ∈ c_me A ∧ ∀ x ∈ E, c_keepM A x.1 x.2.1 x.2.2 q = true
  | [], A, q, h => ⟨h, fun x hx => by cases hx⟩
  | x :: l, A, q, h => by
    obtain ⟨h1, h2⟩ := c_killE_mem (E := l) h
    have h1 : q ∈ (c_me A).filter (c_keepM A x.1 x.2.1 x.2.2) := h1
    obtain ⟨h3, h4⟩ := List.mem_filter.mp h1
    refine ⟨h3, fun y hy => ?_⟩
    rcases List.mem_cons.mp hy with rfl | hy
    · exact h4
    · exact h2 y hy
theorem c_killE_eq : ∀ (E : cEff) (A : cSt), (c_killE A E).1 = A.1 ∧ (c_killE A E).2.1 = A.2.1 ∧ (c_killE A E).2.2.1 = A.2.2.1 ∧ (c_killE A E).2.2.2.1 = A.2.2.2.1 ∧ (c_killE A E).2.2.2.2.1 = A.2.2.2.2.1 ∧ c_loc (c_killE A E) = c_loc A ∧ c_stk (c_killE A E) = c_stk A ∧ c_cu (c_killE A E) = c_cu A ∧ c_su (c_killE A E) = c_su A
  | [], A => ⟨rfl, rfl, rfl, rfl, rfl, rfl, rfl, rfl, rfl⟩
  | x :: l, A => by
    obtain ⟨h1, h2, h3, h4, h5, h6, h7, h8, h9⟩ := c_killE_eq l (c_killM A x.1 x.2.1 x.2.2)
    exact ⟨h1, h2, h3, h4, h5, h6, h7, h8, h9⟩
theorem c_keepM_ghost {t : Nat} {lo hi : Int} {q : Nat × cLin × cAV} {r : Nat → Int} {j : Nat} (hv : c_envOk r A.2.1) (h : c_keepM A t lo hi q = true) (h0 : q.1 = 0) (hj : c_ev r q.2.1 = (j : Int)) : t ≠ 0 ∨ (j : Int) < lo ∨ hi < (j : Int) := by
  unfold c_keepM at h
  split at h
  · rw [Bool.or_eq_true] at h
    rcases h with h | h
    · left
      rintro rfl
      cases h
    · right
      split at h
      · rename_i x hx
        have := c_rng_ok hv hx
        rw [Bool.or_eq_true] at h
        rcases h with h | h
        · have := of_decide_eq_true h; left; omega
        · have := of_decide_eq_true h; right; omega
      · cases h
  · rename_i hz; exact absurd h0 hz
theorem c_sat.callee {E : cEff} {ps : List Nat} (hs : c_sat n0 r0 A lv st w) (hx : c_ext E ps w w') (hD : va_D AA w.2.1) : c_sat n0 r0 (c_promS (c_killE A E) ps) lv st w' := by
  obtain ⟨e1, e2, e3, e4, e5, e6, e7, -, -⟩ := c_killE_eq E A
  refine hs.to e1 fun r _ h => ⟨?_, ?_, ?_, ?_, ?_, ?_, ?_⟩
  · show c_envOk r (c_killE A E).2.1
    rw [e2]; exact h.1
  · show ∀ q ∈ (c_killE A E).2.2.1, _
    rw [e3]; exact h.2.1
  · intro q hq hq0
    have hq : q ∈ (c_killE A E).2.2.2.1.filter (fun q => !(ps.contains q.2)) := hq
    obtain ⟨h1, h2⟩ := List.mem_filter.mp hq
    rw [e4] at h1
    obtain ⟨a, g1, e, g2, g3⟩ := h.2.2.1 q h1 hq0
    obtain ⟨e', k1, k2⟩ := hx.1 _ g2
    refine ⟨a, g1, e', k1, ?_⟩
    rcases k2 with ⟨k2, -⟩ | k2
    · exact k2.trans g3
    · exfalso
      have k2 : w.1 a ∈ ps := k2
      rw [g3] at k2
      simp [k2] at h2
  · show ∀ f ∈ (c_killE A E).2.2.2.2.1, _
    rw [e5]; exact h.2.2.2.1
  · show c_F2 _ (c_loc (c_killE A E)) _
    rw [e6]; exact h.2.2.2.2.1
  · show c_F2 _ (c_stk (c_killE A E)) _
    rw [e7]; exact h.2.2.2.2.2.1
  · intro q hq
    have hq : q ∈ (c_me (c_killE A E)).filter (c_notP (c_killE A E) ps) := hq
    obtain ⟨h1, h2⟩ := List.mem_filter.mp hq
    obtain ⟨h3, h4⟩ := c_killE_mem h1
    have hm := h.2.2.2.2.2.2 q h3
    unfold c_mem at hm ⊢
    split
    · rename_i hz
      rw [hz] at hm
      obtain ⟨j, j1, j2⟩ := hm
      refine ⟨j, j1, ?_⟩
      rw [hx.2 j, j2]
      rintro ⟨x, x1, x2, x3, x4⟩
      rcases c_keepM_ghost h.1 (h4 x x1) hz j1 with h | h
      · exact h x2
      · omega
    · rename_i hz
      split at hm
      · rename_i hz2; exact absurd hz2 hz
      · obtain ⟨a, e, j, v, f1, f2, f3, f4, f5⟩ := hm
        obtain ⟨e', k1, k2⟩ := hx.1 _ f2
        dsimp only at k1 k2
        have htag : ∃ t, c_tagOf q.1 A.2.2.2.1 = some t ∧ t ∉ ps := by
          unfold c_notP at h2
          split at h2
          · rename_i hz2; exact absurd hz2 hz
          · split at h2
            · cases h2
            · rename_i t ht
              rw [e4] at ht
              exact ⟨t, ht, by simpa using h2⟩
        obtain ⟨t, ht, hps⟩ := htag
        obtain ⟨a2, b1, e2', b2, b3⟩ := h.2.2.1 _ (c_tagOf_ok ht) (by show (0 : Int) ≤ r q.1; rw [f1]; omega)
        have b1 : r q.1 = (a2 : Int) := b1
        have : a = a2 := by omega
        subst this
        have b3 : w.1 a = t := b3
        rcases k2 with ⟨k2, k3⟩ | k2
        · refine ⟨a, e', j, v, f1, k1, f3, ?_, f5⟩
          rw [k3 j, f4]
          rintro ⟨x, x1, x2, x3, x4⟩
          obtain ⟨t', ht', hne⟩ := c_keepM_ok h.1 (h4 x x1) hz
          rw [ht] at ht'
          cases ht'
          rcases hne with hne | hne | hne
          · exact hne (b3.symm.trans x2.symm)
          · omega
          · omega
        · rw [b3] at k2
          exact absurd k2 hps
theorem c_assumes_ok : ∀ (l : List cLin) (A : cSt) (th : List cLin), c_sat n0 r0 A lv st w → (∀ f ∈ l, ∀ e, c_sb th f = some e → ∀ r, c_agr n0 r0 r → c_satR A r lv st w → 0 ≤ c_ev r e) → ∃ B, c_assumes A th l = some B ∧ c_sat n0 r0 B lv st w ∧ c_like A B ∧ ∀ r, c_satR B r lv st w → c_satR A r lv st w
  | [], A, th, hs, _ => ⟨A, rfl, hs, c_like.rf A, fun r h => h⟩
  | f :: l, A, th, hs, hf => by
    unfold c_assumes
    split
    · exact c_assumes_ok l A th hs (fun g hg => hf g (List.mem_cons_of_mem _ hg))
    · rename_i e he
      obtain ⟨B, e1, h1⟩ := hs.assume (f := e) (fun r h9 hr => hf f List.mem_cons_self e he r h9 hr)
      rw [e1]
      obtain ⟨C, e2, h2, h3, h4⟩ := c_assumes_ok l B th h1 (fun g hg e he r h9 hr => hf g (List.mem_cons_of_mem _ hg) e he r h9 (c_assume_back e1 hr))
      exact ⟨C, e2, h2, (c_assume_like e1).tr h3, fun r h => c_assume_back e1 (h4 r h)⟩
theorem c_flags_ok {th : List cLin} : ∀ (l : List (Nat × Nat)) (A : cSt), c_sat n0 r0 A lv st w → (∀ q ∈ l, (q.2 = 1 ∨ q.2 = 2) → ∀ e, th[q.1]? = some e → ∀ r, c_agr n0 r0 r → c_satR A r lv st w → c_flag q.2 (c_ev r e)) → c_sat n0 r0 (c_flags A th l) lv st w ∧ c_cu (c_flags A th l) = c_cu A ∧ c_su (c_flags A th l) = c_su A
  | [], A, hs, _ => ⟨hs, rfl, rfl⟩
  | q :: l, A, hs, h => by
    unfold c_flags
    have hl := fun z hz => h z (List.mem_cons_of_mem q hz)
    split
    · exact c_flags_ok l A hs hl
    · rename_i e he
      split
      · exact c_flags_ok l A hs hl
      · rename_i s hu
        split
        · rename_i hk
          rw [Bool.and_eq_true] at hk
          have k1 := Nat.le_of_ble_eq_true hk.1
          have k2 := Nat.le_of_ble_eq_true hk.2
          have h12 : q.2 = 1 ∨ q.2 = 2 := by omega
          refine c_flags_ok l (c_setG A ((s, q.2) :: A.2.2.1)) (hs.to rfl fun r h9 hr => ⟨hr.1, fun z hz => ?_, hr.2.2⟩) (fun z hz h12 e he r h9 hr => hl z hz h12 e he r h9 ⟨hr.1, fun y hy => hr.2.1 y (List.mem_cons_of_mem _ hy), hr.2.2⟩)
          rcases List.mem_cons.mp hz with rfl | hz
          · have hfl := h q List.mem_cons_self h12 e he r h9 hr
            show c_flag q.2 (r s)
            rcases h12 with h1 | h1
            · rw [h1] at hfl ⊢
              have hfl : c_ev r e ≠ 0 := hfl
              show r s ≠ 0
              rcases c_unit_ok hu r with h2 | h2 <;> omega
            · rw [h1] at hfl ⊢
              have hfl : c_ev r e % 4294967296 ≠ 0 := hfl
              show r s % 4294967296 ≠ 0
              rcases c_unit_ok hu r with h2 | h2 <;> omega
          · exact hr.2.1 z hz
        · exact c_flags_ok l A hs hl
/-- behind a call, by the outcome that holds -/
theorem c_after_ok (hT : c_TW K dA w) (hD : va_D AA w.2.1) {F : cSt} {S : List cAV} {th : List cLin} {p p' : Nat → Int} {ret ne : Nat} {rv : List Value} {res : List Int} {d : cDj} {o : Option cSt} (hs : c_sat n0 r0 F lv st w) (hF : ∀ r, c_satR F r lv st w → c_F2 (c_DV r) S ss)
    (hne : th.length = ne) (hth : ∀ r, c_agr n0 r0 r → ∀ i, i < ne → c_val r th i = p i) (hp : c_agr ne p p') (hres : ∀ (k : Nat) (z : Int), res[k]? = some z → p' (ne + k) = z) (hcel : ∀ (k : Nat) (q : Nat × cLin), d.2.2[k]? = some q → c_cell w p' q.1 q.2 (p' (ne + res.length + k))) (hfac : ∀ f ∈ d.1, 0 ≤ c_ev p' f) (hfl : ∀ q ∈ d.2.1, (q.2 = 1 ∨ q.2 = 2) → c_flag q.2 (p' q.1))
    (hrv : c_retV ret rv res) (h : c_after K F th ret S d = some o) : ∃ G, o = some G ∧ c_sat n0 r0 G lv (rv ++ ss) w ∧ c_cu G = c_cu F ∧ c_su G = c_su F := by
  -- the answer
  have k1 : c_sat n0 r0 (c_retS F ret S) lv (rv ++ ss) w ∧ c_cu (c_retS F ret S) = c_cu F ∧ c_su (c_retS F ret S) = c_su F ∧ (c_retT F ret th).length = ne + res.length ∧ ∀ r, c_agr n0 r0 r → c_F2 (c_DV r) (c_stk (c_retS F ret S)) (rv ++ ss) → ∀ i, i < ne + res.length → c_val r (c_retT F ret th) i = p' i := by
    have app : ∀ (x : Int) (r : Nat → Int), c_agr n0 r0 r → r F.1 = x → p' (ne + 0) = x → ∀ i, i < ne + 1 → c_val r (th ++ [c_sym F.1]) i = p' i := by
      intro x r h9 hx hx2 i hi
      rcases Nat.lt_or_ge i ne with hi2 | hi2
      · rw [hp i hi2, ← hth r h9 i hi2]
        unfold c_val
        rw [List.getElem?_append_left (by omega)]
      · have : i = ne := by omega
        subst this
        unfold c_val
        rw [← hne, List.getElem?_append_right (by omega)]
        simp [c_ev_sym]
        rw [hne, hx, ← hx2]; rfl
    unfold c_retV at hrv
    split at hrv
    · obtain ⟨rfl, rfl⟩ := hrv
      refine ⟨hs.setS hF, rfl, rfl, hne, fun r h9 _ i hi => ?_⟩
      have hi : i < ne := hi
      show c_val r th i = p' i
      rw [hp i hi, hth r h9 i hi]
    · obtain ⟨x, rfl, rfl⟩ := hrv
      refine ⟨hs.fr0 x (c_i32 x).1 (c_i32 x).2 hF, rfl, rfl, by show (th ++ [c_sym F.1]).length = _; rw [List.length_append, hne]; rfl, fun r h9 hr => ?_⟩
      obtain ⟨y, hy, hy2⟩ := c_DVi hr.1 rfl
      cases hy
      have hy2 : x.toInt = c_ev r (c_sym F.1) := hy2
      rw [c_ev_sym] at hy2
      exact app x.toInt r h9 hy2.symm (hres 0 _ rfl)
    · obtain ⟨x, rfl, rfl⟩ := hrv
      refine ⟨hs.fr1 x (c_i64 x).1 (c_i64 x).2 hF, rfl, rfl, by show (th ++ [c_sym F.1]).length = _; rw [List.length_append, hne]; rfl, fun r h9 hr => ?_⟩
      obtain ⟨y, hy, hy2⟩ := c_DVl hr.1 rfl
      cases hy
      have hy2 : x.toInt = c_ev r (c_sym F.1) := hy2
      rw [c_ev_sym] at hy2
      exact app x.toInt r h9 hy2.symm (hres 0 _ rfl)
    · rename_i e0 e1 e2
      obtain ⟨x, rfl, rfl, x1, x2⟩ := hrv
      have eS : c_retS F ret S = c_fr F 0 0 1 S := by
        unfold c_retS
        split
        · exact absurd rfl e0
        · exact absurd rfl e1
        · exact absurd rfl e2
        · rfl
      have eT : c_retT F ret th = th ++ [c_sym F.1] := by
        unfold c_retT
        split
        · exact absurd rfl e0
        · rfl
      rw [eS, eT]
      refine ⟨hs.fr0 x x1 x2 hF, rfl, rfl, by rw [List.length_append, hne]; rfl, fun r h9 hr => ?_⟩
      obtain ⟨y, hy, hy2⟩ := c_DVi hr.1 rfl
      cases hy
      have hy2 : x.toInt = c_ev r (c_sym F.1) := hy2
      rw [c_ev_sym] at hy2
      exact app x.toInt r h9 hy2.symm (hres 0 _ rfl)
  obtain ⟨s1, cu1, su1, len1, val1⟩ := k1
  unfold c_after at h
  generalize c_retS F ret S = B1 at *
  generalize c_retT F ret th = th1 at *
  have fact : ∀ (th' : List cLin) (r : Nat → Int) (n : Nat), th'.length = n → (∀ i, i < n → c_val r th' i = p' i) → ∀ f ∈ d.1, ∀ e, c_sb th' f = some e → 0 ≤ c_ev r e := by
    intro th' r n hn hv f hf e he
    rw [c_sb_ok (fun i e h => h) r he, c_ev_congr (p' := p') (fun q hq => hv q.1 (by have := c_sb_lt he q hq; omega))]
    exact hfac f hf
  obtain ⟨C, e1, s2, l2, b2⟩ := c_assumes_ok d.1 B1 th1 s1 (fun f hf e he r h9 hr => fact th1 r _ len1 (val1 r h9 hr.2.2.2.2.2.1) f hf e he)
  rw [e1] at h
  dsimp only at h
  have stkC : c_stk C = c_stk B1 := by
    have := congrArg (fun x => x.2.1) l2.2.2
    exact this
  have cuC : c_cu C = c_cu B1 := by
    have := congrArg (fun x => x.2.2.2.1) l2.2.2
    exact this
  have suC : c_su C = c_su B1 := by
    have := congrArg (fun x => x.2.2.2.2) l2.2.2
    exact this
  cases hl : c_loads K d.2.2 C th1 with
  | none => rw [hl] at h; cases h
  | some Y =>
    rw [hl] at h
    dsimp only at h
    obtain ⟨vs, S', x, g1, g2, g3, g4, g5, g6, g7, -, -, -, -, g12, g13⟩ := c_loads_ok hT hD d.2.2 C th1 (rv ++ ss) Y hl s2
    have val2 : ∀ r, c_agr n0 r0 r → c_satR Y.1 r lv (vs ++ (rv ++ ss)) w → ∀ k, k ≤ d.2.2.length → ∀ i, i < ne + res.length + k → c_val r Y.2 i = p' i := by
      intro r h9 hr k
      have base : ∀ i, i < ne + res.length → c_val r Y.2 i = p' i := by
        intro i hi
        have hF2 : c_F2 (c_DV r) (c_stk Y.1) (vs ++ (rv ++ ss)) := hr.2.2.2.2.2.1
        rw [g2, stkC] at hF2
        have hF3 : c_F2 (c_DV r) (c_stk B1) (rv ++ ss) := by
          have key : ∀ (a : List cAV) (b : List Value), a.length = b.length → c_F2 (c_DV r) (a ++ c_stk B1) (b ++ (rv ++ ss)) → c_F2 (c_DV r) (c_stk B1) (rv ++ ss) := by
            intro a
            induction a with
            | nil => intro b hb h; cases b with
              | nil => exact h
              | cons _ _ => cases hb
            | cons y a ih => intro b hb h; cases b with
              | nil => cases hb
              | cons z b => exact ih b (by simpa using hb) h.2
          exact key S' vs g3 hF2
        rw [← val1 r h9 hF3 i hi]
        unfold c_val
        rw [g6, List.getElem?_append_left (by omega)]
      induction k with
      | zero => intro _ i hi; exact base i hi
      | succ k ih =>
        intro hk i hi
        rcases Nat.lt_or_ge i (ne + res.length + k) with h5 | h5
        · exact ih (by omega) i h5
        · have hi : i = ne + res.length + k := by omega
          subst hi
          have ih := ih (by omega)
          obtain ⟨q, hq⟩ : ∃ q, d.2.2[k]? = some q := ⟨_, List.getElem?_eq_getElem (by omega)⟩
          have c1 := g13 r hr k q hq
          have c2 := hcel k q hq
          obtain ⟨b1, b2⟩ := g12 k q hq
          rw [len1] at c1 b1 b2
          exact c_cell_fun hD (fun hz => ih _ (b1 hz)) (c_ev_congr fun z hz => ih _ (b2 z hz)) c1 c2
    obtain ⟨Z, e3, s3, l3, b3⟩ := c_assumes_ok d.1 Y.1 Y.2 g1 (fun f hf e he r h9 hr => fact Y.2 r _ rfl (fun i hi => val2 r h9 hr d.2.2.length (Nat.le_refl _) i (by rw [g6, List.length_append, len1, g7] at hi; exact hi)) f hf e he)
    rw [e3] at h
    dsimp only at h
    cases h
    obtain ⟨s4, c4, c5⟩ := c_flags_ok (th := Y.2) d.2.1 Z s3 (fun q hq h12 e he r h9 hr => by
      have hv := val2 r h9 (b3 r hr) d.2.2.length (Nat.le_refl _) q.1 (by have := (List.getElem?_eq_some_iff.mp he).1; rw [g6, List.length_append, len1, g7] at this; exact this)
      have : c_val r Y.2 q.1 = c_ev r e := by unfold c_val; rw [he]
      rw [← this, hv]
      exact hfl q hq h12)
    have cuZ : c_cu Z = c_cu Y.1 := by
      have := congrArg (fun x => x.2.2.2.1) l3.2.2
      exact this
    have suZ : c_su Z = c_su Y.1 := by
      have := congrArg (fun x => x.2.2.2.2) l3.2.2
      exact this
    refine ⟨_, rfl, ?_, ?_, ?_⟩
    · have stkG : ∀ (l : List (Nat × Nat)) (A : cSt), c_stk (c_flags A Y.2 l) = c_stk A := by
        intro l
        induction l with
        | nil => intro A; rfl
        | cons q l ih =>
          intro A
          unfold c_flags
          split
          · exact ih A
          · split
            · exact ih A
            · split
              · rw [ih]; rfl
              · exact ih A
      have stkZ : c_stk Z = c_stk Y.1 := by
        have := congrArg (fun x => x.2.1) l3.2.2
        exact this
      refine s4.setS fun r hr => ?_
      have hF2 : c_F2 (c_DV r) (c_stk (c_flags Z Y.2 d.2.1)) (vs ++ (rv ++ ss)) := hr.2.2.2.2.2.1
      rw [stkG, stkZ, g2, stkC] at hF2
      have key : ∀ (a : List cAV) (b : List Value), a.length = b.length → c_F2 (c_DV r) (a ++ c_stk B1) (b ++ (rv ++ ss)) → c_F2 (c_DV r) (c_stk B1) (rv ++ ss) := by
        intro a
        induction a with
        | nil => intro b hb h; cases b with
          | nil => exact h
          | cons _ _ => cases hb
        | cons y a ih => intro b hb h; cases b with
          | nil => cases hb
          | cons z b => exact ih b (by simpa using hb) h.2
      exact key S' vs g3 hF2
    · show c_cu (c_flags Z Y.2 d.2.1) = _
      rw [c4, cuZ, g4, cuC, cu1]
    · show c_su (c_flags Z Y.2 d.2.1) = _
      rw [c5, suZ, g5, suC, su1]
end CD
