/-! the checker is sound: instructions without the heap -/
abbrev cX : Type := (Program × Launch × Env × Room × State × MethodId × Array Value × List Frame × Method × Code) × (va_G × List vw_C × (Nat → ClassId) × (Nat → Prop)) × (cTab × cCtr × cWld) × (ByteArray × Nat × (State → Prop))
/-- from every machine state that the abstract state describes, the goal is reached -/
def c_OK (X : cX) (n0 : Nat) (r0 : Nat → Int) (pc : Nat) (A : cSt) : Prop := match X with
  | ((p, l, e, R, s, m, args, below, meth, c), (D, cl, dA, AA), (K, O, w0), (_, nL, Q)) =>
    ∀ (lv : List (Nat × Value)) (st : List Value) (w : cWld) (cu su : Nat), c_cu A = cu → c_su A = su → c_TW K dA w → c_ext (ct_eff O) (ct_pros O) w0 w → c_sat n0 r0 A lv st w →
    ∀ (H : Heap) (locs : List Loc) (ls : Array Slot), va_P D cl w.2.1 H → va_D AA w.2.1 → va_S AA s.heap H locs → lv_has ls nL lv → W p l e R s m args below meth c H locs cu su Q (F0 m pc ls st)
section C8
variable {n0 : Nat} {r0 : Nat → Int} {A : cSt} {lv : List (Nat × Value)} {st : List Value} {w : cWld}
theorem c_top1 (hs : c_sat n0 r0 A lv st w) {a : cAV} {S : List cAV} (h : c_stk A = a :: S) : ∃ v ss, st = v :: ss ∧ ∀ r, c_satR A r lv st w → c_DV r a v ∧ c_F2 (c_DV r) S ss := by
  obtain ⟨r, -, hr⟩ := hs.at
  have h1 : c_F2 (c_DV r) (c_stk A) st := hr.2.2.2.2.2.1
  rw [h] at h1
  obtain ⟨v, ss, rfl, -, -⟩ := c_F2_cons h1
  refine ⟨v, ss, rfl, fun r' hr' => ?_⟩
  have h2 : c_F2 (c_DV r') (c_stk A) (v :: ss) := hr'.2.2.2.2.2.1
  rw [h] at h2
  exact h2
theorem c_DVi {r : Nat → Int} {a : cAV} {v : Value} (h : c_DV r a v) (ha : a.1 = 0) : ∃ x : Int32, v = .int x ∧ x.toInt = c_ev r a.2 := by
  unfold c_DV at h
  rw [ha] at h
  exact h
theorem c_DVl {r : Nat → Int} {a : cAV} {v : Value} (h : c_DV r a v) (ha : a.1 = 1) : ∃ x : Int64, v = .long x ∧ x.toInt = c_ev r a.2 := by
  unfold c_DV at h
  rw [ha] at h
  exact h
theorem c_DVr {r : Nat → Int} {a : cAV} {v : Value} (h : c_DV r a v) (ha : a.1 = 2) : (v = .null ∧ c_ev r a.2 = -1) ∨ ∃ x : Nat, v = .ref x ∧ c_ev r a.2 = (x : Int) := by
  unfold c_DV at h
  rw [ha] at h
  exact h
theorem c_topi (hs : c_sat n0 r0 A lv st w) {a : cAV} {S : List cAV} (h : c_stk A = a :: S) (ha : a.1 = 0) : ∃ (x : Int32) (ss : List Value), st = .int x :: ss ∧ ∀ r, c_satR A r lv st w → x.toInt = c_ev r a.2 ∧ c_F2 (c_DV r) S ss := by
  obtain ⟨v, ss, rfl, k⟩ := c_top1 hs h
  obtain ⟨r, -, hr⟩ := hs.at
  obtain ⟨x, rfl, -⟩ := c_DVi (k r hr).1 ha
  refine ⟨x, ss, rfl, fun r' hr' => ⟨?_, (k r' hr').2⟩⟩
  obtain ⟨y, e, h2⟩ := c_DVi (k r' hr').1 ha
  cases e
  exact h2
theorem c_topl (hs : c_sat n0 r0 A lv st w) {a : cAV} {S : List cAV} (h : c_stk A = a :: S) (ha : a.1 = 1) : ∃ (x : Int64) (ss : List Value), st = .long x :: ss ∧ ∀ r, c_satR A r lv st w → x.toInt = c_ev r a.2 ∧ c_F2 (c_DV r) S ss := by
  obtain ⟨v, ss, rfl, k⟩ := c_top1 hs h
  obtain ⟨r, -, hr⟩ := hs.at
  obtain ⟨x, rfl, -⟩ := c_DVl (k r hr).1 ha
  refine ⟨x, ss, rfl, fun r' hr' => ⟨?_, (k r' hr').2⟩⟩
  obtain ⟨y, e, h2⟩ := c_DVl (k r' hr').1 ha
  cases e
  exact h2
theorem c_topi2 (hs : c_sat n0 r0 A lv st w) {a b : cAV} {S : List cAV} (h : c_stk A = b :: a :: S) (ha : a.1 = 0) (hb : b.1 = 0) : ∃ (x y : Int32) (ss : List Value), st = .int y :: .int x :: ss ∧ ∀ r, c_satR A r lv st w → x.toInt = c_ev r a.2 ∧ y.toInt = c_ev r b.2 ∧ c_F2 (c_DV r) S ss := by
  obtain ⟨y, ss, rfl, k⟩ := c_topi hs h hb
  obtain ⟨r, -, hr⟩ := hs.at
  obtain ⟨v, ss, rfl, h1, -⟩ := c_F2_cons (k r hr).2
  obtain ⟨x, rfl, -⟩ := c_DVi h1 ha
  refine ⟨x, y, ss, rfl, fun r' hr' => ⟨?_, (k r' hr').1, (k r' hr').2.2⟩⟩
  obtain ⟨z, e, h2⟩ := c_DVi (k r' hr').2.1 ha
  cases e
  exact h2
theorem c_topl2 (hs : c_sat n0 r0 A lv st w) {a b : cAV} {S : List cAV} (h : c_stk A = b :: a :: S) (ha : a.1 = 1) (hb : b.1 = 1) : ∃ (x y : Int64) (ss : List Value), st = .long y :: .long x :: ss ∧ ∀ r, c_satR A r lv st w → x.toInt = c_ev r a.2 ∧ y.toInt = c_ev r b.2 ∧ c_F2 (c_DV r) S ss := by
  obtain ⟨y, ss, rfl, k⟩ := c_topl hs h hb
  obtain ⟨r, -, hr⟩ := hs.at
  obtain ⟨v, ss, rfl, h1, -⟩ := c_F2_cons (k r hr).2
  obtain ⟨x, rfl, -⟩ := c_DVl h1 ha
  refine ⟨x, y, ss, rfl, fun r' hr' => ⟨?_, (k r' hr').1, (k r' hr').2.2⟩⟩
  obtain ⟨z, e, h2⟩ := c_DVl (k r' hr').2.1 ha
  cases e
  exact h2
end C8
/-- shapes of what the helpers return -/
theorem c_bin_inv {A : cSt} {nx k : Nat} {f : cLin → cLin → List cAV → Option cSt} {L : List (Nat × cSt)} (h : c_bin A nx k f = some L) : ∃ b a S B, c_stk A = b :: a :: S ∧ a.1 = k ∧ b.1 = k ∧ f a.2 b.2 S = some B ∧ L = [(nx, B)] := by
  unfold c_bin at h
  split at h
  · rename_i b a S hs
    split at h
    · rename_i hb
      rw [Bool.and_eq_true] at hb
      unfold c_seq at h
      cases hf : f a.2 b.2 S with
      | none => rw [hf] at h; cases h
      | some B =>
        rw [hf] at h
        cases h
        exact ⟨b, a, S, B, hs, Nat.eq_of_beq_eq_true hb.1, Nat.eq_of_beq_eq_true hb.2, hf, rfl⟩
    · cases h
  · cases h
theorem c_un_inv {A : cSt} {nx k : Nat} {f : cLin → List cAV → Option cSt} {L : List (Nat × cSt)} (h : c_un A nx k f = some L) : ∃ a S B, c_stk A = a :: S ∧ a.1 = k ∧ f a.2 S = some B ∧ L = [(nx, B)] := by
  unfold c_un at h
  split at h
  · rename_i a S hs
    split at h
    · rename_i hb
      unfold c_seq at h
      cases hf : f a.2 S with
      | none => rw [hf] at h; cases h
      | some B =>
        rw [hf] at h
        cases h
        exact ⟨a, S, B, hs, Nat.eq_of_beq_eq_true hb, hf, rfl⟩
    · cases h
  · cases h
theorem c_len_inv {len k : Nat} {r : Option (List (Nat × cSt))} {L : List (Nat × cSt)} (h : c_len len k r = some L) : len = k ∧ r = some L := by
  unfold c_len at h
  split at h
  · rename_i hb
    exact ⟨Nat.eq_of_beq_eq_true hb, h⟩
  · cases h
theorem c_norm_cu (A : cSt) (k : Nat) (e : cLin) (S : List cAV) : c_cu (c_norm A k e S) = c_cu A ∧ c_su (c_norm A k e S) = c_su A := by
  unfold c_norm; split <;> exact ⟨rfl, rfl⟩
theorem c_mulx_cu (A : cSt) (k : Nat) (x y : cLin) (S : List cAV) : c_cu (c_mulx A k x y S) = c_cu A ∧ c_su (c_mulx A k x y S) = c_su A := by
  unfold c_mulx
  split
  · exact c_norm_cu ..
  · split
    · exact c_norm_cu ..
    · dsimp only
      split
      · split
        · split <;> exact ⟨rfl, rfl⟩
        · exact ⟨rfl, rfl⟩
      · split
        · split <;> exact ⟨rfl, rfl⟩
        · exact ⟨rfl, rfl⟩
theorem c_andx_cu (A : cSt) (x y : cLin) (S : List cAV) : c_cu (c_andx A x y S) = c_cu A ∧ c_su (c_andx A x y S) = c_su A := by
  unfold c_andx
  split
  · split
    · split <;> exact ⟨rfl, rfl⟩
    · split <;> exact ⟨rfl, rfl⟩
  · exact ⟨rfl, rfl⟩
theorem c_orx_cu (A : cSt) (x y : cLin) (S : List cAV) : c_cu (c_orx A x y S) = c_cu A ∧ c_su (c_orx A x y S) = c_su A := by
  unfold c_orx
  split
  · split <;> exact ⟨rfl, rfl⟩
  · exact ⟨rfl, rfl⟩
theorem c_shlx_cu (A : cSt) (x y : cLin) (S : List cAV) : c_cu (c_shlx A x y S) = c_cu A ∧ c_su (c_shlx A x y S) = c_su A := by
  unfold c_shlx
  split
  · split <;> exact ⟨rfl, rfl⟩
  · exact ⟨rfl, rfl⟩
theorem c_cutx_cu (A : cSt) (lo hi : Int) (x : cLin) (S : List cAV) : c_cu (c_cutx A lo hi x S) = c_cu A ∧ c_su (c_cutx A lo hi x S) = c_su A := by
  unfold c_cutx; split <;> exact ⟨rfl, rfl⟩
section C9
variable {n0 : Nat} {r0 : Nat → Int} {A : cSt} {lv : List (Nat × Value)} {st ss : List Value} {w : cWld} {S : List cAV}
theorem c_sat.mulx0 {a b : cLin} (h : c_sat n0 r0 A lv st w) (x y : Int32) (k : ∀ r, c_satR A r lv st w → x.toInt = c_ev r a ∧ y.toInt = c_ev r b ∧ c_F2 (c_DV r) S ss) : c_sat n0 r0 (c_mulx A 0 a b S) lv (.int (x * y) :: ss) w := by
  have hp : ∀ r, c_satR A r lv st w → -2147483648 ≤ c_ev r a * c_ev r b → c_ev r a * c_ev r b ≤ 2147483647 → (x * y).toInt = c_ev r a * c_ev r b := by
    intro r hr h1 h2
    rw [Int32.toInt_mul, (k r hr).1, (k r hr).2.1, c_bm32 h1 h2]
  unfold c_mulx
  split
  · rename_i hb
    have hb : b.2 = [] := List.isEmpty_iff.mp hb
    have eb : ∀ r, c_ev r b = b.1 := fun r => by unfold c_ev; rw [hb]; show b.1 + 0 = b.1; omega
    refine h.norm0 _ (fun r hr h1 h2 => ?_) (fun r hr => (k r hr).2.2)
    rw [c_ev_mul, Int.mul_comm, ← eb r] at *
    exact hp r hr h1 h2
  · split
    · rename_i hb
      have hb : a.2 = [] := List.isEmpty_iff.mp hb
      have eb : ∀ r, c_ev r a = a.1 := fun r => by unfold c_ev; rw [hb]; show a.1 + 0 = a.1; omega
      refine h.norm0 _ (fun r hr h1 h2 => ?_) (fun r hr => (k r hr).2.2)
      rw [c_ev_mul, ← eb r] at *
      exact hp r hr h1 h2
    · dsimp only
      rw [if_neg (by intro q; cases q)]
      split
      · rename_i p q h1 h2
        split
        · rename_i hc
          obtain ⟨r, -, hr⟩ := h.at
          have g1 := c_rng_ok hr.1 h1
          have g2 := c_rng_ok hr.1 h2
          have g3 := c_prod g1.1 g1.2 g2.1 g2.2
          have hc1 : -2147483648 ≤ c_pmin p.1 p.2 q.1 q.2 := hc.1
          have hc2 : c_pmax p.1 p.2 q.1 q.2 ≤ 2147483647 := hc.2
          have g4 := hp r hr (by omega) (by omega)
          exact h.fr0 _ (by omega) (by omega) (fun r hr => (k r hr).2.2)
        · exact h.fr0 _ (c_i32 _).1 (c_i32 _).2 (fun r hr => (k r hr).2.2)
      · exact h.fr0 _ (c_i32 _).1 (c_i32 _).2 (fun r hr => (k r hr).2.2)
theorem c_sat.mulx1 {a b : cLin} (h : c_sat n0 r0 A lv st w) (x y : Int64) (k : ∀ r, c_satR A r lv st w → x.toInt = c_ev r a ∧ y.toInt = c_ev r b ∧ c_F2 (c_DV r) S ss) : c_sat n0 r0 (c_mulx A 1 a b S) lv (.long (x * y) :: ss) w := by
  have hp : ∀ r, c_satR A r lv st w → -9223372036854775808 ≤ c_ev r a * c_ev r b → c_ev r a * c_ev r b ≤ 9223372036854775807 → (x * y).toInt = c_ev r a * c_ev r b := by
    intro r hr h1 h2
    rw [Int64.toInt_mul, (k r hr).1, (k r hr).2.1, c_bm64 h1 h2]
  unfold c_mulx
  split
  · rename_i hb
    have hb : b.2 = [] := List.isEmpty_iff.mp hb
    have eb : ∀ r, c_ev r b = b.1 := fun r => by unfold c_ev; rw [hb]; show b.1 + 0 = b.1; omega
    refine h.norm1 _ (fun r hr h1 h2 => ?_) (fun r hr => (k r hr).2.2)
    rw [c_ev_mul, Int.mul_comm, ← eb r] at *
    exact hp r hr h1 h2
  · split
    · rename_i hb
      have hb : a.2 = [] := List.isEmpty_iff.mp hb
      have eb : ∀ r, c_ev r a = a.1 := fun r => by unfold c_ev; rw [hb]; show a.1 + 0 = a.1; omega
      refine h.norm1 _ (fun r hr h1 h2 => ?_) (fun r hr => (k r hr).2.2)
      rw [c_ev_mul, ← eb r] at *
      exact hp r hr h1 h2
    · dsimp only
      have plain : ∀ (lo hi : Int), lo ≤ (x * y).toInt → (x * y).toInt ≤ hi → c_sat n0 r0 (if (Nat.beq 1 1 && c_n32 A a && c_n32 A b) = true then c_setG (c_fr A 1 lo hi S) ((A.1, 1) :: (c_fr A 1 lo hi S).2.2.1) else c_fr A 1 lo hi S) lv (.long (x * y) :: ss) w := by
        intro lo hi h1 h2
        split
        · rename_i hn
          rw [Bool.and_eq_true, Bool.and_eq_true] at hn
          refine h.new (x * y).toInt rfl fun r _ hz hr => ⟨c_envOk_cons (by rw [hz]; exact h1) (by rw [hz]; exact h2) hr.1, fun q hq => ?_, hr.2.2.1, hr.2.2.2.1, hr.2.2.2.2.1, ⟨c_DV_sym1 hz, (k r hr).2.2⟩, hr.2.2.2.2.2.2⟩
          rcases List.mem_cons.mp hq with rfl | hq
          · show r A.1 ≠ 0
            rw [hz, Int64.toInt_mul, (k r hr).1, (k r hr).2.1]
            intro h0
            have n1 := c_n32_ok hr hn.1.2
            have n2 := c_n32_ok hr hn.2
            have n3 := c_nz2 n1 n2
            apply n3
            have e := Int.emod_bmod (x := c_ev r a * c_ev r b) (n := 2 ^ 64)
            have h5 : ((c_ev r a * c_ev r b).bmod (2 ^ 64)) % (2 ^ 64 : Nat) = (c_ev r a * c_ev r b) % (2 ^ 64 : Nat) := Int.bmod_emod
            rw [h0] at h5
            exact h5.symm
          · exact hr.2.1 q hq
        · exact h.fr1 _ h1 h2 (fun r hr => (k r hr).2.2)
      cases h1 : c_rng A.2.1 a with
      | none => exact plain _ _ (c_i64 _).1 (c_i64 _).2
      | some p =>
        cases h2 : c_rng A.2.1 b with
        | none => exact plain _ _ (c_i64 _).1 (c_i64 _).2
        | some q =>
          dsimp only
          by_cases hc : c_lo 1 ≤ c_pmin p.1 p.2 q.1 q.2 ∧ c_pmax p.1 p.2 q.1 q.2 ≤ c_hi 1
          · simp only [if_pos hc]
            obtain ⟨r, -, hr⟩ := h.at
            have g1 := c_rng_ok hr.1 h1
            have g2 := c_rng_ok hr.1 h2
            have g3 := c_prod g1.1 g1.2 g2.1 g2.2
            have hc1 : -9223372036854775808 ≤ c_pmin p.1 p.2 q.1 q.2 := hc.1
            have hc2 : c_pmax p.1 p.2 q.1 q.2 ≤ 9223372036854775807 := hc.2
            have g4 := hp r hr (by omega) (by omega)
            exact plain _ _ (by omega) (by omega)
          · simp only [if_neg hc]
            exact plain _ _ (c_i64 _).1 (c_i64 _).2
theorem c_sat.andx {a b : cLin} (h : c_sat n0 r0 A lv st w) (x y : Int32) (k : ∀ r, c_satR A r lv st w → x.toInt = c_ev r a ∧ y.toInt = c_ev r b ∧ c_F2 (c_DV r) S ss) : c_sat n0 r0 (c_andx A a b S) lv (.int (x &&& y) :: ss) w := by
  have kS := fun r hr => (k r hr).2.2
  obtain ⟨r, -, hr⟩ := h.at
  obtain ⟨e1, e2, -⟩ := k r hr
  unfold c_andx
  split
  · rename_i p q h1 h2
    have g1 := c_rng_ok hr.1 h1
    have g2 := c_rng_ok hr.1 h2
    split
    · have g := c_and x y (by omega)
      split
      · have g' := c_and y x (by omega)
        rw [c_andc] at g'
        exact h.fr0 _ (by omega) (by omega) kS
      · exact h.fr0 _ (by omega) (by omega) kS
    · split
      · have g' := c_and y x (by omega)
        rw [c_andc] at g'
        exact h.fr0 _ (by omega) (by omega) kS
      · exact h.fr0 _ (c_i32 _).1 (c_i32 _).2 kS
  · exact h.fr0 _ (c_i32 _).1 (c_i32 _).2 kS
theorem c_sat.orx {a b : cLin} (h : c_sat n0 r0 A lv st w) (x y : Int32) (k : ∀ r, c_satR A r lv st w → x.toInt = c_ev r a ∧ y.toInt = c_ev r b ∧ c_F2 (c_DV r) S ss) : c_sat n0 r0 (c_orx A a b S) lv (.int (x ||| y) :: ss) w := by
  have kS := fun r hr => (k r hr).2.2
  obtain ⟨r, -, hr⟩ := h.at
  obtain ⟨e1, e2, -⟩ := k r hr
  unfold c_orx
  split
  · rename_i p q h1 h2
    have g1 := c_rng_ok hr.1 h1
    have g2 := c_rng_ok hr.1 h2
    split
    · rename_i hc
      have g := c_or x y _ hc.2.2.2.2 (by omega) (by omega) (by omega) (by omega)
      exact h.fr0 _ g.1 g.2 kS
    · exact h.fr0 _ (c_i32 _).1 (c_i32 _).2 kS
  · exact h.fr0 _ (c_i32 _).1 (c_i32 _).2 kS
theorem c_sat.shlx {a b : cLin} (h : c_sat n0 r0 A lv st w) (x y : Int32) (k : ∀ r, c_satR A r lv st w → x.toInt = c_ev r a ∧ y.toInt = c_ev r b ∧ c_F2 (c_DV r) S ss) : c_sat n0 r0 (c_shlx A a b S) lv (.int (x <<< (y &&& 31)) :: ss) w := by
  have kS := fun r hr => (k r hr).2.2
  obtain ⟨r, -, hr⟩ := h.at
  obtain ⟨e1, e2, -⟩ := k r hr
  unfold c_shlx
  split
  · rename_i q h2
    have g2 := c_rng_ok hr.1 h2
    split
    · rename_i hc
      have hx : x = 1 := by
        apply Int32.toInt_inj.mp
        rw [e1, hc.1]; rfl
      subst hx
      have g := c_shl1 y q.1.toNat q.2.toNat (by omega) (by omega) (by omega)
      exact h.fr0 _ g.1 g.2 kS
    · exact h.fr0 _ (c_i32 _).1 (c_i32 _).2 kS
  · exact h.fr0 _ (c_i32 _).1 (c_i32 _).2 kS
/-- a conversion: e where it fits -/
theorem c_sat.cutx {e : cLin} {lo hi : Int} (h : c_sat n0 r0 A lv st w) (z : Int32) (hz : ∀ r, c_satR A r lv st w → lo ≤ c_ev r e → c_ev r e ≤ hi → z.toInt = c_ev r e) (h1 : lo ≤ z.toInt) (h2 : z.toInt ≤ hi) (k : ∀ r, c_satR A r lv st w → c_F2 (c_DV r) S ss) : c_sat n0 r0 (c_cutx A lo hi e S) lv (.int z :: ss) w := by
  unfold c_cutx
  split
  · rename_i hb
    exact h.setS fun r hr => ⟨⟨z, rfl, hz r hr (c_in2_ok hr hb).1 (c_in2_ok hr hb).2⟩, k r hr⟩
  · exact h.fr0 z h1 h2 k
end C9
