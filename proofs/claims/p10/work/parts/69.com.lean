/-! powers of two: what addTo keeps -/
theorem k_two_odd {x : Int} (hx : x % 2 = 1) : ∀ (k : Nat) (y : Int), (2 : Int) ^ k ∣ x * y → (2 : Int) ^ k ∣ y
  | 0, y, _ => ⟨y, by simp⟩
  | k + 1, y, h => by
    have h2 : (2 : Int) ∣ x * y := Int.dvd_trans ⟨(2 : Int) ^ k, by rw [Int.pow_succ, Int.mul_comm]⟩ h
    have h4 : (x * y) % 2 = 0 := Int.emod_eq_zero_of_dvd h2
    have h5 : y % 2 = 0 := by
      rcases Int.emod_two_eq y with g | g
      · exact g
      · rw [Int.mul_emod, hx, g] at h4
        exact absurd h4 (by decide)
    obtain ⟨z, rfl⟩ : (2 : Int) ∣ y := Int.dvd_of_emod_eq_zero h5
    obtain ⟨q, hq⟩ := h
    have : (2 : Int) ^ k ∣ x * z := by
      refine ⟨q, ?_⟩
      rw [Int.pow_succ, Int.mul_left_comm, Int.mul_comm ((2 : Int) ^ k) 2, Int.mul_assoc] at hq
      exact Int.eq_of_mul_eq_mul_left (by decide) hq
    obtain ⟨s, hs⟩ := k_two_odd hx k z this
    exact ⟨s, by rw [hs, Int.pow_succ, Int.mul_comm ((2 : Int) ^ k) 2, Int.mul_assoc]⟩
theorem k_twd : ∀ (a b : Nat) (x y : Int), (2 : Int) ^ (a + b + 1) ∣ x * y → (2 : Int) ^ (a + 1) ∣ x ∨ (2 : Int) ^ (b + 1) ∣ y
  | 0, b, x, y, h => by
    rcases Int.emod_two_eq x with h2 | h2
    · left
      rw [show 0 + 1 = 1 by rfl, Int.pow_succ]
      simpa using Int.dvd_of_emod_eq_zero h2
    · right
      have := k_two_odd h2 _ y h
      rw [Nat.zero_add] at this
      exact this
  | a + 1, b, x, y, h => by
    rcases Int.emod_two_eq x with h2 | h2
    · obtain ⟨z, rfl⟩ : (2 : Int) ∣ x := Int.dvd_of_emod_eq_zero h2
      obtain ⟨q, hq⟩ := h
      have : (2 : Int) ^ (a + b + 1) ∣ z * y := by
        refine ⟨q, ?_⟩
        rw [show a + 1 + b + 1 = (a + b + 1) + 1 by omega, Int.pow_succ, Int.mul_assoc, Int.mul_comm ((2 : Int) ^ (a + b + 1)) 2, Int.mul_assoc] at hq
        exact Int.eq_of_mul_eq_mul_left (by decide) hq
      rcases k_twd a b z y this with g | g
      · left
        obtain ⟨s, hs⟩ := g
        exact ⟨s, by rw [hs, Int.pow_succ (2 : Int) (a + 1), Int.mul_comm ((2 : Int) ^ (a + 1)) 2, Int.mul_assoc]⟩
      · exact Or.inr g
    · right
      have := k_two_odd h2 _ y h
      refine Int.dvd_trans ?_ this
      exact ⟨(2 : Int) ^ (a + 1), by rw [← Int.pow_add, show b + 1 + (a + 1) = a + 1 + b + 1 by omega]⟩
theorem k_p32 {x : Int} : x % 4294967296 ≠ 0 ↔ ¬ (2 : Int) ^ 32 ∣ x := by
  rw [show (2 : Int) ^ 32 = 4294967296 by decide]
  constructor
  · intro h hd; exact h (Int.emod_eq_zero_of_dvd hd)
  · intro h hd; exact h (Int.dvd_of_emod_eq_zero hd)
theorem k_pd {a b : Nat} (h : a ≤ b) : (2 : Int) ^ a ∣ (2 : Int) ^ b := ⟨(2 : Int) ^ (b - a), by rw [← Int.pow_add]; congr 1; omega⟩
/-- the lowest bits of a reduced bottom -/
theorem k_red {bt b tp t T B x : Int} (h1 : bt % 4294967296 ≠ 0) (h2 : b % 4294967296 ≠ 0) (hT : (2 : Int) ^ 64 ∣ T - (tp * b + t * bt)) (hB : (2 : Int) ^ 64 ∣ B - bt * b) (hxB : x ∣ B) (hx : ∀ d : Int, d ∣ T → d ∣ B → d ∣ x) : (B.tdiv x) % 4294967296 ≠ 0 := by
  rw [k_p32] at h1 h2 ⊢
  obtain ⟨m, hm, m1, m2, m3⟩ : ∃ m : Nat, m < 32 ∧ (2 : Int) ^ m ∣ bt ∧ (2 : Int) ^ m ∣ b ∧ (¬ (2 : Int) ^ (m + 1) ∣ bt ∨ ¬ (2 : Int) ^ (m + 1) ∣ b) := by
    apply Classical.byContradiction
    intro hn
    have step : ∀ m : Nat, m ≤ 32 → (2 : Int) ^ m ∣ bt ∧ (2 : Int) ^ m ∣ b := by
      intro m
      induction m with
      | zero => intro _; exact ⟨⟨bt, by simp⟩, ⟨b, by simp⟩⟩
      | succ m ih =>
        intro hm
        obtain ⟨g1, g2⟩ := ih (by omega)
        apply Classical.byContradiction
        intro hc
        exact hn ⟨m, by omega, g1, g2, by
          by_cases q : (2 : Int) ^ (m + 1) ∣ bt
          · exact Or.inr (fun z => hc ⟨q, z⟩)
          · exact Or.inl q⟩
    exact h1 (step 32 (Nat.le_refl _)).1
  have p64 : ∀ k : Nat, k ≤ 64 → ∀ u v : Int, (2 : Int) ^ 64 ∣ u - v → (2 : Int) ^ k ∣ v → (2 : Int) ^ k ∣ u := by
    intro k hk u v huv hv
    have := Int.dvd_add (Int.dvd_trans (k_pd hk) huv) hv
    rwa [Int.sub_add_cancel] at this
  have dT : (2 : Int) ^ m ∣ T := p64 m (by omega) _ _ hT (Int.dvd_add (Int.dvd_trans m2 ⟨tp, Int.mul_comm _ _⟩) (Int.dvd_trans m1 ⟨t, Int.mul_comm _ _⟩))
  have dB : (2 : Int) ^ m ∣ B := p64 m (by omega) _ _ hB (Int.dvd_trans m1 ⟨b, rfl⟩)
  have dx := hx _ dT dB
  intro hq
  have hxq : x * B.tdiv x = B := Int.mul_tdiv_cancel' hxB
  have big : (2 : Int) ^ (m + 32) ∣ bt * b := by
    have e : (2 : Int) ^ (m + 32) ∣ B := by
      rw [← hxq, Int.pow_add]
      exact Int.mul_dvd_mul dx hq
    refine p64 (m + 32) (by omega) _ _ ?_ e
    obtain ⟨z, hz⟩ := hB
    exact ⟨-z, by rw [Int.mul_neg, ← hz]; omega⟩
  rcases m3 with m3 | m3
  · rcases k_twd m 31 bt b (by rw [show m + 31 + 1 = m + 32 by omega]; exact big) with g | g
    · exact m3 g
    · exact h2 g
  · rcases k_twd m 31 b bt (by rw [show m + 31 + 1 = m + 32 by omega, Int.mul_comm]; exact big) with g | g
    · exact m3 g
    · exact h1 g

/-! common: what divides both divides the answer -/
theorem k_rem64e (x y : Int64) : x - (x / y) * y = x % y := by
  apply Int64.toInt_inj.mp
  have h1 := Int64.le_toInt (x % y)
  have h2 := Int64.toInt_lt (x % y)
  rw [Int64.toInt_sub, Int64.toInt_mul, Int64.toInt_div, Int.bmod_mul_bmod, Int.sub_bmod_bmod, Int.mul_comm (x.toInt.tdiv y.toInt), ← Int.tmod_def, ← Int64.toInt_mod]
  exact Int.bmod_eq_of_le_mul_two (by omega) (by omega)
theorem k_rem64 (x y : Int64) : (x - x / y * y).toInt = x.toInt.tmod y.toInt := by rw [k_rem64e]; exact Int64.toInt_mod x y
theorem k_tmod_dvd {x y d : Int} (h : d ∣ y) : d ∣ x.tmod y ↔ d ∣ x := by
  have h1 : x.tmod y = x - y * x.tdiv y := Int.tmod_def x y
  have h2 : d ∣ y * x.tdiv y := Int.dvd_trans h ⟨x.tdiv y, rfl⟩
  rw [h1]
  constructor
  · intro g
    have := Int.dvd_add g h2
    rwa [Int.sub_add_cancel] at this
  · intro g
    exact Int.dvd_sub g h2
theorem k_tmod_lt {x y : Int} (h : y ≠ 0) : (x.tmod y).natAbs < y.natAbs := by
  rw [Int.natAbs_tmod]
  exact Nat.mod_lt _ (by omega)
/-- of x and y the common divisors are those of a and b -/
def k_cd (a b x y : Int) : Prop := ∀ d : Int, (d ∣ x ∧ d ∣ y) ↔ (d ∣ a ∧ d ∣ b)
theorem k_cd_step {a b x y : Int} (h : k_cd a b x y) : k_cd a b y (x.tmod y) := by
  intro d
  rw [← h d]
  constructor
  · rintro ⟨h1, h2⟩; exact ⟨(k_tmod_dvd h1).mp h2, h1⟩
  · rintro ⟨h1, h2⟩; exact ⟨h2, (k_tmod_dvd h2).mpr h1⟩
/-- what common answers -/
def k_com (a b x : Int) : Prop := x ∣ a ∧ x ∣ b ∧ ∀ d : Int, d ∣ a → d ∣ b → d ∣ x
theorem k_cd_end {a b x : Int} (h : k_cd a b x 0) : k_com a b x := by
  have h1 := (h x).mp ⟨Int.dvd_refl _, Int.dvd_zero _⟩
  exact ⟨h1.1, h1.2, fun d d1 d2 => ((h d).mpr ⟨d1, d2⟩).1⟩
theorem k_dc12 : decode prog_14_method_9_code 12 = .ok (.lload 6, 2) := by decide +kernel
theorem k_dc14 : decode prog_14_method_9_code 14 = .ok (.lconst 0, 1) := by decide +kernel
theorem k_dc15 : decode prog_14_method_9_code 15 = .ok (.lcmp, 1) := by decide +kernel
theorem k_dc16 : decode prog_14_method_9_code 16 = .ok (.ifCond .eq 21, 3) := by decide +kernel
theorem k_dc19 : decode prog_14_method_9_code 19 = .ok (.lload 4, 2) := by decide +kernel
theorem k_dc21 : decode prog_14_method_9_code 21 = .ok (.lload 6, 2) := by decide +kernel
theorem k_dc23 : decode prog_14_method_9_code 23 = .ok (.lrem, 1) := by decide +kernel
theorem k_dc24 : decode prog_14_method_9_code 24 = .ok (.lstore 8, 2) := by decide +kernel
theorem k_dc26 : decode prog_14_method_9_code 26 = .ok (.lload 6, 2) := by decide +kernel
theorem k_dc28 : decode prog_14_method_9_code 28 = .ok (.lstore 4, 2) := by decide +kernel
theorem k_dc30 : decode prog_14_method_9_code 30 = .ok (.lload 8, 2) := by decide +kernel
theorem k_dc32 : decode prog_14_method_9_code 32 = .ok (.lstore 6, 2) := by decide +kernel
theorem k_dc34 : decode prog_14_method_9_code 34 = .ok (.goto (-22), 3) := by decide +kernel
section KC
variable {p : Program} {l : Launch} {e : Env} {R : Room} {s : State} {m : MethodId} {args : Array Value} {below : List Frame} {meth : Method} {c : Code} {Q : State → Prop}
theorem k_com_loop (hx : p.tables.exec = Jvm.exec) (hb : c.code = prog_14_method_9_code) {a b : Int} {H : Heap} {locs : List Loc} {cells slots : Nat}
    (kk : ∀ (x : Int64) (ls : Array Slot) (lv : List (Nat × Value)), k_com a b x.toInt → lv_has ls 10 ((4, .long x) :: lv) → W p l e R s m args below meth c H locs cells slots Q (F0 m 37 ls [])) :
    ∀ (n : Nat) (x y : Int64) (ls : Array Slot), y.toInt.natAbs < n → k_cd a b x.toInt y.toInt → lv_has ls 10 [(6, .long y), (4, .long x)] → W p l e R s m args below meth c H locs cells slots Q (F0 m 12 ls [])
  | 0, _, _, _, h, _, _ => absurd h (Nat.not_lt_zero _)
  | n + 1, x, y, ls, hn, hcd, hl => by
    refine lv_lload hx hb k_dc12 (lv_at hl 0 rfl) ?_
    refine lv_lconst (v := 0) hx hb k_dc14 (by decide) ?_
    refine W.lcmp hx hb k_dc15 ?_
    have hs := c_sgn y 0
    have h0 : (0 : Int64).toInt = 0 := by decide
    refine lv_if_eq hx hb k_dc16 (tgt := 37) (by decide) (fun hz => ?_) (fun hz => ?_)
    · have hy : y.toInt = 0 := by
        rw [c_eq0] at hz
        omega
      rw [hy] at hcd
      refine kk x ls [(6, .long y)] (k_cd_end hcd) ⟨hl.1, hl.2.1, fun q hq => hl.2.2 q ?_⟩
      rcases List.mem_cons.mp hq with rfl | hq
      · exact List.mem_cons_of_mem _ List.mem_cons_self
      · rcases List.mem_cons.mp hq with rfl | hq
        · exact List.mem_cons_self
        · cases hq
    · have hy : y.toInt ≠ 0 := by
        rw [c_eq0] at hz
        omega
      have hy0 : ¬ y = 0 := fun q => hy (by rw [q]; exact h0)
      refine lv_lload hx hb k_dc19 (lv_at hl 1 rfl) ?_
      refine lv_lload hx hb k_dc21 (lv_at hl 0 rfl) ?_
      refine lv_lrem hx hb k_dc23 hy0 ?_
      have hr := k_rem64 x y
      generalize x - x / y * y = z at hr ⊢
      refine lv_lstore (lv' := [(8, .long z), (6, .long y), (4, .long x)]) hx hb k_dc24 hl (by decide) rfl fun ls1 hl1 => ?_
      refine lv_lload hx hb k_dc26 (lv_at hl1 1 rfl) ?_
      refine lv_lstore (lv' := [(4, .long y), (8, .long z), (6, .long y)]) hx hb k_dc28 hl1 (by decide) rfl fun ls2 hl2 => ?_
      refine lv_lload hx hb k_dc30 (lv_at hl2 1 rfl) ?_
      refine lv_lstore (lv' := [(6, .long z), (4, .long y), (8, .long z)]) hx hb k_dc32 hl2 (by decide) rfl fun ls3 hl3 => ?_
      refine lv_goto hx hb k_dc34 (tgt := 12) (by decide) ?_
      refine k_com_loop hx hb kk n y z ls3 ?_ ?_ ⟨hl3.1, hl3.2.1, fun q hq => hl3.2.2 q ?_⟩
      · rw [hr]
        have := k_tmod_lt (x := x.toInt) hy
        omega
      · rw [hr]
        exact k_cd_step hcd
      · rcases List.mem_cons.mp hq with rfl | hq
        · exact List.mem_cons_self
        · rcases List.mem_cons.mp hq with rfl | hq
          · exact List.mem_cons_of_mem _ List.mem_cons_self
          · cases hq
end KC

/-! addTo on machine numbers -/
theorem k_bm (x : Int) : (2 : Int) ^ 64 ∣ x.bmod (2 ^ 64) - x := by
  have h := Int.dvd_bmod_sub_self (x := x) (m := 2 ^ 64)
  simpa using h
theorem k_mulL (x y : Int64) : (2 : Int) ^ 64 ∣ (x * y).toInt - x.toInt * y.toInt := by
  rw [Int64.toInt_mul]
  exact k_bm _
theorem k_addL (x y : Int64) : (2 : Int) ^ 64 ∣ (x + y).toInt - (x.toInt + y.toInt) := by
  rw [Int64.toInt_add]
  exact k_bm _
theorem k_mod32 {u v : Int} (h : (2 : Int) ^ 64 ∣ u - v) (hv : v % 4294967296 ≠ 0) : u % 4294967296 ≠ 0 := by
  obtain ⟨z, hz⟩ := h
  rw [show (2 : Int) ^ 64 = 18446744073709551616 by decide] at hz
  omega
theorem k_addTo {bt b tp t x : Int64} (h1 : bt.toInt % 4294967296 ≠ 0) (h2 : b.toInt % 4294967296 ≠ 0) (hc : k_com (tp * b + t * bt).toInt (bt * b).toInt x.toInt) : (bt * b / x).toInt % 4294967296 ≠ 0 := by
  have hT : (2 : Int) ^ 64 ∣ (tp * b + t * bt).toInt - (tp.toInt * b.toInt + t.toInt * bt.toInt) := by
    have a1 := k_addL (tp * b) (t * bt)
    have a2 := k_mulL tp b
    have a3 := k_mulL t bt
    have := Int.dvd_add a1 (Int.dvd_add a2 a3)
    have e : (tp * b + t * bt).toInt - ((tp * b).toInt + (t * bt).toInt) + ((tp * b).toInt - tp.toInt * b.toInt + ((t * bt).toInt - t.toInt * bt.toInt)) = (tp * b + t * bt).toInt - (tp.toInt * b.toInt + t.toInt * bt.toInt) := by omega
    rwa [e] at this
  have key := k_red h1 h2 hT (k_mulL bt b) hc.2.1 hc.2.2
  rw [Int64.toInt_div]
  exact k_mod32 (k_bm _) key
/-- the answer isn't 0 where the second isn't -/
theorem k_com_ne {a b x : Int} (h : k_com a b x) (hb : b ≠ 0) : x ≠ 0 := by
  intro e
  rw [e] at h
  exact hb (Int.zero_dvd.mp h.2.1)

/-! Math.abs, common, addTo -/
theorem k_dab0 : decode k_M358.2.1 0 = .ok (.lload_n 0, 1) := by decide +kernel
theorem k_dab1 : decode k_M358.2.1 1 = .ok (.lconst 0, 1) := by decide +kernel
theorem k_dab2 : decode k_M358.2.1 2 = .ok (.lcmp, 1) := by decide +kernel
theorem k_dab3 : decode k_M358.2.1 3 = .ok (.ifCond .ge 8, 3) := by decide +kernel
theorem k_dab6 : decode k_M358.2.1 6 = .ok (.lload_n 0, 1) := by decide +kernel
theorem k_dab7 : decode k_M358.2.1 7 = .ok (.lneg, 1) := by decide +kernel
theorem k_dab8 : decode k_M358.2.1 8 = .ok (.goto 4, 3) := by decide +kernel
theorem k_dab11 : decode k_M358.2.1 11 = .ok (.lload_n 0, 1) := by decide +kernel
theorem k_dab12 : decode k_M358.2.1 12 = .ok (.lreturn, 1) := by decide +kernel
def k_absP (v : Int64) (o : Option Value) : Prop := ∃ x : Int64, o = some (.long x) ∧ (x.toInt = v.toInt ∨ x.toInt = -v.toInt)
theorem k_negL (v : Int64) : (-v).toInt = v.toInt ∨ (-v).toInt = -v.toInt := by
  have h1 := v.le_toInt
  have h2 := v.toInt_lt
  rw [Int64.toInt_neg]
  by_cases h : v.toInt = -9223372036854775808
  · left
    rw [h]
    decide
  · right
    exact Int.bmod_eq_of_le_mul_two (by omega) (by omega)
theorem k_mAbs {l : Launch} (v : Int64) (d : Nat) : Met l k_M358.1 (c_ws k_Z k_M358) (k_rm d) (va_Pc [.long v] (fun _ => True)) (k_Sq (k_absP v)) 0 0 (fun _ => False) := by
  refine k_ofWF (cc := k_M358.2.1) (maxL := 2) (ret := k_M358.2.2.2.1) (by decide +kernel) rfl ?_
  intro p e s m args below meth c s₁ B hml hv
  obtain ⟨rfl, hv⟩ := hv
  have hx := B.exec
  have hb := B.bytes
  have hr := B.returns
  have hlocks := B.notSynchronized
  have hl := lv_entry ([.long v]) (n := 2) (Nat.le_of_ble_eq_true rfl)
  rw [lg_entry_eq]
  generalize (lg_sl ([.long v]) ++ List.replicate (2 - (lg_sl ([.long v])).length) Slot.unset).toArray = ls at hl ⊢
  have hl : lv_has ls 2 [(0, .long v)] := hl
  refine lv_lload_n hx hb k_dab0 rfl (lv_at hl 0 rfl) ?_
  refine lv_lconst (v := 0) hx hb k_dab1 (by decide) ?_
  refine W.lcmp hx hb k_dab2 ?_
  refine lv_if_ge hx hb k_dab3 (tgt := 11) (by decide) (fun _ => ?_) (fun _ => ?_)
  · refine lv_lload_n hx hb k_dab11 rfl (lv_at hl 0 rfl) ?_
    exact W.lret hx hb hr (fun t ht hW => ⟨⟨_, rfl, ⟨v, rfl, Or.inl rfl⟩⟩, ht⟩) (fun q hq => by cases hq) k_dab12 hlocks
  · refine lv_lload_n hx hb k_dab6 rfl (lv_at hl 0 rfl) ?_
    refine lv_lneg hx hb k_dab7 ?_
    refine lv_goto hx hb k_dab8 (tgt := 12) (by decide) ?_
    exact W.lret hx hb hr (fun t ht hW => ⟨⟨_, rfl, ⟨-v, rfl, k_negL v⟩⟩, ht⟩) (fun q hq => by cases hq) k_dab12 hlocks
theorem k_dc0 : decode prog_14_method_9_code 0 = .ok (.lload_n 0, 1) := by decide +kernel
theorem k_dc1 : decode prog_14_method_9_code 1 = .ok (.invokestatic 90, 3) := by decide +kernel
theorem k_dc4 : decode prog_14_method_9_code 4 = .ok (.lstore 4, 2) := by decide +kernel
theorem k_dc6 : decode prog_14_method_9_code 6 = .ok (.lload_n 2, 1) := by decide +kernel
theorem k_dc7 : decode prog_14_method_9_code 7 = .ok (.invokestatic 90, 3) := by decide +kernel
theorem k_dc10 : decode prog_14_method_9_code 10 = .ok (.lstore 6, 2) := by decide +kernel
theorem k_dc37 : decode prog_14_method_9_code 37 = .ok (.lload 4, 2) := by decide +kernel
theorem k_dc39 : decode prog_14_method_9_code 39 = .ok (.lreturn, 1) := by decide +kernel
theorem k_dvp {d a x : Int} (h : x = a ∨ x = -a) : d ∣ x ↔ d ∣ a := by
  rcases h with rfl | rfl
  · exact Iff.rfl
  · exact Int.dvd_neg
section KCW
variable {p : Program} {l : Launch} {e : Env} {R : Room} {s : State} {m : MethodId} {args : Array Value} {below : List Frame} {meth : Method} {c : Code} {Q : State → Prop}
theorem k_absRun {pc d : Nat} {H : Heap} {locs : List Loc} {cells slots : Nat} {ls : Array Slot} {v : Int64} {nL : Nat} (hx : p.tables.exec = Jvm.exec) (hb : c.code = prog_14_method_9_code) (hml : c.maxLocals = nL) (hown : s.vm.findClass "MayBoatsModel" = some m.cls) (hts : ∀ w ∈ k_ws, w.before args s = true) (hRf : R.frames = d + 1) (hRl : R.locals = 64 * (d + 1)) (hls : ls.size = nL) (hcl : cells ≤ R.cells) (hsl : slots ≤ R.slots) (hd : decode prog_14_method_9_code pc = .ok (.invokestatic 90, 3))
    (kk : ∀ x : Int64, (x.toInt = v.toInt ∨ x.toInt = -v.toInt) → W p l e R s m args below meth c H locs cells slots Q (F0 m (pc + 3) ls [.long x])) : W p l e R s m args below meth c H locs cells slots Q (F0 m pc ls [.long v]) := by
  refine k_callQ (va_runS (bytes := k_M358.2.1) (maxL := k_M358.2.2.1) (ret := k_M358.2.2.2.1) (As := [.long v]) (rest := []) ⟨hx, hb, hml, hown, hts⟩ (k_mAbs (l := l) v d) ⟨callB_of (rm := k_rm d) (ws' := k_Z.2.2.1) 1 hts (c_goodIn k_good (k_mk (a := 358) rfl).1) rfl rfl rfl (hts _ (k_mk (a := 358) rfl).2.1) (hts _ (k_in 9 76 rfl rfl)) ⟨(k_mk (a := 358) rfl).2.2.1.1, (k_mk (a := 358) rfl).2.2.1.2, (by decide +kernel)⟩ ⟨by rw [hRf]; exact Nat.le_refl _, by rw [hRl]; show 8 + (2 + 11) + 64 * d ≤ 64 * (d + 1); omega⟩, hts _ ((k_mk (a := 358) rfl).2.2.2.2.2.1 rfl)⟩ ⟨k_tr_blind, fun U hU hW => ⟨rfl, trivial⟩⟩ rfl rfl hls rfl (lv_room (Nat.le_of_ble_eq_true rfl)) hd ⟨hcl, hsl⟩) (fun o ho => ?_)
  obtain ⟨x, rfl, hx2⟩ := ho
  exact kk x hx2
theorem k_comW {d : Nat} {H : Heap} {locs : List Loc} {cells slots : Nat} {ls : Array Slot} {a b : Int64} (hx : p.tables.exec = Jvm.exec) (hb : c.code = prog_14_method_9_code) (hml : c.maxLocals = 10) (hown : s.vm.findClass "MayBoatsModel" = some m.cls) (hts : ∀ w ∈ k_ws, w.before args s = true) (hRf : R.frames = d + 1) (hRl : R.locals = 64 * (d + 1)) (hcl : cells ≤ R.cells) (hsl : slots ≤ R.slots) (hl : lv_has ls 10 [(0, .long a), (2, .long b)])
    (kk : ∀ (x : Int64) (ls : Array Slot) (lv : List (Nat × Value)), k_com a.toInt b.toInt x.toInt → lv_has ls 10 ((4, .long x) :: lv) → W p l e R s m args below meth c H locs cells slots Q (F0 m 37 ls [])) : W p l e R s m args below meth c H locs cells slots Q (F0 m 0 ls []) := by
  refine lv_lload_n hx hb k_dc0 rfl (lv_at hl 0 rfl) ?_
  refine k_absRun hx hb hml hown hts hRf hRl hl.1 hcl hsl k_dc1 fun x hx1 => ?_
  refine lv_lstore (lv' := [(4, .long x), (0, .long a), (2, .long b)]) hx hb k_dc4 hl (by decide) rfl fun ls1 hl1 => ?_
  refine lv_lload_n hx hb k_dc6 rfl (lv_at hl1 2 rfl) ?_
  refine k_absRun hx hb hml hown hts hRf hRl hl1.1 hcl hsl k_dc7 fun y hy1 => ?_
  refine lv_lstore (lv' := [(6, .long y), (4, .long x), (0, .long a), (2, .long b)]) hx hb k_dc10 hl1 (by decide) rfl fun ls2 hl2 => ?_
  exact k_com_loop hx hb kk (y.toInt.natAbs + 1) x y ls2 (Nat.lt_succ_self _) (fun d => by rw [k_dvp hx1, k_dvp hy1]) (lv_sub hl2 [0, 1] rfl)
end KCW
theorem k_mCom {l : Launch} (a b : Int64) (d : Nat) : Met l k_M207.1 (c_ws k_Z k_M207) (k_rm (d + 1)) (va_Pc [.long a, .long b] (fun _ => True)) (k_Sq (fun o => ∃ x : Int64, o = some (.long x) ∧ k_com a.toInt b.toInt x.toInt)) 0 0 (fun _ => False) := by
  refine Met.ofW (cc := k_M207.2.1) (maxL := 10) (ret := k_M207.2.2.2.1) (by decide) rfl ?_
  intro p e s m args below meth c s₁ B hml hv
  obtain ⟨rfl, hv⟩ := hv
  have hx := B.exec
  have hb := B.bytes
  have hr := B.returns
  have hlocks := B.notSynchronized
  have hts : ∀ x ∈ k_ws, x.before _ s = true := fun x hx => atoms_spec (ws := c_ws k_Z k_M207) B.pre x (List.mem_cons_of_mem _ hx)
  have hown : s.vm.findClass "MayBoatsModel" = some m.cls := findClass_of_methodNamed B.named
  have hl := lv_entry ([.long a, .long b]) (n := 10) (Nat.le_of_ble_eq_true rfl)
  rw [lg_entry_eq]
  generalize (lg_sl ([.long a, .long b]) ++ List.replicate (10 - (lg_sl ([.long a, .long b])).length) Slot.unset).toArray = ls at hl ⊢
  have hl : lv_has ls 10 [(0, .long a), (2, .long b)] := hl
  refine k_comW (d := d) hx hb hml hown hts rfl rfl (Nat.zero_le _) (Nat.zero_le _) hl fun x ls1 lv hc hl1 => ?_
  refine lv_lload hx hb k_dc37 (lv_at hl1 0 rfl) ?_
  exact W.lret hx hb hr (fun t ht hW => ⟨⟨_, rfl, ⟨x, rfl, hc⟩⟩, ht⟩) (fun q hq => by cases hq) k_dc39 hlocks
theorem k_gCom {l : Launch} {D : va_G} {dA : Nat → ClassId} {AA : Nat → Prop} {d : Nat} : c_Good l D k_cl dA AA "MayBoats$Book" k_K k_Z d k_c207_0 := by
  intro M hM w r0 vals hpre hdep hT hD
  have hMM : k_M207 = M := Option.some.inj (show some k_M207 = some M from hM)
  subst hMM
  have h3 : (3 : Int) + 0 ≤ (d : Int) := hdep
  obtain ⟨d0, rfl⟩ : ∃ d0, d = d0 + 1 := ⟨d - 1, by omega⟩
  obtain ⟨v0, v1, rfl, ⟨a, hv0, ha, -, -⟩, ⟨b, hv1, hb2, -, -⟩⟩ : ∃ v0 v1, vals = [v0, v1] ∧ (∃ y : Int64, v0 = .long y ∧ y.toInt = r0 1 ∧ (-9223372036854775808 : Int) ≤ r0 1 ∧ r0 1 ≤ 9223372036854775807) ∧ (∃ y : Int64, v1 = .long y ∧ y.toInt = r0 2 ∧ (-9223372036854775808 : Int) ≤ r0 2 ∧ r0 2 ≤ 9223372036854775807) := by
    match vals, hpre.1 with
    | [v0, v1], h => exact ⟨v0, v1, rfl, h.1, h.2.1⟩
  subst hv0; subst hv1
  have hfl : r0 2 ≠ 0 := (hpre.2.2.2 (2, 1) (List.mem_singleton.mpr rfl)).2
  refine Met.ofW (cc := k_M207.2.1) (maxL := 10) (ret := k_M207.2.2.2.1) (by decide) rfl ?_
  intro p e s m args below meth c s₁ B hml hv
  obtain ⟨rfl, hPP, hK, hN, hAA⟩ := hv
  have hx := B.exec
  have hb := B.bytes
  have hr := B.returns
  have hlocks := B.notSynchronized
  have hts : ∀ x ∈ k_ws, x.before _ s = true := fun x hx => atoms_spec (ws := c_ws k_Z k_M207) B.pre x (List.mem_cons_of_mem _ hx)
  have hown : s.vm.findClass "MayBoatsModel" = some m.cls := findClass_of_methodNamed B.named
  have hl := lv_entry ([.long a, .long b]) (n := 10) (Nat.le_of_ble_eq_true rfl)
  rw [lg_entry_eq]
  generalize (lg_sl ([.long a, .long b]) ++ List.replicate (10 - (lg_sl ([.long a, .long b])).length) Slot.unset).toArray = ls at hl ⊢
  have hl : lv_has ls 10 [(0, .long a), (2, .long b)] := hl
  refine k_comW (d := d0) hx hb hml hown hts rfl rfl (Nat.zero_le _) (Nat.zero_le _) hl fun x ls1 lv hc hl1 => ?_
  refine lv_lload hx hb k_dc37 (lv_at hl1 0 rfl) ?_
  have hxn : x.toInt ≠ 0 := k_com_ne hc (by rw [hb2]; exact hfl)
  refine W.lret hx hb hr (fun t ht hW => ⟨⟨[.long x], [x.toInt], w, rfl, ⟨x, rfl, rfl⟩, ⟨c_ext_rf _ _ _, fun h => absurd rfl h, ([], [(3, 1)], []), List.mem_singleton.mpr rfl, fun i => if i = 3 then x.toInt else r0 i, fun i hi => if_neg (by have : c_entryN k_c207_0 = 3 := rfl; omega), fun i z hz => ?_, fun i q hq => (by cases hq), fun f hf => (by cases hf), fun q hq _ => ?_⟩, by rw [ht]; exact hPP, hD, hT⟩, va_S.rf.F ht⟩) (fun q hq => by cases hq) k_dc39 hlocks
  · cases i with
    | zero => cases hz; rfl
    | succ i => cases hz
  · have := List.mem_singleton.mp hq
    subst this
    exact hxn
theorem k_da0 : decode k_M279.2.1 0 = .ok (.aload_n 0, 1) := by decide +kernel
theorem k_da1 : decode k_M279.2.1 1 = .ok (.aload_n 0, 1) := by decide +kernel
theorem k_da2 : decode k_M279.2.1 2 = .ok (.getfield 340, 3) := by decide +kernel
theorem k_da5 : decode k_M279.2.1 5 = .ok (.lload_n 3, 1) := by decide +kernel
theorem k_da6 : decode k_M279.2.1 6 = .ok (.lmul, 1) := by decide +kernel
theorem k_da7 : decode k_M279.2.1 7 = .ok (.lload_n 1, 1) := by decide +kernel
theorem k_da8 : decode k_M279.2.1 8 = .ok (.aload_n 0, 1) := by decide +kernel
theorem k_da9 : decode k_M279.2.1 9 = .ok (.getfield 343, 3) := by decide +kernel
theorem k_da12 : decode k_M279.2.1 12 = .ok (.lmul, 1) := by decide +kernel
theorem k_da13 : decode k_M279.2.1 13 = .ok (.ladd, 1) := by decide +kernel
theorem k_da14 : decode k_M279.2.1 14 = .ok (.putfield 340, 3) := by decide +kernel
theorem k_da17 : decode k_M279.2.1 17 = .ok (.aload_n 0, 1) := by decide +kernel
theorem k_da18 : decode k_M279.2.1 18 = .ok (.dup, 1) := by decide +kernel
theorem k_da19 : decode k_M279.2.1 19 = .ok (.getfield 343, 3) := by decide +kernel
theorem k_da22 : decode k_M279.2.1 22 = .ok (.lload_n 3, 1) := by decide +kernel
theorem k_da23 : decode k_M279.2.1 23 = .ok (.lmul, 1) := by decide +kernel
theorem k_da24 : decode k_M279.2.1 24 = .ok (.putfield 343, 3) := by decide +kernel
theorem k_da27 : decode k_M279.2.1 27 = .ok (.aload_n 0, 1) := by decide +kernel
theorem k_da28 : decode k_M279.2.1 28 = .ok (.getfield 340, 3) := by decide +kernel
theorem k_da31 : decode k_M279.2.1 31 = .ok (.aload_n 0, 1) := by decide +kernel
theorem k_da32 : decode k_M279.2.1 32 = .ok (.getfield 343, 3) := by decide +kernel
theorem k_da35 : decode k_M279.2.1 35 = .ok (.invokestatic 96, 3) := by decide +kernel
theorem k_da38 : decode k_M279.2.1 38 = .ok (.lstore 5, 2) := by decide +kernel
theorem k_da40 : decode k_M279.2.1 40 = .ok (.aload_n 0, 1) := by decide +kernel
theorem k_da41 : decode k_M279.2.1 41 = .ok (.dup, 1) := by decide +kernel
theorem k_da42 : decode k_M279.2.1 42 = .ok (.getfield 340, 3) := by decide +kernel
theorem k_da45 : decode k_M279.2.1 45 = .ok (.lload 5, 2) := by decide +kernel
theorem k_da47 : decode k_M279.2.1 47 = .ok (.ldiv, 1) := by decide +kernel
theorem k_da48 : decode k_M279.2.1 48 = .ok (.putfield 340, 3) := by decide +kernel
theorem k_da51 : decode k_M279.2.1 51 = .ok (.aload_n 0, 1) := by decide +kernel
theorem k_da52 : decode k_M279.2.1 52 = .ok (.dup, 1) := by decide +kernel
theorem k_da53 : decode k_M279.2.1 53 = .ok (.getfield 343, 3) := by decide +kernel
theorem k_da56 : decode k_M279.2.1 56 = .ok (.lload 5, 2) := by decide +kernel
theorem k_da58 : decode k_M279.2.1 58 = .ok (.ldiv, 1) := by decide +kernel
theorem k_da59 : decode k_M279.2.1 59 = .ok (.putfield 343, 3) := by decide +kernel
theorem k_da62 : decode k_M279.2.1 62 = .ok (.return_, 1) := by decide +kernel

/-- the reference's own fraction is written: the world stays as it is told -/
theorem k_TW2 {dA : Nat → ClassId} {AA : Nat → Prop} {w : cWld} {q0 x : Nat} {fs fs' : List Value} (hT : c_TW k_K dA w) (hD : va_D AA w.2.1) (h0 : w.2.1[q0]? = some (x, .inr (12, fs))) (ht : w.1 x = 13) (hlen : fs'.length = fs.length) (hold : ∀ j, j ≠ 29 → j ≠ 30 → fs'[j]? = fs[j]?) {u v : Int64} (h29 : fs'[29]? = some (.long u)) (h30 : fs'[30]? = some (.long v)) : c_TW k_K dA (w.1, w.2.1.set q0 (x, .inr (12, fs')), w.2.2) := by
  have hin : ∀ a t, c_in w a t → c_in (w.1, w.2.1.set q0 (x, .inr (12, fs')), w.2.2) a t := by
    intro a t h
    obtain ⟨ce, g1, g2⟩ := h
    by_cases ha : a = x
    · subst ha
      exact ⟨_, c_set_new h0, g2⟩
    · exact ⟨ce, c_set_old h0 g1 ha, g2⟩
  intro q hq
  rcases c_set_in hD h0 hq with rfl | ⟨hq, hne⟩
  · obtain ⟨t1, t2, t3, t4⟩ := hT _ (c_mem_of_at h0)
    have ht' : w.1 x = 13 := ht
    dsimp only at t1 t2 t3 t4 ⊢
    rw [ht'] at t1 t2 t3 t4 ⊢
    have hrd : ∀ j, j ≠ 29 → j ≠ 30 → c_rd (.inr (12, fs')) j = c_rd (.inr (12, fs)) j := hold
    refine ⟨?_, fun j y hy => ?_, fun i hi hi1 z hz hz0 y hy => ?_, ?_⟩
    · obtain ⟨f0, e1, e2⟩ : ∃ f0 : List Value, (Sum.inr (12, fs) : va_E) = .inr (12, f0) ∧ f0.length = 58 := t1
      cases e1
      exact ⟨fs', rfl, hlen.trans e2⟩
    · by_cases h1 : j = 29
      · subst h1
        have hy : fs'[29]? = some y := hy
        rw [h29] at hy
        cases hy
        have e : c_ty k_K 13 29 = (1, -9223372036854775808, 9223372036854775807) := by decide +kernel
        rw [e]
        exact ⟨u, rfl, u.le_toInt, by have := u.toInt_lt; show u.toInt ≤ 9223372036854775807; omega⟩
      · by_cases h2 : j = 30
        · subst h2
          have hy : fs'[30]? = some y := hy
          rw [h30] at hy
          cases hy
          have e : c_ty k_K 13 30 = (1, -9223372036854775808, 9223372036854775807) := by decide +kernel
          rw [e]
          exact ⟨v, rfl, v.le_toInt, by have := v.toInt_lt; show v.toInt ≤ 9223372036854775807; omega⟩
        · rw [hrd j h1 h2] at hy
          exact c_in_mono_okV hin (t2 j y hy)
    · have hi4 : i ∈ [(13, 41, 38, ((0, 1, 8) : cVT)), (13, 49, 48, ((2, 0, 0) : cVT))] := hi
      rcases List.mem_cons.mp hi4 with rfl | hi4
      · rw [hrd 41 (by decide) (by decide)] at hz
        rw [hrd 38 (by decide) (by decide)] at hy
        exact c_in_mono_okV hin (t3 _ hi hi1 z hz hz0 y hy)
      · cases List.mem_singleton.mp hi4
        rw [hrd 49 (by decide) (by decide)] at hz
        rw [hrd 48 (by decide) (by decide)] at hy
        exact c_in_mono_okV hin (t3 _ hi hi1 z hz hz0 y hy)
    · refine k_Jfr 13 x (c_rd (.inr (12, fs))) _ _ (fun i hi => ?_) t4
      have h1 : ¬ c_hits k_K.2.2.2.2.1 13 29 := c_off_ok (E := k_K.2.2.2.2.1) (lo := 29) (hi := 30) (by decide +kernel) (by decide) (by decide)
      have h2 : ¬ c_hits k_K.2.2.2.2.1 13 30 := c_off_ok (E := k_K.2.2.2.2.1) (lo := 29) (hi := 30) (by decide +kernel) (by decide) (by decide)
      exact hrd i (fun e => h1 (e ▸ hi)) (fun e => h2 (e ▸ hi))
  · obtain ⟨t1, t2, t3, t4⟩ := hT q hq
    exact ⟨t1, fun j v hv => c_in_mono_okV hin (t2 j v hv), fun i hi1 hi2 y hy hy0 v hv => c_in_mono_okV hin (t3 i hi1 hi2 y hy hy0 v hv), t4⟩
set_option maxHeartbeats 4000000 in
theorem k_gAdd {l : Launch} {D : va_G} {dA : Nat → ClassId} {AA : Nat → Prop} {d : Nat} : c_Good l D k_cl dA AA "MayBoats$Book" k_K k_Z d k_c279_0 := by
  intro M hM w r0 vals hpre hdep hT hD0
  have hMM : k_M279 = M := Option.some.inj (show some k_M279 = some M from hM)
  subst hMM
  have h3 : (5 : Int) + 0 ≤ (d : Int) := hdep
  obtain ⟨d0, rfl⟩ : ∃ d0, d = d0 + 1 + 1 := ⟨d - 2, by omega⟩
  obtain ⟨v0, v1, v2, rfl, ⟨a, hv0, ha, hain⟩, ⟨t, hv1, ht1, -, -⟩, ⟨b, hv2, hb2, -, -⟩⟩ : ∃ v0 v1 v2, vals = [v0, v1, v2] ∧ (∃ y : Nat, v0 = .ref y ∧ r0 1 = (y : Int) ∧ c_in w y 13) ∧ (∃ y : Int64, v1 = .long y ∧ y.toInt = r0 2 ∧ (-9223372036854775808 : Int) ≤ r0 2 ∧ r0 2 ≤ 9223372036854775807) ∧ (∃ y : Int64, v2 = .long y ∧ y.toInt = r0 3 ∧ (-9223372036854775808 : Int) ≤ r0 3 ∧ r0 3 ≤ 9223372036854775807) := by
    match vals, hpre.1 with
    | [v0, v1, v2], h => exact ⟨v0, v1, v2, rfl, h.1, h.2.1, h.2.2.1⟩
  subst hv0; subst hv1; subst hv2
  have hfb : r0 3 % 4294967296 ≠ 0 := (hpre.2.2.2 (3, 2) (List.mem_cons_of_mem _ List.mem_cons_self)).2
  have hfu : r0 4 % 4294967296 ≠ 0 := (hpre.2.2.2 (4, 2) List.mem_cons_self).2
  obtain ⟨ce, hin1, hin2⟩ := hain
  obtain ⟨t1, t2, -, -⟩ := hT _ hin1
  dsimp only at t1 t2
  rw [hin2] at t1 t2
  obtain ⟨fs, rfl, hf0l⟩ : ∃ fs : List Value, ce = .inr (12, fs) ∧ fs.length = 58 := t1
  obtain ⟨q0, hq0⟩ := c_idx hin1
  have e29 : c_ty k_K 13 29 = (1, -9223372036854775808, 9223372036854775807) := by decide +kernel
  have e30 : c_ty k_K 13 30 = (1, -9223372036854775808, 9223372036854775807) := by decide +kernel
  obtain ⟨y29, hy29⟩ : ∃ y, fs[29]? = some y := ⟨_, List.getElem?_eq_getElem (by rw [hf0l]; decide)⟩
  obtain ⟨y30, hy30⟩ : ∃ y, fs[30]? = some y := ⟨_, List.getElem?_eq_getElem (by rw [hf0l]; decide)⟩
  have o29 := t2 29 y29 hy29
  have o30 := t2 30 y30 hy30
  rw [e29] at o29
  rw [e30] at o30
  obtain ⟨tp, rfl, -, -⟩ := o29
  obtain ⟨bt, rfl, -, -⟩ := o30
  have hbt : bt.toInt = r0 4 := by
    obtain ⟨a', ce', j', v', c1, c2, c3, c4, c5⟩ := hpre.2.1 0 (1, (30, [])) rfl
    have e1 : a' = a := by
      have c1 : r0 1 = (a' : Int) := c1
      omega
    subst e1
    have c3 : (30 : Int) + 0 = (j' : Int) := c3
    have e2 : j' = 30 := by omega
    subst e2
    have e3 : ce' = .inr (12, fs) := by
      obtain ⟨i', hi'⟩ := c_idx c2
      have := hD0.1 i' q0 _ _ hi' hq0 rfl
      subst this
      exact (Prod.mk.inj (Option.some.inj (hi'.symm.trans hq0))).2
    subst e3
    have c4 : fs[30]? = some v' := c4
    rw [hy30] at c4
    cases c4
    exact c5
  refine Met.ofW (cc := k_M279.2.1) (maxL := 7) (ret := k_M279.2.2.2.1) (by decide) rfl ?_
  intro p e s m args below meth c s₁ B hml hv
  obtain ⟨rfl, hP0, hK, hN, hAA⟩ := hv
  have hx := B.exec
  have hb := B.bytes
  have hr := B.returns
  have hlocks := B.notSynchronized
  have hts : ∀ x ∈ k_ws, x.before _ s = true := fun x hx => atoms_spec (ws := c_ws k_Z k_M279) B.pre x (List.mem_cons_of_mem _ hx)
  have hown : s.vm.findClass "MayBoatsModel" = some m.cls := findClass_of_methodNamed B.named
  have hl := lv_entry ([.ref a, .long t, .long b]) (n := 7) (Nat.le_of_ble_eq_true rfl)
  rw [lg_entry_eq]
  generalize (lg_sl ([.ref a, .long t, .long b]) ++ List.replicate (7 - (lg_sl ([.ref a, .long t, .long b])).length) Slot.unset).toArray = ls at hl ⊢
  have hl : lv_has ls 7 [(0, .ref a), (1, .long t), (3, .long b)] := hl
  obtain ⟨kin, k2, kty, k3, -⟩ := k_clsOk 12 _ _ _ k_cc12
  have hS0 : va_S AA s.heap s.heap [] := va_S.rf
  have hlq : q0 < w.2.1.length := (List.getElem?_eq_some_iff.mp hq0).1
  refine lv_aload_n hx hb k_da0 rfl (lv_at hl 0 rfl) ?_
  refine lv_aload_n hx hb k_da1 rfl (lv_at hl 0 rfl) ?_
  refine va_get (D := D) (ci := 12) (v := .long tp) (C := "MayBoatsModel") (T := k_T12) (N := 58) hx hb hts kin hown hK hP0 q0 hq0 k_cc12 29 (by decide) (hts _ (k_in 7 101 rfl rfl)) (fun _ h9 => h9) hy29 k_da2 ?_
  refine lv_lload_n hx hb k_da5 rfl (lv_at hl 2 rfl) ?_
  refine lv_lmul hx hb k_da6 ?_
  refine lv_lload_n hx hb k_da7 rfl (lv_at hl 1 rfl) ?_
  refine lv_aload_n hx hb k_da8 rfl (lv_at hl 0 rfl) ?_
  refine va_get (D := D) (ci := 12) (v := .long bt) (C := "MayBoatsModel") (T := k_T12) (N := 58) hx hb hts kin hown hK hP0 q0 hq0 k_cc12 30 (by decide) (hts _ (k_in 7 102 rfl rfl)) (fun _ h9 => h9) hy30 k_da9 ?_
  refine lv_lmul hx hb k_da12 ?_
  refine lv_ladd hx hb k_da13 ?_
  refine va_put (D := D) (ci := 12) (v := .long (tp * b + t * bt)) (ty := .long) (C := "MayBoatsModel") (T := k_T12) (N := 58) hx hb hts kin kty k3 k2 hown hK hP0 hD0 hS0 q0 hq0 k_cc12 29 (by decide) (hts _ (k_in 7 101 rfl rfl)) (fun _ h9 => h9) rfl (by decide +kernel) rfl rfl (by rw [hf0l]; decide) k_da14 fun H1 locs1 hP1 hD1 hS1 => ?_
  have hq1 : (w.2.1.set q0 (a, .inr (12, fs.set 29 (.long (tp * b + t * bt)))))[q0]? = some (a, .inr (12, fs.set 29 (.long (tp * b + t * bt)))) := List.getElem?_set_self hlq
  have hf1l : (fs.set 29 (.long (tp * b + t * bt))).length = 58 := by rw [List.length_set]; exact hf0l
  have g1_29 : (fs.set 29 (.long (tp * b + t * bt)))[29]? = some (.long (tp * b + t * bt)) := List.getElem?_set_self (by rw [hf0l]; decide)
  have g1_30 : (fs.set 29 (.long (tp * b + t * bt)))[30]? = some (.long bt) := by rw [List.getElem?_set_ne (by decide)]; exact hy30
  generalize hF1 : fs.set 29 (.long (tp * b + t * bt)) = fs1 at *
  refine lv_aload_n hx hb k_da17 rfl (lv_at hl 0 rfl) ?_
  refine lv_dup hx hb k_da18 rfl ?_
  refine va_get (D := D) (ci := 12) (v := .long bt) (C := "MayBoatsModel") (T := k_T12) (N := 58) hx hb hts kin hown hK hP1 q0 hq1 k_cc12 30 (by decide) (hts _ (k_in 7 102 rfl rfl)) (fun _ h9 => h9) g1_30 k_da19 ?_
  refine lv_lload_n hx hb k_da22 rfl (lv_at hl 2 rfl) ?_
  refine lv_lmul hx hb k_da23 ?_
  refine va_put (D := D) (ci := 12) (v := .long (bt * b)) (ty := .long) (C := "MayBoatsModel") (T := k_T12) (N := 58) hx hb hts kin kty k3 k2 hown hK hP1 hD1 hS1 q0 hq1 k_cc12 30 (by decide) (hts _ (k_in 7 102 rfl rfl)) (fun _ h9 => h9) rfl (by decide +kernel) rfl rfl (by rw [hf1l]; decide) k_da24 fun H2 locs2 hP2 hD2 hS2 => ?_
  rw [List.set_set] at hP2 hD2
  have hq2 : (w.2.1.set q0 (a, .inr (12, fs1.set 30 (.long (bt * b)))))[q0]? = some (a, .inr (12, fs1.set 30 (.long (bt * b)))) := List.getElem?_set_self hlq
  have hf2l : (fs1.set 30 (.long (bt * b))).length = 58 := by rw [List.length_set]; exact hf1l
  have g2_30 : (fs1.set 30 (.long (bt * b)))[30]? = some (.long (bt * b)) := List.getElem?_set_self (by rw [hf1l]; decide)
  have g2_29 : (fs1.set 30 (.long (bt * b)))[29]? = some (.long (tp * b + t * bt)) := by rw [List.getElem?_set_ne (by decide)]; exact g1_29
  have o2 : ∀ j, j ≠ 29 → j ≠ 30 → (fs1.set 30 (.long (bt * b)))[j]? = fs[j]? := fun j j1 j2 => by
    rw [List.getElem?_set_ne (Ne.symm j2), ← hF1, List.getElem?_set_ne (Ne.symm j1)]
  generalize hF2 : fs1.set 30 (.long (bt * b)) = fs2 at *
  refine lv_aload_n hx hb k_da27 rfl (lv_at hl 0 rfl) ?_
  refine va_get (D := D) (ci := 12) (v := .long (tp * b + t * bt)) (C := "MayBoatsModel") (T := k_T12) (N := 58) hx hb hts kin hown hK hP2 q0 hq2 k_cc12 29 (by decide) (hts _ (k_in 7 101 rfl rfl)) (fun _ h9 => h9) g2_29 k_da28 ?_
  refine lv_aload_n hx hb k_da31 rfl (lv_at hl 0 rfl) ?_
  refine va_get (D := D) (ci := 12) (v := .long (bt * b)) (C := "MayBoatsModel") (T := k_T12) (N := 58) hx hb hts kin hown hK hP2 q0 hq2 k_cc12 30 (by decide) (hts _ (k_in 7 102 rfl rfl)) (fun _ h9 => h9) g2_30 k_da32 ?_
  refine k_callQ (va_runS (bytes := k_M207.2.1) (maxL := k_M207.2.2.1) (ret := k_M207.2.2.2.1) (As := [.long (tp * b + t * bt), .long (bt * b)]) (rest := []) ⟨hx, hb, hml, hown, hts⟩ (k_mCom (l := l) (tp * b + t * bt) (bt * b) d0) ⟨callB_of (rm := k_rm (d0 + 1)) (ws' := k_Z.2.2.1) 2 hts (c_goodIn k_good (k_mk (a := 207) rfl).1) rfl rfl rfl (hts _ (k_mk (a := 207) rfl).2.1) (hts _ (k_in 9 73 rfl rfl)) ⟨(k_mk (a := 207) rfl).2.2.1.1, (k_mk (a := 207) rfl).2.2.1.2, (by decide +kernel)⟩ ⟨Nat.le_refl _, by show 8 + (10 + 11) + 64 * (d0 + 1) ≤ 64 * (d0 + 1 + 1); omega⟩, hts _ ((k_mk (a := 207) rfl).2.2.2.2.2.1 rfl)⟩ ⟨k_tr_blind, fun U hU hW => ⟨rfl, trivial⟩⟩ rfl rfl hl.1 rfl (lv_room (Nat.le_of_ble_eq_true rfl)) k_da35 ⟨Nat.zero_le _, Nat.zero_le _⟩) (fun o ho => ?_)
  obtain ⟨x, rfl, hc⟩ := ho
  have key := k_addTo (bt := bt) (b := b) (tp := tp) (t := t) (x := x) (by rw [hbt]; exact hfu) (by rw [hb2]; exact hfb) hc
  have hBne : (bt * b).toInt ≠ 0 := by
    intro h0
    have h1 : (bt * b / x).toInt = 0 := by rw [Int64.toInt_div, h0]; simp
    rw [h1] at key
    exact key rfl
  have hxn : x.toInt ≠ 0 := k_com_ne hc hBne
  have hx0 : ¬ x = 0 := fun h => hxn (by rw [h]; rfl)
  refine lv_lstore (lv' := [(5, .long x), (0, .ref a), (1, .long t), (3, .long b)]) hx hb k_da38 hl (by decide) rfl fun ls1 hl1 => ?_
  refine lv_aload_n hx hb k_da40 rfl (lv_at hl1 1 rfl) ?_
  refine lv_dup hx hb k_da41 rfl ?_
  refine va_get (D := D) (ci := 12) (v := .long (tp * b + t * bt)) (C := "MayBoatsModel") (T := k_T12) (N := 58) hx hb hts kin hown hK hP2 q0 hq2 k_cc12 29 (by decide) (hts _ (k_in 7 101 rfl rfl)) (fun _ h9 => h9) g2_29 k_da42 ?_
  refine lv_lload hx hb k_da45 (lv_at hl1 0 rfl) ?_
  refine lv_ldiv hx hb k_da47 hx0 ?_
  refine va_put (D := D) (ci := 12) (v := .long ((tp * b + t * bt) / x)) (ty := .long) (C := "MayBoatsModel") (T := k_T12) (N := 58) hx hb hts kin kty k3 k2 hown hK hP2 hD2 hS2 q0 hq2 k_cc12 29 (by decide) (hts _ (k_in 7 101 rfl rfl)) (fun _ h9 => h9) rfl (by decide +kernel) rfl rfl (by rw [hf2l]; decide) k_da48 fun H3 locs3 hP3 hD3 hS3 => ?_
  rw [List.set_set] at hP3 hD3
  have hq3 : (w.2.1.set q0 (a, .inr (12, fs2.set 29 (.long ((tp * b + t * bt) / x)))))[q0]? = some (a, .inr (12, fs2.set 29 (.long ((tp * b + t * bt) / x)))) := List.getElem?_set_self hlq
  have hf3l : (fs2.set 29 (.long ((tp * b + t * bt) / x))).length = 58 := by rw [List.length_set]; exact hf2l
  have g3_29 : (fs2.set 29 (.long ((tp * b + t * bt) / x)))[29]? = some (.long ((tp * b + t * bt) / x)) := List.getElem?_set_self (by rw [hf2l]; decide)
  have g3_30 : (fs2.set 29 (.long ((tp * b + t * bt) / x)))[30]? = some (.long (bt * b)) := by rw [List.getElem?_set_ne (by decide)]; exact g2_30
  have o3 : ∀ j, j ≠ 29 → j ≠ 30 → (fs2.set 29 (.long ((tp * b + t * bt) / x)))[j]? = fs[j]? := fun j j1 j2 => by
    rw [List.getElem?_set_ne (Ne.symm j1)]
    exact o2 j j1 j2
  generalize hF3 : fs2.set 29 (.long ((tp * b + t * bt) / x)) = fs3 at *
  refine lv_aload_n hx hb k_da51 rfl (lv_at hl1 1 rfl) ?_
  refine lv_dup hx hb k_da52 rfl ?_
  refine va_get (D := D) (ci := 12) (v := .long (bt * b)) (C := "MayBoatsModel") (T := k_T12) (N := 58) hx hb hts kin hown hK hP3 q0 hq3 k_cc12 30 (by decide) (hts _ (k_in 7 102 rfl rfl)) (fun _ h9 => h9) g3_30 k_da53 ?_
  refine lv_lload hx hb k_da56 (lv_at hl1 0 rfl) ?_
  refine lv_ldiv hx hb k_da58 hx0 ?_
  refine va_put (D := D) (ci := 12) (v := .long (bt * b / x)) (ty := .long) (C := "MayBoatsModel") (T := k_T12) (N := 58) hx hb hts kin kty k3 k2 hown hK hP3 hD3 hS3 q0 hq3 k_cc12 30 (by decide) (hts _ (k_in 7 102 rfl rfl)) (fun _ h9 => h9) rfl (by decide +kernel) rfl rfl (by rw [hf3l]; decide) k_da59 fun H4 locs4 hP4 hD4 hS4 => ?_
  rw [List.set_set] at hP4 hD4
  have hf4l : (fs3.set 30 (.long (bt * b / x))).length = fs.length := by rw [List.length_set, hf3l, hf0l]
  have g4_30 : (fs3.set 30 (.long (bt * b / x)))[30]? = some (.long (bt * b / x)) := List.getElem?_set_self (by rw [hf3l]; decide)
  have g4_29 : (fs3.set 30 (.long (bt * b / x)))[29]? = some (.long ((tp * b + t * bt) / x)) := by rw [List.getElem?_set_ne (by decide)]; exact g3_29
  have o4 : ∀ j, j ≠ 29 → j ≠ 30 → (fs3.set 30 (.long (bt * b / x)))[j]? = fs[j]? := fun j j1 j2 => by
    rw [List.getElem?_set_ne (Ne.symm j2)]
    exact o3 j j1 j2
  generalize hF4 : fs3.set 30 (.long (bt * b / x)) = fs4 at *
  have hT4 := k_TW2 hT hD0 hq0 hin2 hf4l o4 g4_29 g4_30
  have hext : c_ext [(13, 29, 30)] [] w (w.1, w.2.1.set q0 (a, .inr (12, fs4)), w.2.2) := by
    refine ⟨fun q hq => ?_, fun _ _ => rfl⟩
    by_cases hqa : q.1 = a
    · have hq' : q = (a, .inr (12, fs)) := by
        obtain ⟨i', hi'⟩ := c_idx hq
        have := hD0.1 i' q0 _ _ hi' hq0 hqa
        subst this
        exact Option.some.inj (hi'.symm.trans hq0)
      subst hq'
      refine ⟨_, c_set_new hq0, Or.inl ⟨rfl, fun j hj => ?_⟩⟩
      have h13 : w.1 a = 13 := hin2
      have n29 : j ≠ 29 := fun e => hj ⟨_, List.mem_singleton.mpr rfl, h13.symm, by rw [e]; decide, by rw [e]; decide⟩
      have n30 : j ≠ 30 := fun e => hj ⟨_, List.mem_singleton.mpr rfl, h13.symm, by rw [e]; decide, by rw [e]; decide⟩
      exact o4 j n29 n30
    · exact ⟨q.2, c_set_old hq0 hq hqa, Or.inl ⟨rfl, fun _ _ => rfl⟩⟩
  refine W.vret hx hb hr (fun tt htt hW => ⟨⟨[], [], (w.1, w.2.1.set q0 (a, .inr (12, fs4)), w.2.2), rfl, ⟨rfl, rfl⟩, ⟨hext, fun h => absurd rfl h, ([], [(5, 2)], [(1, (30, []))]), List.mem_singleton.mpr rfl, fun i => if i = 5 then (bt * b / x).toInt else r0 i, fun i hi => if_neg (by have : c_entryN k_c279_0 = 5 := rfl; omega), fun i z hz => (by cases hz), fun i q hq => ?_, fun f hf => (by cases hf), fun q hq _ => ?_⟩, by rw [htt]; exact hP4, hD4, hT4⟩, hS4.F htt⟩) hS4.2.2 k_da62 hlocks
  · cases i with
    | zero =>
      cases hq
      exact ⟨a, .inr (12, fs4), 30, .long (bt * b / x), ha, c_set_new hq0, rfl, g4_30, rfl⟩
    | succ i => cases hq
  · have := List.mem_singleton.mp hq
    subst this
    exact key
