/-! common: what divides both divides the answer -/
theorem k_rem64e (x y : Int64) : x - (x / y) * y = x % y := by
  apply Int64.toInt_inj.mp
  have h1 := Int64.le_toInt (x % y)
  have h2 := Int64.toInt_lt (x % y)
  rw [Int64.toInt_sub, Int64.toInt_mul, Int64.toInt_div, Int.bmod_mul_bmod, Int.sub_bmod_bmod, Int.mul_comm (x.toInt.tdiv y.toInt), ← Int.tmod_def, ← Int64.toInt_mod]
  exact Int.bmod_eq_of_le_mul_two (by omega) (by omega)
theorem k_rem64 (x y : Int64) : (x - x / y * y).toInt = x.toInt.tmod y.toInt := by rw [k_rem64e]; exact Int64.toInt_mod x y
theorem k_tmod_dvd {x y d : Int} (h : d ∣ y) : d ∣ x.tmod y ↔ d ∣ x := by
  have h1 : x.tmod y = x - y * x.tdiv y := Int.tmod_def x y
  have h2 : d ∣ y * x.tdiv y := Int.dvd_trans h ⟨x.tdiv y, rfl⟩
  rw [h1]
  constructor
  · intro g
    have := Int.dvd_add g h2
    rwa [Int.sub_add_cancel] at this
  · intro g
    exact Int.dvd_sub g h2
theorem k_tmod_lt {x y : Int} (h : y ≠ 0) : (x.tmod y).natAbs < y.natAbs := by
  rw [Int.natAbs_tmod]
  exact Nat.mod_lt _ (by omega)
/-- of x and y the common divisors are those of a and b -/
def k_cd (a b x y : Int) : Prop := ∀ d : Int, (d ∣ x ∧ d ∣ y) ↔ (d ∣ a ∧ d ∣ b)
theorem k_cd_step {a b x y : Int} (h : k_cd a b x y) : k_cd a b y (x.tmod y) := by
  intro d
  rw [← h d]
  constructor
  · rintro ⟨h1, h2⟩; exact ⟨(k_tmod_dvd h1).mp h2, h1⟩
  · rintro ⟨h1, h2⟩; exact ⟨h2, (k_tmod_dvd h2).mpr h1⟩
/-- what common answers -/
def k_com (a b x : Int) : Prop := x ∣ a ∧ x ∣ b ∧ ∀ d : Int, d ∣ a → d ∣ b → d ∣ x
theorem k_cd_end {a b x : Int} (h : k_cd a b x 0) : k_com a b x := by
  have h1 := (h x).mp ⟨Int.dvd_refl _, Int.dvd_zero _⟩
  exact ⟨h1.1, h1.2, fun d d1 d2 => ((h d).mpr ⟨d1, d2⟩).1⟩
theorem k_dc12 : decode prog_14_method_9_code 12 = .ok (.lload 6, 2) := by decide +kernel
theorem k_dc14 : decode prog_14_method_9_code 14 = .ok (.lconst 0, 1) := by decide +kernel
theorem k_dc15 : decode prog_14_method_9_code 15 = .ok (.lcmp, 1) := by decide +kernel
theorem k_dc16 : decode prog_14_method_9_code 16 = .ok (.ifCond .eq 21, 3) := by decide +kernel
theorem k_dc19 : decode prog_14_method_9_code 19 = .ok (.lload 4, 2) := by decide +kernel
theorem k_dc21 : decode prog_14_method_9_code 21 = .ok (.lload 6, 2) := by decide +kernel
theorem k_dc23 : decode prog_14_method_9_code 23 = .ok (.lrem, 1) := by decide +kernel
theorem k_dc24 : decode prog_14_method_9_code 24 = .ok (.lstore 8, 2) := by decide +kernel
theorem k_dc26 : decode prog_14_method_9_code 26 = .ok (.lload 6, 2) := by decide +kernel
theorem k_dc28 : decode prog_14_method_9_code 28 = .ok (.lstore 4, 2) := by decide +kernel
theorem k_dc30 : decode prog_14_method_9_code 30 = .ok (.lload 8, 2) := by decide +kernel
theorem k_dc32 : decode prog_14_method_9_code 32 = .ok (.lstore 6, 2) := by decide +kernel
theorem k_dc34 : decode prog_14_method_9_code 34 = .ok (.goto (-22), 3) := by decide +kernel
section KC
variable {p : Program} {l : Launch} {e : Env} {R : Room} {s : State} {m : MethodId} {args : Array Value} {below : List Frame} {meth : Method} {c : Code} {Q : State → Prop}
theorem k_com_loop (hx : p.tables.exec = Jvm.exec) (hb : c.code = prog_14_method_9_code) {a b : Int} {H : Heap} {locs : List Loc} {cells slots : Nat}
    (kk : ∀ (x : Int64) (ls : Array Slot) (lv : List (Nat × Value)), k_com a b x.toInt → lv_has ls 10 ((4, .long x) :: lv) → W p l e R s m args below meth c H locs cells slots Q (F0 m 37 ls [])) :
    ∀ (n : Nat) (x y : Int64) (ls : Array Slot), y.toInt.natAbs < n → k_cd a b x.toInt y.toInt → lv_has ls 10 [(6, .long y), (4, .long x)] → W p l e R s m args below meth c H locs cells slots Q (F0 m 12 ls [])
  | 0, _, _, _, h, _, _ => absurd h (Nat.not_lt_zero _)
  | n + 1, x, y, ls, hn, hcd, hl => by
    refine lv_lload hx hb k_dc12 (lv_at hl 0 rfl) ?_
    refine lv_lconst (v := 0) hx hb k_dc14 (by decide) ?_
    refine W.lcmp hx hb k_dc15 ?_
    have hs := c_sgn y 0
    have h0 : (0 : Int64).toInt = 0 := by decide
    refine lv_if_eq hx hb k_dc16 (tgt := 37) (by decide) (fun hz => ?_) (fun hz => ?_)
    · have hy : y.toInt = 0 := by
        rw [c_eq0] at hz
        omega
      rw [hy] at hcd
      refine kk x ls [(6, .long y)] (k_cd_end hcd) ⟨hl.1, hl.2.1, fun q hq => hl.2.2 q ?_⟩
      rcases List.mem_cons.mp hq with rfl | hq
      · exact List.mem_cons_of_mem _ List.mem_cons_self
      · rcases List.mem_cons.mp hq with rfl | hq
        · exact List.mem_cons_self
        · cases hq
    · have hy : y.toInt ≠ 0 := by
        rw [c_eq0] at hz
        omega
      have hy0 : ¬ y = 0 := fun q => hy (by rw [q]; exact h0)
      refine lv_lload hx hb k_dc19 (lv_at hl 1 rfl) ?_
      refine lv_lload hx hb k_dc21 (lv_at hl 0 rfl) ?_
      refine lv_lrem hx hb k_dc23 hy0 ?_
      have hr := k_rem64 x y
      generalize x - x / y * y = z at hr ⊢
      refine lv_lstore (lv' := [(8, .long z), (6, .long y), (4, .long x)]) hx hb k_dc24 hl (by decide) rfl fun ls1 hl1 => ?_
      refine lv_lload hx hb k_dc26 (lv_at hl1 1 rfl) ?_
      refine lv_lstore (lv' := [(4, .long y), (8, .long z), (6, .long y)]) hx hb k_dc28 hl1 (by decide) rfl fun ls2 hl2 => ?_
      refine lv_lload hx hb k_dc30 (lv_at hl2 1 rfl) ?_
      refine lv_lstore (lv' := [(6, .long z), (4, .long y), (8, .long z)]) hx hb k_dc32 hl2 (by decide) rfl fun ls3 hl3 => ?_
      refine lv_goto hx hb k_dc34 (tgt := 12) (by decide) ?_
      refine k_com_loop hx hb kk n y z ls3 ?_ ?_ ⟨hl3.1, hl3.2.1, fun q hq => hl3.2.2 q ?_⟩
      · rw [hr]
        have := k_tmod_lt (x := x.toInt) hy
        omega
      · rw [hr]
        exact k_cd_step hcd
      · rcases List.mem_cons.mp hq with rfl | hq
        · exact List.mem_cons_self
        · rcases List.mem_cons.mp hq with rfl | hq
          · exact List.mem_cons_of_mem _ List.mem_cons_self
          · cases hq
end KC
