/-! behind the reference's constructor: its array's word for the mode in which calls run -/
theorem k_bix_inj {x y x' y' : Int32} (h : (k_bix x.toInt y.toInt).toNat = (k_bix x'.toInt y'.toInt).toNat) : x = x' ∧ y = y' := by
  have h1 := x.le_toInt
  have h2 := x.toInt_lt
  have h3 := y.le_toInt
  have h4 := y.toInt_lt
  have h5 := x'.le_toInt
  have h6 := x'.toInt_lt
  have h7 := y'.le_toInt
  have h8 := y'.toInt_lt
  unfold k_bix at h
  exact ⟨Int32.toInt_inj.mp (by omega), Int32.toInt_inj.mp (by omega)⟩
theorem k_bix_big (x y : Int32) : 1000 < (k_bix x.toInt y.toInt).toNat := by
  have h1 := x.le_toInt
  have h3 := y.le_toInt
  unfold k_bix
  omega
noncomputable def k_g0 (c : Int) : Nat → Int := fun j => if j = 1 then 0 else if j = 2 then c else if j = 80 then -1 else if j = 90 then -1 else @dite Int (∃ q : Int32 × Int32, (k_bix q.1.toInt q.2.toInt).toNat = j) (Classical.propDecidable _) (fun h => k_bit (Classical.choose h).1 (Classical.choose h).2) (fun _ => 0)
theorem k_g0_lo {c : Int} {j : Nat} (hj : j < 1000) (h1 : j ≠ 1) (h2 : j ≠ 2) (h3 : j ≠ 80) (h4 : j ≠ 90) : k_g0 c j = 0 := by
  unfold k_g0
  rw [if_neg h1, if_neg h2, if_neg h3, if_neg h4, dif_neg]
  rintro ⟨q, hq⟩
  have := k_bix_big q.1 q.2
  omega
theorem k_g0_tbl (c : Int) : k_tbl (k_g0 c) := by
  intro x y
  have hb := k_bix_big x y
  have hex : ∃ q : Int32 × Int32, (k_bix q.1.toInt q.2.toInt).toNat = (k_bix x.toInt y.toInt).toNat := ⟨(x, y), rfl⟩
  unfold k_g0
  rw [if_neg (by omega), if_neg (by omega), if_neg (by omega), if_neg (by omega), dif_pos hex]
  obtain ⟨e1, e2⟩ := k_bix_inj (Classical.choose_spec hex)
  rw [e1, e2]
theorem k_JC0 {F : Nat → Int} {c : Int} (h : k_JB F) : k_JC F (k_g0 c) := by
  have g1 : k_g0 c 1 = 0 := rfl
  have g80 : k_g0 c 80 = -1 := rfl
  have g90 : k_g0 c 90 = -1 := rfl
  have g61 : k_g0 c 61 = 0 := k_g0_lo (by decide) (by decide) (by decide) (by decide) (by decide)
  have g65 : k_g0 c 65 = 0 := k_g0_lo (by decide) (by decide) (by decide) (by decide) (by decide)
  have g88 : k_g0 c 88 = 0 := k_g0_lo (by decide) (by decide) (by decide) (by decide) (by decide)
  have g36 : k_g0 c 36 = 0 := k_g0_lo (by decide) (by decide) (by decide) (by decide) (by decide)
  refine ⟨fun _ => h.1, fun b hb => ⟨fun _ _ => (h.2 b hb).1, fun _ _ => (h.2 b hb).2⟩, fun h1 => ?_, fun h1 => ?_, fun h1 => ?_, fun h1 => ?_, fun k hk hlt => ?_, fun b hb h1 => ?_, fun h1 => ?_, fun h1 => ?_, fun h1 => ?_, k_g0_tbl c⟩
  · rw [g61] at h1; exact absurd h1 (by decide)
  · rw [g65] at h1; exact absurd h1 (by decide)
  · rw [g80] at h1; exact absurd h1 (by decide)
  · rw [g90] at h1; exact absurd h1 (by decide)
  · rw [g88] at hlt; omega
  · rw [g1] at h1; omega
  · rw [g1] at h1; exact absurd h1 (by decide)
  · rw [g1] at h1; exact absurd h1 (by decide)
  · rw [g36] at h1; exact absurd h1 (by decide)
/-- no place is a reference to a model -/
def k_okMd (x : cVT) : Bool := !(Nat.beq x.1 3 || Nat.beq x.1 4) || !(Nat.beq x.2.1.toNat 13)
theorem k_regMd {j : Nat} : ∀ {l : List (Nat × Nat × cVT)}, l.all (fun q => k_okMd q.2.2) = true → k_okMd (k_reg j l) = true
  | [], _ => rfl
  | q :: l, h => by
    rw [List.all_cons, Bool.and_eq_true] at h
    unfold k_reg
    split
    · exact h.1
    · exact k_regMd h.2
theorem k_unisMd : k_unis.all (fun q => k_okMd q.2) = true := by decide +kernel
theorem k_regCMd : k_regC.all (fun q => k_okMd q.2.2) = true := by decide +kernel
theorem k_typsMd : k_typs.all (fun q => q.2.all (fun z => k_okMd z.2.2)) = true := by decide +kernel
theorem k_impsMd : k_imps.all (fun i => k_okMd i.2.2.2) = true := by decide +kernel
theorem k_tyMd (t j : Nat) : k_okMd (c_ty k_K t j) = true := by
  unfold c_ty
  split
  · rename_i x hx
    have hx : k_look t k_unis = some x := hx
    exact List.all_eq_true.mp k_unisMd _ (k_look_ok hx)
  · show k_okMd (if Nat.beq t 58 then k_typC j else match k_look t k_typs with
      | some l => k_reg j l
      | none => (5, 0, 0)) = true
    split
    · unfold k_typC
      split
      · rfl
      · split
        · split
          · rfl
          · rfl
        · exact k_regMd k_regCMd
    · split
      · rename_i l hl
        exact k_regMd (List.all_eq_true.mp k_typsMd _ (k_look_ok hl))
      · rfl
theorem k_okV13 {w w' : cWld} (hin : ∀ a t, t ≠ 13 → c_in w a t → c_in w' a t) {vt : cVT} (hm : k_okMd vt = true) {v : Value} (h : c_okV w vt v) : c_okV w' vt v := by
  unfold k_okMd at hm
  unfold c_okV at h ⊢
  split at h
  · exact h
  · exact h
  · exact h
  · rename_i e
    obtain ⟨a, h1, h2⟩ := h
    refine ⟨a, h1, hin _ _ (fun q => ?_) h2⟩
    rw [e, q] at hm
    exact absurd hm (by decide)
  · rename_i e
    rcases h with h | ⟨a, h1, h2⟩
    · exact Or.inl h
    · refine Or.inr ⟨a, h1, hin _ _ (fun q => ?_) h2⟩
      rw [e, q] at hm
      exact absurd hm (by decide)
  · trivial
/-- a ready model's places, taken as a raw one's -/
def k_leV (a b : cVT) : Bool := decide (a = b) || (Nat.ble a.1 1 && Nat.beq a.1 b.1 && decide (b.2.1 ≤ a.2.1) && decide (a.2.2 ≤ b.2.2)) || (Nat.beq a.1 3 && Nat.beq b.1 4 && decide (a.2.1 = b.2.1))
theorem k_leV_ok {a b : cVT} (h : k_leV a b = true) {w : cWld} {v : Value} (hv : c_okV w a v) : c_okV w b v := by
  unfold k_leV at h
  rw [Bool.or_eq_true, Bool.or_eq_true, Bool.and_eq_true, Bool.and_eq_true, Bool.and_eq_true, Bool.and_eq_true, Bool.and_eq_true] at h
  rcases h with (h | ⟨⟨⟨h1, h2⟩, h3⟩, h4⟩) | ⟨⟨h1, h2⟩, h3⟩
  · rw [← of_decide_eq_true h]; exact hv
  · have e1 := Nat.le_of_ble_eq_true h1
    have e2 := Nat.eq_of_beq_eq_true h2
    have e3 := of_decide_eq_true h3
    have e4 := of_decide_eq_true h4
    unfold c_okV at hv ⊢
    rw [← e2]
    rcases (show a.1 = 0 ∨ a.1 = 1 by omega) with e | e
    · rw [e] at hv ⊢
      obtain ⟨x, x1, x2, x3⟩ := hv
      exact ⟨x, x1, by omega, by omega⟩
    · rw [e] at hv ⊢
      obtain ⟨x, x1, x2, x3⟩ := hv
      exact ⟨x, x1, by omega, by omega⟩
  · have e1 := Nat.eq_of_beq_eq_true h1
    have e2 := Nat.eq_of_beq_eq_true h2
    have e3 := of_decide_eq_true h3
    unfold c_okV at hv ⊢
    rw [e1] at hv
    rw [e2, ← e3]
    exact Or.inr hv
theorem k_raw13 : (List.range 58).all (fun j => k_leV (c_ty k_K 13 j) (c_ty k_K 113 j)) = true := by decide +kernel
theorem k_s13 : k_K.2.1 13 = (0, 58, 12) := by decide +kernel
theorem k_s113 : k_K.2.1 113 = (0, 58, 12) := by decide +kernel
theorem k_t1322 : c_ty k_K 13 22 = (3, 58, 0) := by decide +kernel
theorem k_switch {dA : Nat → ClassId} {AA : Nat → Prop} {w : cWld} {a2 : Nat} (hT : c_TW k_K dA w) (hD : va_D AA w.2.1) (h1 : w.2.2 1 = 1) (hin : c_in w a2 13) :
    ∃ w' : cWld, w'.2.1 = w.2.1 ∧ c_TW k_K dA w' ∧ (∀ x t, t ≠ 13 → c_in w x t → c_in w' x t) ∧ c_in w' a2 13 ∧ w'.2.2 1 = 0 := by
  obtain ⟨e, he1, he2⟩ := hin
  obtain ⟨f1, f2, f3, f4⟩ := hT _ he1
  dsimp only at f1 f2
  rw [he2] at f1 f2
  rw [k_s13] at f1
  obtain ⟨fs, rfl, hfl⟩ : ∃ fs : List Value, e = .inr (12, fs) ∧ fs.length = 58 := f1
  obtain ⟨y, hy⟩ : ∃ y, fs[22]? = some y := ⟨_, List.getElem?_eq_getElem (by rw [hfl]; decide)⟩
  have hok := f2 22 y hy
  rw [k_t1322] at hok
  obtain ⟨ca, rfl, hca⟩ := hok
  have mono : ∀ x t, t ≠ 13 → c_in w x t → c_in (fun a => if w.1 a = 13 ∧ a ≠ a2 then 113 else w.1 a, w.2.1, k_g0 (ca : Int)) x t := by
    rintro x t ht ⟨ce, g1, g2⟩
    refine ⟨ce, g1, ?_⟩
    show (if w.1 x = 13 ∧ x ≠ a2 then 113 else w.1 x) = t
    rw [if_neg (fun q => ht (g2.symm.trans q.1))]
    exact g2
  refine ⟨(fun a => if w.1 a = 13 ∧ a ≠ a2 then 113 else w.1 a, w.2.1, k_g0 (ca : Int)), rfl, fun q hq => ?_, mono, ⟨_, he1, ?_⟩, rfl⟩
  · obtain ⟨t1, t2, t3, t4⟩ := hT q hq
    dsimp only
    by_cases hc : w.1 q.1 = 13 ∧ q.1 ≠ a2
    · rw [if_pos hc]
      rw [hc.1] at t1 t2
      rw [k_s13] at t1
      refine ⟨by rw [k_s113]; exact t1, fun j v hv => ?_, fun i hi hi1 => ?_, ?_⟩
      · obtain ⟨f0, e0, hl0⟩ : ∃ f0 : List Value, q.2 = .inr (12, f0) ∧ f0.length = 58 := t1
        have hj : j < 58 := by
          rw [e0] at hv
          have hv : f0[j]? = some v := hv
          have := (List.getElem?_eq_some_iff.mp hv).1
          omega
        have hle := List.all_eq_true.mp k_raw13 j (List.mem_range.mpr hj)
        exact k_okV13 mono (k_tyMd 113 j) (k_leV_ok hle (t2 j v hv))
      · have hi4 : i ∈ [(13, 41, 38, ((0, 1, 8) : cVT)), (13, 49, 48, ((2, 0, 0) : cVT))] := hi
        rcases List.mem_cons.mp hi4 with rfl | hi4
        · exact absurd hi1 (by decide)
        · cases List.mem_singleton.mp hi4
          exact absurd hi1 (by decide)
      · exact ⟨fun h => absurd h (by decide), fun h => absurd h (by decide)⟩
    · rw [if_neg hc]
      refine ⟨t1, fun j v hv => k_okV13 mono (k_tyMd _ _) (t2 j v hv), fun i hi hi1 x hx hx0 v hv => k_okV13 mono (List.all_eq_true.mp k_impsMd i hi) (t3 i hi hi1 x hx hx0 v hv), ?_, ?_⟩
      · intro ht
        refine ⟨fun hh => absurd (show (0 : Int) = 1 from hh) (by decide), fun _ ha => ?_⟩
        exact k_JC0 ((t4.1 ht).1 h1)
      · intro ht
        right
        intro x hx
        have hqa : q.1 = a2 := by
          apply Classical.byContradiction
          intro hne
          exact hc ⟨ht, hne⟩
        have hq' : q = (a2, .inr (12, fs)) := by
          obtain ⟨i', hi'⟩ := c_idx hq
          obtain ⟨j', hj'⟩ := c_idx he1
          have := hD.1 i' j' _ _ hi' hj' hqa
          subst this
          exact Option.some.inj (hi'.symm.trans hj')
        subst hq'
        have hx : fs[22]? = some (.ref x) := hx
        rw [hy] at hx
        cases hx
        rfl
  · show (if w.1 a2 = 13 ∧ a2 ≠ a2 then 113 else w.1 a2) = 13
    rw [if_neg (fun q => q.2 rfl)]
    exact he2
