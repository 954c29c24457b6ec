/-! what stores and moves by hand do to the word on c -/
def k_up (F : Nat → Int) (i : Nat) (z : Int) (j : Nat) : Int := if j = i then z else F j
theorem k_up_eq {F : Nat → Int} {i : Nat} {z : Int} : k_up F i z i = z := if_pos rfl
theorem k_up_ne {F : Nat → Int} {i j : Nat} {z : Int} (h : j ≠ i) : k_up F i z j = F j := if_neg h
/-- the ghost numbers that most ops leave alone -/
def k_gs1 (g g' : Nat → Int) : Prop := g' 61 = g 61 ∧ g' 62 = g 62 ∧ g' 63 = g 63
def k_gs2 (g g' : Nat → Int) : Prop := g' 65 = g 65 ∧ g' 66 = g 66 ∧ g' 67 = g 67
def k_gs3 (g g' : Nat → Int) : Prop := g' 31 = g 31 ∧ g' 32 = g 32 ∧ g' 33 = g 33 ∧ g' 34 = g 34 ∧ g' 36 = g 36 ∧ g' 37 = g 37 ∧ g' 38 = g 38
def k_gs4 (g g' : Nat → Int) : Prop := g' 80 = g 80 ∧ g' 81 = g 81 ∧ g' 82 = g 82 ∧ g' 83 = g 83
def k_gs5 (g g' : Nat → Int) : Prop := g' 90 = g 90 ∧ g' 91 = g 91
section JO
variable {F F' g g' : Nat → Int}
theorem k_slo_cg (e : k_gs3 g g') (h : k_slo g) : k_slo g' := by
  obtain ⟨e1, e2, e3, e4, e5, e6, e7⟩ := e
  unfold k_slo
  rw [e1, e2, e3, e4, e5, e6, e7]
  exact h
theorem k_j811 {i : Nat} {z : Int} (h1 : 8 ≤ i) (h2 : i ≤ 11) (hz : g 1 = 2 ∨ (0 ≤ z ∧ z ≤ 11)) (h : k_JC F g) : k_JC (k_up F i z) g := by
  obtain ⟨a1, a2, a3, a4, a5, a6, a7, a8, a9, a10, a11, a12⟩ := h
  have ne : ∀ j, 12 ≤ j → k_up F i z j = F j := fun j hj => k_up_ne (by omega)
  have hp : ∀ k, k_lp k ∨ k_np k → 12 ≤ k := fun k hk => by unfold k_lp k_np at hk; omega
  refine ⟨fun hh j j1 j2 => ?_, k_bls_cg (fun b k _ hk => ne _ (by have := hp k hk; omega)) rfl a2, k_tel_cg (fun k _ _ => ne _ (by omega)) rfl rfl rfl a3, k_lyn_cg (fun k _ _ => ne _ (by omega)) rfl rfl rfl a4, k_bll_cg (fun k _ => ne _ (by omega)) rfl rfl rfl rfl a5, k_bln_cg (fun k _ _ => ne _ (by omega)) rfl rfl a6, k_clr_cg (fun k hk9 => ne _ (by omega)) rfl a7, k_cpb_cg (fun b k _ hk => ne _ (by have := hp k hk; omega)) rfl rfl rfl a8, k_cpl_cg (fun k hk => ⟨ne _ (hp k (Or.inl hk)), ne _ (by omega)⟩) rfl rfl a9, k_cpn_cg (fun k hk => ⟨ne _ (hp k (Or.inr hk)), ne _ (by omega)⟩) rfl rfl a10, a11, a12⟩
  by_cases hj : j = i
  · subst hj
    rw [k_up_eq]
    rcases hz with hz | hz
    · exact absurd hz hh
    · exact hz
  · rw [k_up_ne hj]
    exact a1 hh j j1 j2
theorem k_b811 {i : Nat} {z : Int} (h1 : 8 ≤ i) (h2 : i ≤ 11) (hz : 0 ≤ z ∧ z ≤ 11) (h : k_JB F) : k_JB (k_up F i z) := by
  have ne : ∀ j, 12 ≤ j → k_up F i z j = F j := fun j hj => k_up_ne (by omega)
  refine ⟨fun j j1 j2 => ?_, fun b hb => ⟨k_law_mv (fun k hk => ne _ (by unfold k_lp at hk; omega)) (h.2 b hb).1, k_lin_mv (fun k hk => ne _ (by unfold k_np at hk; omega)) (h.2 b hb).2⟩⟩
  by_cases hj : j = i
  · subst hj
    rw [k_up_eq]
    exact hz
  · rw [k_up_ne hj]
    exact h.1 j j1 j2
/-- a store in the new block leaves the others alone -/
theorem k_jb4 (hF : ∀ j, j < 8000 → F' j = F j) (e1 : g' 1 = g 1) (s1 : k_gs1 g g') (s2 : k_gs2 g g') (s3 : k_gs3 g g') (e87 : g' 87 = 0) (ht : k_tbl g') (h5 : k_bll F' g') (h6 : k_bln F' g') (h7 : k_clr F' g') (h : k_JC F g) : k_JC F' g' := by
  obtain ⟨a1, a2, a3, a4, a5, a6, a7, a8, a9, a10, a11, a12⟩ := h
  have hp : ∀ k, k_lp k ∨ k_np k → k < 2000 := fun k hk => by unfold k_lp k_np at hk; omega
  refine ⟨fun h1 => k_811_cg (fun i _ _ => hF i (by omega)) (a1 (by rw [← e1]; exact h1)), k_bls_cg (fun b k hb hk => hF _ (by have := hp k hk; omega)) e1 a2, k_tel_cg (fun k _ _ => hF _ (by omega)) s1.1 s1.2.1 s1.2.2 a3, k_lyn_cg (fun k _ _ => hF _ (by omega)) s2.1 s2.2.1 s2.2.2 a4, h5, h6, h7, fun b _ _ h0 => ?_, fun _ k _ h0 => ?_, fun _ k _ h0 => ?_, k_slo_cg s3 a11, ht⟩
  · omega
  · omega
  · omega
theorem k_bb4 (hF : ∀ j, j < 8000 → F' j = F j) (h : k_JB F) : k_JB F' := by
  refine ⟨k_811_cg (fun i _ _ => hF i (by omega)) h.1, fun b hb => ⟨k_law_mv (fun k hk => hF _ (by unfold k_lp at hk; omega)) (h.2 b hb).1, k_lin_mv (fun k hk => hF _ (by unfold k_np at hk; omega)) (h.2 b hb).2⟩⟩
/-- a step of a law is laid -/
theorem k_jcode {x h' : Int} {e : Nat} (he : g 81 = (e : Int)) (he2 : e < 600) (hc : h' < 0 ∨ (0 ≤ g 80 ∧ g 83 = 1 ∧ k_okL x (g 80) ∧ h' = g 80 + k_dL x)) (e80 : g' 80 = h') (e81 : g' 81 = (e : Int) + 1) (e82 : g' 82 = g 82) (e83 : g' 83 = g 83) (e1 : g' 1 = g 1) (s1 : k_gs1 g g') (s2 : k_gs2 g g') (s3 : k_gs3 g g') (s5 : k_gs5 g g') (e87 : g' 87 = 0) (e88 : g' 88 = g 88) (ht : k_tbl g') (h : k_JC F g) : k_JC (k_up F (8030 + e) x) g' := by
  have ne : ∀ j, j ≠ 8030 + e → k_up F (8030 + e) x j = F j := fun j hj => k_up_ne hj
  refine k_jb4 (fun j hj => ne _ (by omega)) e1 s1 s2 s3 e87 ht ?_ (k_bln_cg (fun k _ _ => ne _ (by omega)) s5.1 s5.2 h.2.2.2.2.2.1) (k_clr_cg (fun k hk9 => ne _ (by omega)) e88 h.2.2.2.2.2.2.1) h
  unfold k_bll
  rw [e80, e81, e82, e83]
  intro g1 g2
  rcases hc with hc | ⟨c1, c2, c3, c4⟩
  · omega
  · obtain ⟨p1, p2, p3, p4, p5, p6⟩ := h.2.2.2.2.1 c1 (by omega)
    refine ⟨p1, p2, fun l hl => ?_, fun l hl hl4 => ?_, fun h3 => ?_, fun _ => ?_⟩
    · obtain ⟨q1, q2, q3⟩ := p3 l hl
      rw [ne _ (by omega), ne _ (by omega)]
      exact ⟨q1, by omega, k_sf_cg (fun m hm => ne _ (by omega)) q3⟩
    · rw [ne _ (by omega)]
      exact p4 l hl hl4
    · omega
    · obtain ⟨q1, q2, q3, q4⟩ := p6 c2
      rw [ne _ (by omega)]
      generalize hB : F (8019 + (g 82).toNat) = b at q1 q2 q3 q4 ⊢
      have hn : ((e : Int) + 1 - b).toNat = ((g 81) - b).toNat + 1 := by omega
      have hc : ∀ m, m < (g 81 - b).toNat → k_up F (8030 + e) x (8030 + b.toNat + m) = F (8030 + b.toNat + m) := fun m hm => ne _ (by omega)
      refine ⟨q1, by omega, ?_, ?_⟩
      · rw [hn]
        intro m hm
        by_cases hm2 : m < (g 81 - b).toNat
        · exact k_sf_cg hc q3 m hm2
        · have : m = (g 81 - b).toNat := by omega
          subst this
          rw [k_h_cg hc, q4, show 8030 + b.toNat + (g 81 - b).toNat = 8030 + e by omega, k_up_eq]
          exact c3
      · rw [hn]
        show k_h k_dL _ _ _ + k_dL _ = _
        rw [k_h_cg hc, q4, show 8030 + b.toNat + (g 81 - b).toNat = 8030 + e by omega, k_up_eq]
        omega
/-- a law begins -/
theorem k_jlawA {n : Nat} (hn : g 82 = (n : Int)) (hn2 : n ≤ 3) (h83 : g 83 = 0) (h81 : 0 ≤ g 81) {h' : Int} (hc : h' < 0 ∨ (0 ≤ g 80 ∧ h' = 0)) (e80 : g' 80 = h') (e81 : g' 81 = g 81) (e82 : g' 82 = g 82) (e83 : g' 83 = 1) (e1 : g' 1 = g 1) (s1 : k_gs1 g g') (s2 : k_gs2 g g') (s3 : k_gs3 g g') (s5 : k_gs5 g g') (e87 : g' 87 = 0) (e88 : g' 88 = 0) (ht : k_tbl g') (h : k_JC F g) : k_JC (k_up F (8019 + n) (g 81)) g' := by
  have ne : ∀ j, j ≠ 8019 + n → k_up F (8019 + n) (g 81) j = F j := fun j hj => k_up_ne hj
  refine k_jb4 (fun j hj => ne _ (by omega)) e1 s1 s2 s3 e87 ht ?_ (k_bln_cg (fun k _ _ => ne _ (by omega)) s5.1 s5.2 h.2.2.2.2.2.1) (fun k _ h0 => by omega) h
  unfold k_bll
  rw [e80, e81, e82, e83]
  intro g1 g2
  rcases hc with hc | ⟨c1, c2⟩
  · omega
  · obtain ⟨p1, p2, p3, p4, p5, p6⟩ := h.2.2.2.2.1 c1 g2
    refine ⟨p1, p2, fun l hl => ?_, fun l hl hl4 => ?_, fun h3 => by omega, fun _ => ?_⟩
    · obtain ⟨q1, q2, q3⟩ := p3 l hl
      have hl2 : k_up F (8019 + n) (g 81) (8020 + l) = F (8020 + l) := by
        by_cases hh : 8020 + l = 8019 + n
        · rw [hh, k_up_eq]
          rcases p5 h83 with p5 | p5
          · omega
          · rw [← p5]
            congr 1
            omega
        · exact ne _ hh
      rw [ne _ (by omega), hl2]
      exact ⟨q1, q2, k_sf_cg (fun m hm => ne _ (by omega)) q3⟩
    · rw [ne _ (by omega)]
      exact p4 l hl hl4
    · rw [show 8019 + (g 82).toNat = 8019 + n by omega, k_up_eq, Int.sub_self]
      exact ⟨h81, Int.le_refl _, fun m hm => absurd hm (by simp), c2.symm⟩
/-- a law ends -/
theorem k_jlawB {n : Nat} (hn : g 82 = (n : Int)) (hn2 : n ≤ 3) (h83 : g 83 = 1) (e80 : g' 80 = g 80) (e81 : g' 81 = g 81) (e82 : g' 82 = (n : Int) + 1) (e83 : g' 83 = 0) (e1 : g' 1 = g 1) (s1 : k_gs1 g g') (s2 : k_gs2 g g') (s3 : k_gs3 g g') (s5 : k_gs5 g g') (e87 : g' 87 = 0) (e88 : g' 88 = 0) (ht : k_tbl g') (h : k_JC F g) : k_JC (k_up F (8020 + n) (g 81)) g' := by
  have ne : ∀ j, j ≠ 8020 + n → k_up F (8020 + n) (g 81) j = F j := fun j hj => k_up_ne hj
  refine k_jb4 (fun j hj => ne _ (by omega)) e1 s1 s2 s3 e87 ht ?_ (k_bln_cg (fun k _ _ => ne _ (by omega)) s5.1 s5.2 h.2.2.2.2.2.1) (fun k _ h0 => by omega) h
  unfold k_bll
  rw [e80, e81, e82, e83]
  intro g1 g2
  obtain ⟨p1, p2, p3, p4, p5, p6⟩ := h.2.2.2.2.1 g1 g2
  refine ⟨by omega, by omega, fun l hl => ?_, fun l hl hl4 => ?_, fun _ => Or.inr ?_, fun h3 => by omega⟩
  · by_cases hln : l = n
    · subst hln
      obtain ⟨q1, q2, q3, q4⟩ := p6 h83
      rw [show (g 82).toNat = l by omega] at q1 q2 q3
      rw [ne _ (by omega), k_up_eq]
      exact ⟨q1, Int.le_refl _, k_sf_cg (fun m hm => ne _ (by omega)) q3⟩
    · obtain ⟨q1, q2, q3⟩ := p3 l (by omega)
      rw [ne _ (by omega), ne _ (by omega)]
      exact ⟨q1, q2, k_sf_cg (fun m hm => ne _ (by omega)) q3⟩
  · rw [ne _ (by omega)]
    exact p4 l (by omega) hl4
  · rw [show 8019 + ((n : Int) + 1).toNat = 8020 + n by omega, k_up_eq]
/-- the new block is cleared -/
theorem k_jclr {k : Nat} (hk : k < 1590) (h80 : g 80 < 0) (h88 : g 88 = (k : Int)) (e88 : g' 88 = (k : Int) + 1) (e1 : g' 1 = g 1) (s1 : k_gs1 g g') (s2 : k_gs2 g g') (s3 : k_gs3 g g') (s4 : k_gs4 g g') (s5 : k_gs5 g g') (e87 : g' 87 = 0) (ht : k_tbl g') (h : k_JC F g) : k_JC (k_up F (8000 + k) 0) g' := by
  have ne : ∀ j, j ≠ 8000 + k → k_up F (8000 + k) 0 j = F j := fun j hj => k_up_ne hj
  refine k_jb4 (fun j hj => ne _ (by omega)) e1 s1 s2 s3 e87 ht (fun h0 => by rw [s4.1] at h0; omega) (k_bln_cg (fun k _ _ => ne _ (by omega)) s5.1 s5.2 h.2.2.2.2.2.1) (fun i i1 i3 => ?_) h
  by_cases hi : i = k
  · subst hi
    exact k_up_eq
  · rw [ne _ (by omega)]
    exact h.2.2.2.2.2.2.1 i i1 (by omega)
/-- a step of a line is laid -/
theorem k_jstep {x h' : Int} {q : Nat} (hq : g 91 = (q : Int)) (hq2 : q < 206) (hc : h' < 0 ∨ (0 ≤ g 90 ∧ k_okN x (g 90) ∧ h' = g 90 + k_dN x)) (e90 : g' 90 = h') (e91 : g' 91 = (q : Int) + 1) (e1 : g' 1 = g 1) (s1 : k_gs1 g g') (s2 : k_gs2 g g') (s3 : k_gs3 g g') (s4 : k_gs4 g g') (e87 : g' 87 = 0) (e88 : g' 88 = g 88) (ht : k_tbl g') (h : k_JC F g) : k_JC (k_up F (9794 + q) x) g' := by
  have ne : ∀ j, j ≠ 9794 + q → k_up F (9794 + q) x j = F j := fun j hj => k_up_ne hj
  refine k_jb4 (fun j hj => ne _ (by omega)) e1 s1 s2 s3 e87 ht (k_bll_cg (fun k hk => ne _ (by unfold k_lp at hk; omega)) s4.1 s4.2.1 s4.2.2.1 s4.2.2.2 h.2.2.2.2.1) ?_ (k_clr_cg (fun k hk9 => ne _ (by omega)) e88 h.2.2.2.2.2.2.1) h
  unfold k_bln
  rw [e90, e91]
  intro g1 g2
  rcases hc with hc | ⟨c1, c3, c4⟩
  · omega
  · obtain ⟨p1, p2, p3⟩ := h.2.2.2.2.2.1 c1 (by omega)
    have hn : ((q : Int) + 1).toNat = (g 91).toNat + 1 := by omega
    have hc : ∀ m, m < (g 91).toNat → k_up F (9794 + q) x (9794 + m) = F (9794 + m) := fun m hm => ne _ (by omega)
    refine ⟨by omega, ?_, ?_⟩
    · rw [hn]
      intro m hm
      by_cases hm2 : m < (g 91).toNat
      · exact k_sf_cg hc p2 m hm2
      · have : m = (g 91).toNat := by omega
        subst this
        rw [k_h_cg hc, p3, show 9794 + (g 91).toNat = 9794 + q by omega, k_up_eq]
        exact c3
    · rw [hn]
      show k_h k_dN _ _ _ + k_dN _ = _
      rw [k_h_cg hc, p3, show 9794 + (g 91).toNat = 9794 + q by omega, k_up_eq]
      omega
/-- the line's length is laid -/
theorem k_jlen {z : Int} (e1 : g' 1 = g 1) (s1 : k_gs1 g g') (s2 : k_gs2 g g') (s3 : k_gs3 g g') (s4 : k_gs4 g g') (s5 : k_gs5 g g') (e87 : g' 87 = 0) (e88 : g' 88 = g 88) (ht : k_tbl g') (h : k_JC F g) : k_JC (k_up F 9713 z) g' := by
  have ne : ∀ j, j ≠ 9713 → k_up F 9713 z j = F j := fun j hj => k_up_ne hj
  exact k_jb4 (fun j hj => ne _ (by omega)) e1 s1 s2 s3 e87 ht (k_bll_cg (fun k hk => ne _ (by unfold k_lp at hk; omega)) s4.1 s4.2.1 s4.2.2.1 s4.2.2.2 h.2.2.2.2.1) (k_bln_cg (fun k _ _ => ne _ (by omega)) s5.1 s5.2 h.2.2.2.2.2.1) (k_clr_cg (fun k hk9 => ne _ (by omega)) e88 h.2.2.2.2.2.2.1) h
/-- the new laws are copied -/
theorem k_jcpl {k : Nat} {z : Int} (hk : k < 1590) (hz : z = F (8000 + k)) (hz2 : 8 ≤ k → k ≤ 11 → 0 ≤ z ∧ z ≤ 11) (h1 : g 1 = 7) (h87 : g 87 = (k : Int)) (e87 : g' 87 = (k : Int) + 1) (e1 : g' 1 = g 1) (e61 : g' 61 = 0) (s2 : k_gs2 g g') (s3 : k_gs3 g g') (s4 : k_gs4 g g') (s5 : k_gs5 g g') (e88 : g' 88 = g 88) (ht : k_tbl g') (h : k_JC F g) : k_JC (k_up F k z) g' := by
  obtain ⟨a1, a2, a3, a4, a5, a6, a7, a8, a9, a10, a11, a12⟩ := h
  have ne : ∀ j, j ≠ k → k_up F k z j = F j := fun j hj => k_up_ne hj
  refine ⟨fun hh i i1 i2 => ?_, fun b hb => ⟨fun b1 b2 => ?_, fun b1 b2 => ?_⟩, fun h0 => by omega, k_lyn_cg (fun j _ _ => ne _ (by omega)) s2.1 s2.2.1 s2.2.2 a4, k_bll_cg (fun j _ => ne _ (by omega)) s4.1 s4.2.1 s4.2.2.1 s4.2.2.2 a5, k_bln_cg (fun j _ _ => ne _ (by omega)) s5.1 s5.2 a6, k_clr_cg (fun j hk9 => ne _ (by omega)) e88 a7, fun b hb hh => by omega, fun _ i hi i3 => ?_, fun hh => by omega, k_slo_cg s3 a11, ht⟩
  · by_cases hi : i = k
    · subst hi
      rw [k_up_eq]
      exact hz2 i1 i2
    · rw [ne _ hi]
      exact a1 (by omega) i i1 i2
  · refine k_law_mv (fun j hj => ne _ ?_) ((a2 b hb).1 (by omega) (fun hh => by have := b2 hh; omega))
    by_cases hb0 : b = 0
    · have := b2 hb0; omega
    · omega
  · exact k_lin_mv (fun j hj => ne _ (by unfold k_np at hj; omega)) ((a2 b hb).2 (by omega) (fun hh => by omega))
  · rw [ne (8000 + i) (by omega)]
    by_cases hi2 : i = k
    · subst hi2
      rw [k_up_eq]
      exact hz
    · rw [ne _ hi2]
      exact a9 h1 i hi (by omega)
/-- the new line is copied -/
theorem k_jcpn {k : Nat} {z : Int} (hk0 : 1712 ≤ k) (hk : k < 2000) (hz : z = F (8000 + k)) (h1 : g 1 = 8) (h87 : g 87 = (k : Int)) (e87 : g' 87 = (k : Int) + 1) (e1 : g' 1 = g 1) (e65 : g' 65 = 0) (s1 : k_gs1 g g') (s3 : k_gs3 g g') (s4 : k_gs4 g g') (s5 : k_gs5 g g') (e88 : g' 88 = g 88) (ht : k_tbl g') (h : k_JC F g) : k_JC (k_up F k z) g' := by
  obtain ⟨a1, a2, a3, a4, a5, a6, a7, a8, a9, a10, a11, a12⟩ := h
  have ne : ∀ j, j ≠ k → k_up F k z j = F j := fun j hj => k_up_ne hj
  refine ⟨fun hh => k_811_cg (fun i _ _ => ne _ (by omega)) (a1 (by omega)), fun b hb => ⟨fun b1 b2 => ?_, fun b1 b2 => ?_⟩, k_tel_cg (fun j _ _ => ne _ (by omega)) s1.1 s1.2.1 s1.2.2 a3, fun h0 => by omega, k_bll_cg (fun j _ => ne _ (by omega)) s4.1 s4.2.1 s4.2.2.1 s4.2.2.2 a5, k_bln_cg (fun j _ _ => ne _ (by omega)) s5.1 s5.2 a6, k_clr_cg (fun j hk9 => ne _ (by omega)) e88 a7, fun b hb hh => by omega, fun hh => by omega, fun _ i hi i3 => ?_, k_slo_cg s3 a11, ht⟩
  · exact k_law_mv (fun j hj => ne _ (by unfold k_lp at hj; omega)) ((a2 b hb).1 (by omega) (fun hh => by omega))
  · refine k_lin_mv (fun j hj => ne _ ?_) ((a2 b hb).2 (by omega) (fun hh => by have := b2 hh; omega))
    by_cases hb0 : b = 0
    · have := b2 hb0; omega
    · unfold k_np at hj; omega
  · rw [ne (8000 + i) (by omega)]
    by_cases hi2 : i = k
    · subst hi2
      rw [k_up_eq]
      exact hz
    · rw [ne _ hi2]
      exact a10 h1 i hi (by omega)
/-- a block is copied -/
theorem k_jcpb {b fr k : Nat} {z : Int} (hb : b < 4) (hfr : fr < 4) (hne : fr ≠ b) (hk : k < 2000) (hz : z = F (2000 * fr + k)) (hz2 : b = 0 → 8 ≤ k → k ≤ 11 → 0 ≤ z ∧ z ≤ 11) (h1 : g 1 = 3 + (b : Int)) (h86 : g 86 = (fr : Int)) (h87 : g 87 = (k : Int)) (e87 : g' 87 = (k : Int) + 1) (e86 : g' 86 = g 86) (e1 : g' 1 = g 1) (e61 : g' 61 = 0) (e65 : g' 65 = 0) (s3 : k_gs3 g g') (s4 : k_gs4 g g') (s5 : k_gs5 g g') (e88 : g' 88 = g 88) (ht : k_tbl g') (h : k_JC F g) : k_JC (k_up F (2000 * b + k) z) g' := by
  obtain ⟨a1, a2, a3, a4, a5, a6, a7, a8, a9, a10, a11, a12⟩ := h
  have ne : ∀ j, j ≠ 2000 * b + k → k_up F (2000 * b + k) z j = F j := fun j hj => k_up_ne hj
  have hp : ∀ j, k_lp j ∨ k_np j → j < 2000 := fun j hj => by unfold k_lp k_np at hj; omega
  have neb : ∀ b' j, b' ≠ b → j < 2000 → 2000 * b' + j ≠ 2000 * b + k := fun b' j h1 h2 => by omega
  refine ⟨fun hh i i1 i2 => ?_, fun b' hb' => ⟨fun b1 b2 => ?_, fun b1 b2 => ?_⟩, fun h0 => by omega, fun h0 => by omega, k_bll_cg (fun j _ => ne _ (by omega)) s4.1 s4.2.1 s4.2.2.1 s4.2.2.2 a5, k_bln_cg (fun j _ _ => ne _ (by omega)) s5.1 s5.2 a6, k_clr_cg (fun j hk9 => ne _ (by omega)) e88 a7, fun b' hb' hh h0 => ?_, fun hh => by omega, fun hh => by omega, k_slo_cg s3 a11, ht⟩
  · by_cases hi : i = 2000 * b + k
    · rw [hi, k_up_eq]
      exact hz2 (by omega) (by omega) (by omega)
    · rw [ne _ hi]
      exact a1 (by omega) i i1 i2
  · exact k_law_mv (fun j hj => ne _ (neb b' j (by omega) (hp j (Or.inl hj)))) ((a2 b' hb').1 (by omega) (fun hh => by omega))
  · exact k_lin_mv (fun j hj => ne _ (neb b' j (by omega) (hp j (Or.inr hj)))) ((a2 b' hb').2 (by omega) (fun hh => by omega))
  · have : b' = b := by omega
    subst this
    refine ⟨fr, by omega, hfr, hne, fun i hi i3 => ?_⟩
    have hi9 := hp i hi
    rw [ne (2000 * fr + i) (neb fr i hne hi9)]
    by_cases hi2 : i = k
    · subst hi2
      rw [k_up_eq]
      exact hz
    · rw [ne _ (by omega)]
      have h87' : 0 < g 87 := by omega
      obtain ⟨fr', f1, f2, f3, f4⟩ := a8 b' hb' h1 h87'
      have : fr' = fr := by omega
      subst this
      exact f4 i hi (by omega)
/-- moves: only ghost numbers change -/
theorem k_jmv (e : ∀ j, j ≠ 1 → j ≠ 87 → j ≠ 86 → g' j = g j) (h87 : g' 87 ≤ 0 ∨ (g' 1 ≠ 7 ∧ g' 1 ≠ 8 ∧ ∀ b : Nat, b < 4 → g' 1 ≠ 3 + (b : Int))) (h1 : g' 1 ≠ 2 → k_811 F) (h2 : k_bls F g') (hn : g' 1 = 8 → g' 87 ≤ 1712) (h : k_JC F g) : k_JC F g' := by
  obtain ⟨a1, a2, a3, a4, a5, a6, a7, a8, a9, a10, a11, a12⟩ := h
  refine ⟨h1, h2, k_tel_cg (fun _ _ _ => rfl) (e 61 (by decide) (by decide) (by decide)) (e 62 (by decide) (by decide) (by decide)) (e 63 (by decide) (by decide) (by decide)) a3, k_lyn_cg (fun _ _ _ => rfl) (e 65 (by decide) (by decide) (by decide)) (e 66 (by decide) (by decide) (by decide)) (e 67 (by decide) (by decide) (by decide)) a4,
    k_bll_cg (fun _ _ => rfl) (e 80 (by decide) (by decide) (by decide)) (e 81 (by decide) (by decide) (by decide)) (e 82 (by decide) (by decide) (by decide)) (e 83 (by decide) (by decide) (by decide)) a5, k_bln_cg (fun _ _ _ => rfl) (e 90 (by decide) (by decide) (by decide)) (e 91 (by decide) (by decide) (by decide)) a6, k_clr_cg (fun _ _ => rfl) (e 88 (by decide) (by decide) (by decide)) a7, fun b hb hh h0 => ?_, fun hh k hk h0 => ?_, fun hh k hk h0 => ?_,
    k_slo_cg ⟨e 31 (by decide) (by decide) (by decide), e 32 (by decide) (by decide) (by decide), e 33 (by decide) (by decide) (by decide), e 34 (by decide) (by decide) (by decide), e 36 (by decide) (by decide) (by decide), e 37 (by decide) (by decide) (by decide), e 38 (by decide) (by decide) (by decide)⟩ a11, fun x y => ?_⟩
  · rcases h87 with h87 | h87
    · omega
    · exact absurd hh (h87.2.2 b hb)
  · rcases h87 with h87 | h87
    · omega
    · exact absurd hh h87.1
  · have := hn hh
    unfold k_np at hk
    omega
  · have hx := x.le_toInt
    have hy := y.le_toInt
    have e9 : k_bix x.toInt y.toInt ≥ 1000 := by unfold k_bix; omega
    rw [e _ (by omega) (by omega) (by omega)]
    exact a12 x y
theorem k_bls_all (h : ∀ b, b < 4 → k_law F b ∧ k_lin F b) : k_bls F g := fun b hb => ⟨fun _ _ => (h b hb).1, fun _ _ => (h b hb).2⟩
theorem k_bls_0 (h0 : g 1 = 0 ∨ g 1 = 2) (h : k_bls F g) : ∀ b, b < 4 → k_law F b ∧ k_lin F b := fun b hb => ⟨(h b hb).1 (by omega) (fun _ => by omega), (h b hb).2 (by omega) (fun _ => by omega)⟩
/-- the new laws stand -/
theorem k_jend7 (h1 : g 1 = 7) (h87 : 630 ≤ g 87) (h80 : 0 ≤ g 80) (h81 : g 81 ≤ 600) (h83 : g 83 = 0) (h : k_JC F g) : ∀ b, b < 4 → k_law F b ∧ k_lin F b := by
  obtain ⟨a1, a2, a3, a4, a5, a6, a7, a8, a9, a10, a11, a12⟩ := h
  intro b hb
  refine ⟨?_, (a2 b hb).2 (by omega) (fun _ => by omega)⟩
  by_cases hb0 : b = 0
  · subst hb0
    obtain ⟨p1, p2, p3, p4, p5, p6⟩ := a5 h80 h81
    have cp : ∀ k, k_lp k → F (2000 * 0 + k) = F (8000 + k) := fun k hk => by
      rw [Nat.mul_zero, Nat.zero_add]
      exact a9 h1 k hk (by unfold k_lp at hk; omega)
    have nw : k_law F 4 := fun l hl q1 q2 => by
      by_cases hg : (l : Int) < g 82
      · exact (p3 l hg).2.2
      · have hz := p4 (l + 1) (by omega) (by omega)
        rw [show 8019 + (l + 1) = 2000 * 4 + 20 + l by omega] at hz
        intro m hm
        rw [hz] at hm
        exact absurd hm (by omega)
    exact k_law_mv (b := 4) cp nw
  · exact (a2 b hb).1 (by omega) (fun hh => absurd hh hb0)
/-- the new line stands -/
theorem k_jend8 (h1 : g 1 = 8) (h87 : 2000 ≤ g 87) (h90 : 0 ≤ g 90) (h91 : g 91 ≤ 206) (hF : F 9713 = g 91) (h : k_JC F g) : ∀ b, b < 4 → k_law F b ∧ k_lin F b := by
  obtain ⟨a1, a2, a3, a4, a5, a6, a7, a8, a9, a10, a11, a12⟩ := h
  intro b hb
  refine ⟨(a2 b hb).1 (by omega) (fun _ => by omega), ?_⟩
  by_cases hb0 : b = 0
  · subst hb0
    obtain ⟨p1, p2, p3⟩ := a6 h90 h91
    have cp : ∀ k, k_np k → F (2000 * 0 + k) = F (2000 * 4 + k) := fun k hk => by
      rw [Nat.mul_zero, Nat.zero_add]
      exact a10 h1 k hk (by unfold k_np at hk; omega)
    refine k_lin_mv (b := 4) cp (fun _ => ?_)
    show k_sf k_dN k_okN F 9794 (F 9713).toNat
    rw [hF]
    exact p2
  · exact (a2 b hb).2 (by omega) (fun hh => absurd hh hb0)
/-- a copied block stands -/
theorem k_jend3 {b : Nat} (hb : b < 4) (h1 : g 1 = 3 + (b : Int)) (h87 : 2000 ≤ g 87) (h : k_JC F g) : ∀ b, b < 4 → k_law F b ∧ k_lin F b := by
  obtain ⟨a1, a2, a3, a4, a5, a6, a7, a8, a9, a10, a11, a12⟩ := h
  intro b' hb'
  by_cases hbb : b' = b
  · subst hbb
    obtain ⟨fr, f1, f2, f3, f4⟩ := a8 b' hb' h1 (by omega)
    exact ⟨k_law_mv (b := fr) (fun k hk => f4 k (Or.inl hk) (by unfold k_lp at hk; omega)) ((a2 fr f2).1 (by omega) (fun _ => by omega)), k_lin_mv (b := fr) (fun k hk => f4 k (Or.inr hk) (by unfold k_np at hk; omega)) ((a2 fr f2).2 (by omega) (fun _ => by omega))⟩
  · exact ⟨(a2 b' hb').1 (by omega) (fun _ => by omega), (a2 b' hb').2 (by omega) (fun _ => by omega)⟩
/-- one clause is set anew, by ghost numbers of its own -/
theorem k_jtel (e1 : g' 1 = g 1) (s2 : k_gs2 g g') (s3 : k_gs3 g g') (s4 : k_gs4 g g') (s5 : k_gs5 g g') (e86 : g' 86 = g 86) (e87 : g' 87 = g 87) (e88 : g' 88 = g 88) (ht : k_tbl g') (h3 : k_tel F g') (h : k_JC F g) : k_JC F g' := by
  obtain ⟨a1, a2, a3, a4, a5, a6, a7, a8, a9, a10, a11, a12⟩ := h
  exact ⟨fun hh => a1 (by rw [← e1]; exact hh), k_bls_cg (fun _ _ _ _ => rfl) e1 a2, h3, k_lyn_cg (fun _ _ _ => rfl) s2.1 s2.2.1 s2.2.2 a4, k_bll_cg (fun _ _ => rfl) s4.1 s4.2.1 s4.2.2.1 s4.2.2.2 a5, k_bln_cg (fun _ _ _ => rfl) s5.1 s5.2 a6, k_clr_cg (fun _ _ => rfl) e88 a7, k_cpb_cg (fun _ _ _ _ => rfl) e1 e86 e87 a8, k_cpl_cg (fun _ _ => ⟨rfl, rfl⟩) e1 e87 a9, k_cpn_cg (fun _ _ => ⟨rfl, rfl⟩) e1 e87 a10, k_slo_cg s3 a11, ht⟩
theorem k_jlyn (e1 : g' 1 = g 1) (s1 : k_gs1 g g') (s3 : k_gs3 g g') (s4 : k_gs4 g g') (s5 : k_gs5 g g') (e86 : g' 86 = g 86) (e87 : g' 87 = g 87) (e88 : g' 88 = g 88) (ht : k_tbl g') (h4 : k_lyn F g') (h : k_JC F g) : k_JC F g' := by
  obtain ⟨a1, a2, a3, a4, a5, a6, a7, a8, a9, a10, a11, a12⟩ := h
  exact ⟨fun hh => a1 (by rw [← e1]; exact hh), k_bls_cg (fun _ _ _ _ => rfl) e1 a2, k_tel_cg (fun _ _ _ => rfl) s1.1 s1.2.1 s1.2.2 a3, h4, k_bll_cg (fun _ _ => rfl) s4.1 s4.2.1 s4.2.2.1 s4.2.2.2 a5, k_bln_cg (fun _ _ _ => rfl) s5.1 s5.2 a6, k_clr_cg (fun _ _ => rfl) e88 a7, k_cpb_cg (fun _ _ _ _ => rfl) e1 e86 e87 a8, k_cpl_cg (fun _ _ => ⟨rfl, rfl⟩) e1 e87 a9, k_cpn_cg (fun _ _ => ⟨rfl, rfl⟩) e1 e87 a10, k_slo_cg s3 a11, ht⟩
theorem k_jslo (e1 : g' 1 = g 1) (s1 : k_gs1 g g') (s2 : k_gs2 g g') (s4 : k_gs4 g g') (s5 : k_gs5 g g') (e86 : g' 86 = g 86) (e87 : g' 87 = g 87) (e88 : g' 88 = g 88) (ht : k_tbl g') (h3 : k_slo g') (h : k_JC F g) : k_JC F g' := by
  obtain ⟨a1, a2, a3, a4, a5, a6, a7, a8, a9, a10, a11, a12⟩ := h
  exact ⟨fun hh => a1 (by rw [← e1]; exact hh), k_bls_cg (fun _ _ _ _ => rfl) e1 a2, k_tel_cg (fun _ _ _ => rfl) s1.1 s1.2.1 s1.2.2 a3, k_lyn_cg (fun _ _ _ => rfl) s2.1 s2.2.1 s2.2.2 a4, k_bll_cg (fun _ _ => rfl) s4.1 s4.2.1 s4.2.2.1 s4.2.2.2 a5, k_bln_cg (fun _ _ _ => rfl) s5.1 s5.2 a6, k_clr_cg (fun _ _ => rfl) e88 a7, k_cpb_cg (fun _ _ _ _ => rfl) e1 e86 e87 a8, k_cpl_cg (fun _ _ => ⟨rfl, rfl⟩) e1 e87 a9, k_cpn_cg (fun _ _ => ⟨rfl, rfl⟩) e1 e87 a10, h3, ht⟩
/-- building begins (or breaks) -/
theorem k_jbl (e1 : g' 1 = g 1) (s1 : k_gs1 g g') (s2 : k_gs2 g g') (s3 : k_gs3 g g') (e86 : g' 86 = g 86) (e87 : g' 87 = g 87) (ht : k_tbl g') (h5 : k_bll F g') (h6 : k_bln F g') (h7 : k_clr F g') (h : k_JC F g) : k_JC F g' := by
  obtain ⟨a1, a2, a3, a4, a5, a6, a7, a8, a9, a10, a11, a12⟩ := h
  exact ⟨fun hh => a1 (by rw [← e1]; exact hh), k_bls_cg (fun _ _ _ _ => rfl) e1 a2, k_tel_cg (fun _ _ _ => rfl) s1.1 s1.2.1 s1.2.2 a3, k_lyn_cg (fun _ _ _ => rfl) s2.1 s2.2.1 s2.2.2 a4, h5, h6, h7, k_cpb_cg (fun _ _ _ _ => rfl) e1 e86 e87 a8, k_cpl_cg (fun _ _ => ⟨rfl, rfl⟩) e1 e87 a9, k_cpn_cg (fun _ _ => ⟨rfl, rfl⟩) e1 e87 a10, k_slo_cg s3 a11, ht⟩
/-- a step of a law is read -/
theorem k_jtst {k : Nat} (h62 : g 62 = (k : Int)) (hk : g 62 < g 61) (h61 : g 61 ≤ 600) (h : k_tel F g) : k_okL (F (30 + k)) (g 63) ∧ ∀ g' : Nat → Int, g' 61 = g 61 → g' 62 = (k : Int) + 1 → g' 63 = g 63 + k_dL (F (30 + k)) → k_tel F g' := by
  obtain ⟨p, p1, p2, p3⟩ := h (by omega) h61 (by omega)
  have hm : (g 62 - p).toNat < (g 61 - p).toNat := by omega
  have h1 := p2 _ hm
  rw [p3, show 30 + p + (g 62 - p).toNat = 30 + k by omega] at h1
  refine ⟨h1, fun g' e1 e2 e3 _ _ _ => ⟨p, by omega, by rw [e1]; exact p2, ?_⟩⟩
  rw [e2, e3, show ((k : Int) + 1 - p).toNat = (g 62 - p).toNat + 1 by omega]
  show k_h k_dL F (30 + p) (g 62 - p).toNat + k_dL (F (30 + p + (g 62 - p).toNat)) = _
  rw [p3, show 30 + p + (g 62 - p).toNat = 30 + k by omega]
theorem k_jlst {k : Nat} (h66 : g 66 = (k : Int)) (hk : g 66 < g 65) (h65 : g 65 ≤ 206) (h : k_lyn F g) : k_okN (F (1794 + k)) (g 67) ∧ ∀ g' : Nat → Int, g' 65 = g 65 → g' 66 = (k : Int) + 1 → g' 67 = g 67 + k_dN (F (1794 + k)) → k_lyn F g' := by
  obtain ⟨p1, p2, p3⟩ := h (by omega) h65 (by omega)
  have hm : (g 66).toNat < (g 65).toNat := by omega
  have h1 := p2 _ hm
  rw [p3, show 1794 + (g 66).toNat = 1794 + k by omega] at h1
  refine ⟨h1, fun g' e1 e2 e3 _ _ _ => ⟨by omega, by rw [e1]; exact p2, ?_⟩⟩
  rw [e2, e3, show ((k : Int) + 1).toNat = (g 66).toNat + 1 by omega]
  show k_h k_dN F 1794 (g 66).toNat + k_dN (F (1794 + (g 66).toNat)) = _
  rw [p3, show 1794 + (g 66).toNat = 1794 + k by omega]
/-- the number of new laws is laid -/
theorem k_jcnt {z : Int} (e1 : g' 1 = g 1) (s1 : k_gs1 g g') (s2 : k_gs2 g g') (s3 : k_gs3 g g') (s4 : k_gs4 g g') (s5 : k_gs5 g g') (e87 : g' 87 = 0) (e88 : g' 88 = 0) (ht : k_tbl g') (h : k_JC F g) : k_JC (k_up F 8003 z) g' := by
  have ne : ∀ j, j ≠ 8003 → k_up F 8003 z j = F j := fun j hj => k_up_ne hj
  exact k_jb4 (fun j hj => ne _ (by omega)) e1 s1 s2 s3 e87 ht (k_bll_cg (fun k hk => ne _ (by unfold k_lp at hk; omega)) s4.1 s4.2.1 s4.2.2.1 s4.2.2.2 h.2.2.2.2.1) (k_bln_cg (fun k _ _ => ne _ (by omega)) s5.1 s5.2 h.2.2.2.2.2.1) (fun k _ h0 => by omega) h
/-- a year more -/
theorem k_jyear {y : Int} (h36 : 1 ≤ g 36) (h0 : g 34 ≤ y) (h1 : 0 ≤ y) (h2 : y ≤ 11) (e31 : g' 31 = g 31 + 1) (e32 : g' 32 = g 32 + y) (e33 : g' 33 = g 33 + y * y) (e34 : g' 34 = y + 1) (e37 : g' 37 < 0) (e38 : g' 38 < 0) (h : k_slo g) : k_slo g' := by
  obtain ⟨-, -, a1, a2, a3, a4, a5, a6, a7, a8, a9, a10⟩ := h h36
  intro _
  rw [e31, e32, e33, e34]
  have hyy : y * y ≤ 121 := by
    have := Int.mul_le_mul h2 h2 h1 (by omega)
    omega
  have hyy0 : 0 ≤ y * y := Int.mul_nonneg h1 h1
  have hq := a8 y h0
  have id : (g 31 + 1) * (g 33 + y * y) - (g 32 + y) * (g 32 + y) = (g 31 * g 33 - g 32 * g 32) + (g 33 + g 31 * y * y - 2 * g 32 * y) := by grind
  refine ⟨fun h9 => by omega, fun h9 => by omega, by omega, by omega, by omega, by omega, by omega, by omega, by omega, fun z hz => ?_, ?_, fun h9 => ?_⟩
  · have h3 := a8 z (by omega)
    have id2 : g 33 + y * y + (g 31 + 1) * z * z - 2 * (g 32 + y) * z = (g 33 + g 31 * z * z - 2 * g 32 * z) + (z - y) * (z - y) := by grind
    have h4 : 1 * 1 ≤ (z - y) * (z - y) := Int.mul_le_mul (by omega) (by omega) (by omega) (by omega)
    omega
  · omega
  · by_cases hn : 2 ≤ g 31
    · have := a10 hn
      omega
    · omega
theorem k_jyear0 (e31 : g' 31 = 0) (e32 : g' 32 = 0) (e33 : g' 33 = 0) (e34 : g' 34 = 0) (e37 : g' 37 < 0) (e38 : g' 38 < 0) : k_slo g' := by
  intro _
  rw [e31, e32, e33, e34]
  exact ⟨fun h9 => by omega, fun h9 => by omega, by omega, by omega, by omega, by omega, by omega, by omega, by omega, fun z hz => by simp, by simp, fun h9 => by omega⟩
end JO
