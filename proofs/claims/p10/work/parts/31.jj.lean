/-! the word on the reference's array c, and what keeps it: laws and line as steps on a stack -/
def k_iv (f : Nat → Option Value) (j : Nat) : Int := match f j with
  | some (.int x) => x.toInt
  | _ => 0
def k_h (d : Int → Int) (F : Nat → Int) (p : Nat) : Nat → Int
  | 0 => 0
  | n + 1 => k_h d F p n + d (F (p + n))
def k_sf (d : Int → Int) (ok : Int → Int → Prop) (F : Nat → Int) (p n : Nat) : Prop := ∀ m, m < n → ok (F (p + m)) (k_h d F p m)
def k_dL (x : Int) : Int := if x ≤ 6 then 1 else -1
def k_okL (x h : Int) : Prop := 0 ≤ h ∧ h ≤ 100 ∧ (6 < x → 2 ≤ h)
def k_dN (x : Int) : Int := if 0 ≤ x then 1 else if x = -1 then 0 else -1
def k_okN (x h : Int) : Prop := 0 ≤ h ∧ h ≤ 100 ∧ (x = -1 → 1 ≤ h) ∧ (x < -1 → 2 ≤ h)
def k_lp (k : Nat) : Prop := (19 ≤ k ∧ k ≤ 23) ∨ (30 ≤ k ∧ k ≤ 629)
def k_np (k : Nat) : Prop := k = 1713 ∨ (1794 ≤ k ∧ k ≤ 1999)
def k_811 (F : Nat → Int) : Prop := ∀ i, 8 ≤ i → i ≤ 11 → 0 ≤ F i ∧ F i ≤ 11
def k_law (F : Nat → Int) (b : Nat) : Prop := ∀ l, l < 4 → 0 ≤ F (2000 * b + 19 + l) → F (2000 * b + 20 + l) ≤ 600 → k_sf k_dL k_okL F (2000 * b + 30 + (F (2000 * b + 19 + l)).toNat) (F (2000 * b + 20 + l) - F (2000 * b + 19 + l)).toNat
def k_lin (F : Nat → Int) (b : Nat) : Prop := F (2000 * b + 1713) ≤ 206 → k_sf k_dN k_okN F (2000 * b + 1794) (F (2000 * b + 1713)).toNat
def k_tel (F : Nat → Int) (g : Nat → Int) : Prop := 1 ≤ g 61 → g 61 ≤ 600 → g 62 ≤ 600 → ∃ p : Nat, (p : Int) ≤ g 62 ∧ k_sf k_dL k_okL F (30 + p) (g 61 - p).toNat ∧ k_h k_dL F (30 + p) (g 62 - p).toNat = g 63
def k_lyn (F : Nat → Int) (g : Nat → Int) : Prop := 1 ≤ g 65 → g 65 ≤ 206 → g 66 ≤ 206 → 0 ≤ g 66 ∧ k_sf k_dN k_okN F 1794 (g 65).toNat ∧ k_h k_dN F 1794 (g 66).toNat = g 67
def k_bll (F : Nat → Int) (g : Nat → Int) : Prop := 0 ≤ g 80 → g 81 ≤ 600 → 0 ≤ g 82 ∧ g 82 ≤ 4 ∧
  (∀ l : Nat, (l : Int) < g 82 → 0 ≤ F (8019 + l) ∧ F (8020 + l) ≤ g 81 ∧ k_sf k_dL k_okL F (8030 + (F (8019 + l)).toNat) (F (8020 + l) - F (8019 + l)).toNat) ∧ (∀ l : Nat, g 82 < (l : Int) → l ≤ 4 → F (8019 + l) = 0) ∧
  (g 83 = 0 → g 82 = 0 ∨ F (8019 + (g 82).toNat) = g 81) ∧ (g 83 = 1 → 0 ≤ F (8019 + (g 82).toNat) ∧ F (8019 + (g 82).toNat) ≤ g 81 ∧ k_sf k_dL k_okL F (8030 + (F (8019 + (g 82).toNat)).toNat) (g 81 - F (8019 + (g 82).toNat)).toNat ∧ k_h k_dL F (8030 + (F (8019 + (g 82).toNat)).toNat) (g 81 - F (8019 + (g 82).toNat)).toNat = g 80)
def k_bln (F : Nat → Int) (g : Nat → Int) : Prop := 0 ≤ g 90 → g 91 ≤ 206 → 0 ≤ g 91 ∧ k_sf k_dN k_okN F 9794 (g 91).toNat ∧ k_h k_dN F 9794 (g 91).toNat = g 90
def k_clr (F : Nat → Int) (g : Nat → Int) : Prop := ∀ k : Nat, k = 3 ∨ (19 ≤ k ∧ k ≤ 23) → (k : Int) < g 88 → F (8000 + k) = 0
def k_cpb (F : Nat → Int) (g : Nat → Int) : Prop := ∀ b : Nat, b < 4 → g 1 = 3 + (b : Int) → 0 < g 87 → ∃ fr : Nat, g 86 = (fr : Int) ∧ fr < 4 ∧ fr ≠ b ∧ ∀ k, k_lp k ∨ k_np k → (k : Int) < g 87 → F (2000 * b + k) = F (2000 * fr + k)
def k_cpl (F : Nat → Int) (g : Nat → Int) : Prop := g 1 = 7 → ∀ k : Nat, k_lp k → (k : Int) < g 87 → F k = F (8000 + k)
def k_cpn (F : Nat → Int) (g : Nat → Int) : Prop := g 1 = 8 → ∀ k : Nat, k_np k → (k : Int) < g 87 → F k = F (8000 + k)
/-- numbers, sums, squares of years, each another one -/
def k_slo (g : Nat → Int) : Prop := 1 ≤ g 36 → (0 ≤ g 37 → g 37 = g 31 * g 33) ∧ (0 ≤ g 38 → g 38 = g 32 * g 32) ∧ 0 ≤ g 31 ∧ 0 ≤ g 32 ∧ 0 ≤ g 33 ∧ g 31 ≤ g 34 ∧ g 34 ≤ 12 ∧ g 32 ≤ 11 * g 31 ∧ g 33 ≤ 121 * g 31 ∧ (∀ y : Int, g 34 ≤ y → g 31 ≤ g 33 + g 31 * y * y - 2 * g 32 * y) ∧ 0 ≤ g 31 * g 33 - g 32 * g 32 ∧ (2 ≤ g 31 → 1 ≤ g 31 * g 33 - g 32 * g 32)
def k_bit (x y : Int32) : Int := ((x >>> (y &&& 31)) &&& 1).toInt
def k_bix (x y : Int) : Int := 1180591620717411303424 + 8589934592 * x + y
def k_tbl (g : Nat → Int) : Prop := ∀ x y : Int32, g (k_bix x.toInt y.toInt).toNat = k_bit x y
def k_JB (F : Nat → Int) : Prop := k_811 F ∧ ∀ b, b < 4 → k_law F b ∧ k_lin F b
def k_bls (F : Nat → Int) (g : Nat → Int) : Prop := ∀ b : Nat, b < 4 → (g 1 ≠ 3 + (b : Int) → (b = 0 → g 1 ≠ 7) → k_law F b) ∧ (g 1 ≠ 3 + (b : Int) → (b = 0 → g 1 ≠ 8) → k_lin F b)
def k_JC (F : Nat → Int) (g : Nat → Int) : Prop := (g 1 ≠ 2 → k_811 F) ∧ k_bls F g ∧ k_tel F g ∧ k_lyn F g ∧ k_bll F g ∧ k_bln F g ∧ k_clr F g ∧ k_cpb F g ∧ k_cpl F g ∧ k_cpn F g ∧ k_slo g ∧ k_tbl g
def k_J (tc tm ci t a : Nat) (f : Nat → Option Value) (g : Nat → Int) : Prop := (t = tc → (g 1 = 1 → k_JB (k_iv f)) ∧ (g 1 ≠ 1 → (a : Int) = g 2 → k_JC (k_iv f) g)) ∧ (t = tm → g 1 = 1 ∨ ∀ x : Nat, f ci = some (.ref x) → (x : Int) = g 2)
/-- the protected places of c -/
def k_pc (i : Nat) : Prop := (8 ≤ i ∧ i ≤ 11) ∨ i = 8003 ∨ ∃ b k : Nat, b < 5 ∧ i = 2000 * b + k ∧ (k_lp k ∨ k_np k)
section JC
variable {d : Int → Int} {ok : Int → Int → Prop} {F F' g g' : Nat → Int} {p n : Nat}
theorem k_h_cg : ∀ {n : Nat}, (∀ m, m < n → F' (p + m) = F (p + m)) → k_h d F' p n = k_h d F p n
  | 0, _ => rfl
  | n + 1, h => by
    show k_h d F' p n + d (F' (p + n)) = k_h d F p n + d (F (p + n))
    rw [k_h_cg (fun m hm => h m (by omega)), h n (by omega)]
theorem k_sf_cg (h : ∀ m, m < n → F' (p + m) = F (p + m)) (hs : k_sf d ok F p n) : k_sf d ok F' p n := fun m hm => by
  rw [h m hm, k_h_cg (fun i hi => h i (by omega))]
  exact hs m hm
/-- the same at another place -/
theorem k_h_mv {q : Nat} : ∀ {n : Nat}, (∀ m, m < n → F' (q + m) = F (p + m)) → k_h d F' q n = k_h d F p n
  | 0, _ => rfl
  | n + 1, h => by
    show k_h d F' q n + d (F' (q + n)) = k_h d F p n + d (F (p + n))
    rw [k_h_mv (fun m hm => h m (by omega)), h n (by omega)]
theorem k_sf_mv {q : Nat} (h : ∀ m, m < n → F' (q + m) = F (p + m)) (hs : k_sf d ok F p n) : k_sf d ok F' q n := fun m hm => by
  rw [h m hm, k_h_mv (p := p) (q := q) (fun i hi => h i (by omega))]
  exact hs m hm
theorem k_811_cg (h : ∀ i, 8 ≤ i → i ≤ 11 → F' i = F i) (hs : k_811 F) : k_811 F' := fun i h1 h2 => by
  rw [h i h1 h2]; exact hs i h1 h2
theorem k_law_mv {b b' : Nat} (h : ∀ k, k_lp k → F' (2000 * b' + k) = F (2000 * b + k)) (hs : k_law F b) : k_law F' b' := fun l hl h1 h2 => by
  have e1 : F' (2000 * b' + 19 + l) = F (2000 * b + 19 + l) := by
    have := h (19 + l) (Or.inl (by omega)); rw [← Nat.add_assoc, ← Nat.add_assoc] at this; exact this
  have e2 : F' (2000 * b' + 20 + l) = F (2000 * b + 20 + l) := by
    have := h (20 + l) (Or.inl (by omega)); rw [← Nat.add_assoc, ← Nat.add_assoc] at this; exact this
  rw [e1] at h1
  rw [e2] at h2
  rw [e1, e2]
  refine k_sf_mv (p := 2000 * b + 30 + (F (2000 * b + 19 + l)).toNat) (fun m hm => ?_) (hs l hl h1 h2)
  have := h (30 + (F (2000 * b + 19 + l)).toNat + m) (Or.inr (by omega))
  rw [show 2000 * b' + 30 + (F (2000 * b + 19 + l)).toNat + m = 2000 * b' + (30 + (F (2000 * b + 19 + l)).toNat + m) by omega, this]
  congr 1
  omega
theorem k_lin_mv {b b' : Nat} (h : ∀ k, k_np k → F' (2000 * b' + k) = F (2000 * b + k)) (hs : k_lin F b) : k_lin F' b' := fun h1 => by
  have e1 := h 1713 (Or.inl rfl)
  rw [e1] at h1
  rw [e1]
  refine k_sf_mv (p := 2000 * b + 1794) (fun m hm => ?_) (hs h1)
  have := h (1794 + m) (Or.inr (by omega))
  rw [show 2000 * b' + 1794 + m = 2000 * b' + (1794 + m) by omega, this]
  congr 1
  omega
theorem k_tel_cg (h : ∀ k, 30 ≤ k → k ≤ 629 → F' k = F k) (e1 : g' 61 = g 61) (e2 : g' 62 = g 62) (e3 : g' 63 = g 63) (hs : k_tel F g) : k_tel F' g' := by
  unfold k_tel
  rw [e1, e2, e3]
  intro h1 h2 h3
  obtain ⟨p, p1, p2, p3⟩ := hs h1 h2 h3
  exact ⟨p, p1, k_sf_cg (fun m hm => h _ (by omega) (by omega)) p2, (k_h_cg (fun m hm => h _ (by omega) (by omega))).trans p3⟩
theorem k_lyn_cg (h : ∀ k, 1794 ≤ k → k ≤ 1999 → F' k = F k) (e1 : g' 65 = g 65) (e2 : g' 66 = g 66) (e3 : g' 67 = g 67) (hs : k_lyn F g) : k_lyn F' g' := by
  unfold k_lyn
  rw [e1, e2, e3]
  intro h1 h2 h3
  obtain ⟨p1, p2, p3⟩ := hs h1 h2 h3
  exact ⟨p1, k_sf_cg (fun m hm => h _ (by omega) (by omega)) p2, (k_h_cg (fun m hm => h _ (by omega) (by omega))).trans p3⟩
theorem k_bll_cg (h : ∀ k, k_lp k → F' (8000 + k) = F (8000 + k)) (e0 : g' 80 = g 80) (e1 : g' 81 = g 81) (e2 : g' 82 = g 82) (e3 : g' 83 = g 83) (hs : k_bll F g) : k_bll F' g' := by
  unfold k_bll
  rw [e0, e1, e2, e3]
  intro h1 h2
  obtain ⟨p1, p2, p3, p4, p5, p6⟩ := hs h1 h2
  have at9 : ∀ l : Nat, l ≤ 4 → F' (8019 + l) = F (8019 + l) := fun l hl => by
    have := h (19 + l) (Or.inl (by omega)); rw [← Nat.add_assoc] at this; exact this
  have at3 : ∀ k : Nat, k < 600 → F' (8030 + k) = F (8030 + k) := fun k hk => by
    have := h (30 + k) (Or.inr (by omega)); rw [← Nat.add_assoc] at this; exact this
  refine ⟨p1, p2, fun l hl => ?_, fun l hl hl4 => ?_, fun h3 => ?_, fun h3 => ?_⟩
  · obtain ⟨q1, q2, q3⟩ := p3 l hl
    have a1 := at9 l (by omega)
    have a2 := at9 (l + 1) (by omega)
    rw [show 8019 + (l + 1) = 8020 + l by omega] at a2
    rw [a1, a2]
    refine ⟨q1, q2, k_sf_cg (fun m hm => ?_) q3⟩
    have := at3 ((F (8019 + l)).toNat + m) (by omega)
    rw [← Nat.add_assoc] at this
    exact this
  · rw [at9 l hl4]
    exact p4 l hl hl4
  · rw [at9 _ (by omega)]
    exact p5 h3
  · obtain ⟨q1, q2, q3, q4⟩ := p6 h3
    rw [at9 _ (by omega)]
    have a3 : ∀ m, m < (g 81 - F (8019 + (g 82).toNat)).toNat → F' (8030 + (F (8019 + (g 82).toNat)).toNat + m) = F (8030 + (F (8019 + (g 82).toNat)).toNat + m) := fun m hm => by
      have := at3 ((F (8019 + (g 82).toNat)).toNat + m) (by omega)
      rw [← Nat.add_assoc] at this
      exact this
    exact ⟨q1, q2, k_sf_cg a3 q3, (k_h_cg a3).trans q4⟩
theorem k_bln_cg (h : ∀ k, 9794 ≤ k → k ≤ 9999 → F' k = F k) (e0 : g' 90 = g 90) (e1 : g' 91 = g 91) (hs : k_bln F g) : k_bln F' g' := by
  unfold k_bln
  rw [e0, e1]
  intro h1 h2
  obtain ⟨p1, p2, p3⟩ := hs h1 h2
  exact ⟨p1, k_sf_cg (fun m hm => h _ (by omega) (by omega)) p2, (k_h_cg (fun m hm => h _ (by omega) (by omega))).trans p3⟩
theorem k_clr_cg (h : ∀ k, k = 8003 ∨ (8019 ≤ k ∧ k ≤ 8023) → F' k = F k) (e0 : g' 88 = g 88) (hs : k_clr F g) : k_clr F' g' := fun k h1 h3 => by
  rw [e0] at h3
  rw [h _ (by omega)]
  exact hs k h1 h3
theorem k_cpb_cg (h : ∀ b k, b < 4 → k_lp k ∨ k_np k → F' (2000 * b + k) = F (2000 * b + k)) (e0 : g' 1 = g 1) (e1 : g' 86 = g 86) (e2 : g' 87 = g 87) (hs : k_cpb F g) : k_cpb F' g' := fun b hb h1 h0 => by
  rw [e0] at h1
  rw [e2] at h0
  obtain ⟨fr, p1, p2, p3, p4⟩ := hs b hb h1 h0
  rw [e1]
  refine ⟨fr, p1, p2, p3, fun k hk hk2 => ?_⟩
  rw [e2] at hk2
  rw [h b k hb hk, h fr k p2 hk]
  exact p4 k hk hk2
theorem k_cpl_cg (h : ∀ k, k_lp k → F' k = F k ∧ F' (8000 + k) = F (8000 + k)) (e0 : g' 1 = g 1) (e2 : g' 87 = g 87) (hs : k_cpl F g) : k_cpl F' g' := fun h1 k hk hk2 => by
  rw [e0] at h1
  rw [e2] at hk2
  rw [(h k hk).1, (h k hk).2]
  exact hs h1 k hk hk2
theorem k_cpn_cg (h : ∀ k, k_np k → F' k = F k ∧ F' (8000 + k) = F (8000 + k)) (e0 : g' 1 = g 1) (e2 : g' 87 = g 87) (hs : k_cpn F g) : k_cpn F' g' := fun h1 k hk hk2 => by
  rw [e0] at h1
  rw [e2] at hk2
  rw [(h k hk).1, (h k hk).2]
  exact hs h1 k hk hk2
theorem k_bls_cg (h : ∀ b k, b < 4 → k_lp k ∨ k_np k → F' (2000 * b + k) = F (2000 * b + k)) (e0 : g' 1 = g 1) (hs : k_bls F g) : k_bls F' g' := fun b hb => by
  rw [e0]
  exact ⟨fun h1 h2 => k_law_mv (fun k hk => h b k hb (Or.inl hk)) ((hs b hb).1 h1 h2), fun h1 h2 => k_lin_mv (fun k hk => h b k hb (Or.inr hk)) ((hs b hb).2 h1 h2)⟩
theorem k_JB_cg (h : ∀ i, k_pc i → F' i = F i) (hs : k_JB F) : k_JB F' := by
  refine ⟨k_811_cg (fun i h1 h2 => h i (Or.inl ⟨h1, h2⟩)) hs.1, fun b hb => ⟨k_law_mv (fun k hk => h _ (Or.inr (Or.inr ⟨b, k, by omega, rfl, Or.inl hk⟩))) (hs.2 b hb).1, k_lin_mv (fun k hk => h _ (Or.inr (Or.inr ⟨b, k, by omega, rfl, Or.inr hk⟩))) (hs.2 b hb).2⟩⟩
theorem k_JC_cg (h : ∀ i, k_pc i → F' i = F i) (hs : k_JC F g) : k_JC F' g := by
  obtain ⟨a1, a2, a3, a4, a5, a6, a7, a8, a9, a10, a11, a12⟩ := hs
  have hb : ∀ b k, b < 5 → k_lp k ∨ k_np k → F' (2000 * b + k) = F (2000 * b + k) := fun b k hb hk => h _ (Or.inr (Or.inr ⟨b, k, hb, rfl, hk⟩))
  have h0 : ∀ k, k_lp k ∨ k_np k → F' k = F k := fun k hk => by
    have := hb 0 k (by omega) hk
    rw [Nat.mul_zero, Nat.zero_add] at this
    exact this
  have h4 : ∀ k, k_lp k ∨ k_np k → F' (8000 + k) = F (8000 + k) := fun k hk => hb 4 k (by omega) hk
  refine ⟨fun h1 => k_811_cg (fun i h1 h2 => h i (Or.inl ⟨h1, h2⟩)) (a1 h1), k_bls_cg (fun b k h1 h2 => hb b k (by omega) h2) rfl a2, k_tel_cg (fun k h1 h2 => h0 k (Or.inl (Or.inr ⟨h1, h2⟩))) rfl rfl rfl a3, k_lyn_cg (fun k h1 h2 => h0 k (Or.inr (Or.inr ⟨h1, h2⟩))) rfl rfl rfl a4,
    k_bll_cg (fun k hk => h4 k (Or.inl hk)) rfl rfl rfl rfl a5, k_bln_cg (fun k h1 h2 => ?_) rfl rfl a6, k_clr_cg (fun k h1 => ?_) rfl a7, k_cpb_cg (fun b k h1 h2 => hb b k (by omega) h2) rfl rfl rfl a8, k_cpl_cg (fun k hk => ⟨h0 k (Or.inl hk), h4 k (Or.inl hk)⟩) rfl rfl a9, k_cpn_cg (fun k hk => ⟨h0 k (Or.inr hk), h4 k (Or.inr hk)⟩) rfl rfl a10, a11, a12⟩
  · have := h4 (k - 8000) (Or.inr (Or.inr (by omega)))
    rw [show 8000 + (k - 8000) = k by omega] at this
    exact this
  · rcases h1 with h1 | h1
    · exact h k (Or.inr (Or.inl h1))
    · have := h4 (k - 8000) (Or.inl (Or.inl (by omega)))
      rw [show 8000 + (k - 8000) = k by omega] at this
      exact this
theorem k_h_zero : k_h d (fun _ => (0 : Int)) p 0 = 0 := rfl
theorem k_JB_zero (h : ∀ j, F j = 0) : k_JB F := by
  refine ⟨fun i _ _ => by rw [h]; omega, fun b _ => ⟨fun l _ _ _ m hm => ?_, fun _ m hm => ?_⟩⟩
  · rw [h, h] at hm
    exact absurd hm (by simp)
  · rw [h] at hm
    exact absurd hm (by simp)
end JC
