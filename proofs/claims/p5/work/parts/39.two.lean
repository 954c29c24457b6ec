/-! powers of two: what addTo keeps -/
theorem k_two_odd {x : Int} (hx : x % 2 = 1) : ∀ (k : Nat) (y : Int), (2 : Int) ^ k ∣ x * y → (2 : Int) ^ k ∣ y
  | 0, y, _ => ⟨y, by simp⟩
  | k + 1, y, h => by
    have h2 : (2 : Int) ∣ x * y := Int.dvd_trans ⟨(2 : Int) ^ k, by rw [Int.pow_succ, Int.mul_comm]⟩ h
    have h4 : (x * y) % 2 = 0 := Int.emod_eq_zero_of_dvd h2
    have h5 : y % 2 = 0 := by
      rcases Int.emod_two_eq y with g | g
      · exact g
      · rw [Int.mul_emod, hx, g] at h4
        exact absurd h4 (by decide)
    obtain ⟨z, rfl⟩ : (2 : Int) ∣ y := Int.dvd_of_emod_eq_zero h5
    obtain ⟨q, hq⟩ := h
    have : (2 : Int) ^ k ∣ x * z := by
      refine ⟨q, ?_⟩
      rw [Int.pow_succ, Int.mul_left_comm, Int.mul_comm ((2 : Int) ^ k) 2, Int.mul_assoc] at hq
      exact Int.eq_of_mul_eq_mul_left (by decide) hq
    obtain ⟨s, hs⟩ := k_two_odd hx k z this
    exact ⟨s, by rw [hs, Int.pow_succ, Int.mul_comm ((2 : Int) ^ k) 2, Int.mul_assoc]⟩
theorem k_two : ∀ (a b : Nat) (x y : Int), (2 : Int) ^ (a + b + 1) ∣ x * y → (2 : Int) ^ (a + 1) ∣ x ∨ (2 : Int) ^ (b + 1) ∣ y
  | 0, b, x, y, h => by
    rcases Int.emod_two_eq x with h2 | h2
    · left
      rw [show 0 + 1 = 1 by rfl, Int.pow_succ]
      simpa using Int.dvd_of_emod_eq_zero h2
    · right
      have := k_two_odd h2 _ y h
      rw [Nat.zero_add] at this
      exact this
  | a + 1, b, x, y, h => by
    rcases Int.emod_two_eq x with h2 | h2
    · obtain ⟨z, rfl⟩ : (2 : Int) ∣ x := Int.dvd_of_emod_eq_zero h2
      obtain ⟨q, hq⟩ := h
      have : (2 : Int) ^ (a + b + 1) ∣ z * y := by
        refine ⟨q, ?_⟩
        rw [show a + 1 + b + 1 = (a + b + 1) + 1 by omega, Int.pow_succ, Int.mul_assoc, Int.mul_comm ((2 : Int) ^ (a + b + 1)) 2, Int.mul_assoc] at hq
        exact Int.eq_of_mul_eq_mul_left (by decide) hq
      rcases k_two a b z y this with g | g
      · left
        obtain ⟨s, hs⟩ := g
        exact ⟨s, by rw [hs, Int.pow_succ (2 : Int) (a + 1), Int.mul_comm ((2 : Int) ^ (a + 1)) 2, Int.mul_assoc]⟩
      · exact Or.inr g
    · right
      have := k_two_odd h2 _ y h
      refine Int.dvd_trans ?_ this
      exact ⟨(2 : Int) ^ (a + 1), by rw [← Int.pow_add, show b + 1 + (a + 1) = a + 1 + b + 1 by omega]⟩
theorem k_p32 {x : Int} : x % 4294967296 ≠ 0 ↔ ¬ (2 : Int) ^ 32 ∣ x := by
  rw [show (2 : Int) ^ 32 = 4294967296 by decide]
  constructor
  · intro h hd; exact h (Int.emod_eq_zero_of_dvd hd)
  · intro h hd; exact h (Int.dvd_of_emod_eq_zero hd)
theorem k_pd {a b : Nat} (h : a ≤ b) : (2 : Int) ^ a ∣ (2 : Int) ^ b := ⟨(2 : Int) ^ (b - a), by rw [← Int.pow_add]; congr 1; omega⟩
/-- the lowest bits of a reduced bottom -/
theorem k_red {bt b tp t T B x : Int} (h1 : bt % 4294967296 ≠ 0) (h2 : b % 4294967296 ≠ 0) (hT : (2 : Int) ^ 64 ∣ T - (tp * b + t * bt)) (hB : (2 : Int) ^ 64 ∣ B - bt * b) (hxB : x ∣ B) (hx : ∀ d : Int, d ∣ T → d ∣ B → d ∣ x) : (B.tdiv x) % 4294967296 ≠ 0 := by
  rw [k_p32] at h1 h2 ⊢
  obtain ⟨m, hm, m1, m2, m3⟩ : ∃ m : Nat, m < 32 ∧ (2 : Int) ^ m ∣ bt ∧ (2 : Int) ^ m ∣ b ∧ (¬ (2 : Int) ^ (m + 1) ∣ bt ∨ ¬ (2 : Int) ^ (m + 1) ∣ b) := by
    apply Classical.byContradiction
    intro hn
    have step : ∀ m : Nat, m ≤ 32 → (2 : Int) ^ m ∣ bt ∧ (2 : Int) ^ m ∣ b := by
      intro m
      induction m with
      | zero => intro _; exact ⟨⟨bt, by simp⟩, ⟨b, by simp⟩⟩
      | succ m ih =>
        intro hm
        obtain ⟨g1, g2⟩ := ih (by omega)
        apply Classical.byContradiction
        intro hc
        exact hn ⟨m, by omega, g1, g2, by
          by_cases q : (2 : Int) ^ (m + 1) ∣ bt
          · exact Or.inr (fun z => hc ⟨q, z⟩)
          · exact Or.inl q⟩
    exact h1 (step 32 (Nat.le_refl _)).1
  have p64 : ∀ k : Nat, k ≤ 64 → ∀ u v : Int, (2 : Int) ^ 64 ∣ u - v → (2 : Int) ^ k ∣ v → (2 : Int) ^ k ∣ u := by
    intro k hk u v huv hv
    have := Int.dvd_add (Int.dvd_trans (k_pd hk) huv) hv
    rwa [Int.sub_add_cancel] at this
  have dT : (2 : Int) ^ m ∣ T := p64 m (by omega) _ _ hT (Int.dvd_add (Int.dvd_trans m2 ⟨tp, Int.mul_comm _ _⟩) (Int.dvd_trans m1 ⟨t, Int.mul_comm _ _⟩))
  have dB : (2 : Int) ^ m ∣ B := p64 m (by omega) _ _ hB (Int.dvd_trans m1 ⟨b, rfl⟩)
  have dx := hx _ dT dB
  intro hq
  have hxq : x * B.tdiv x = B := Int.mul_tdiv_cancel' hxB
  have big : (2 : Int) ^ (m + 32) ∣ bt * b := by
    have e : (2 : Int) ^ (m + 32) ∣ B := by
      rw [← hxq, Int.pow_add]
      exact Int.mul_dvd_mul dx hq
    refine p64 (m + 32) (by omega) _ _ ?_ e
    obtain ⟨z, hz⟩ := hB
    exact ⟨-z, by rw [Int.mul_neg, ← hz]; omega⟩
  rcases m3 with m3 | m3
  · rcases k_two m 31 bt b (by rw [show m + 31 + 1 = m + 32 by omega]; exact big) with g | g
    · exact m3 g
    · exact h2 g
  · rcases k_two m 31 b bt (by rw [show m + 31 + 1 = m + 32 by omega, Int.mul_comm]; exact big) with g | g
    · exact m3 g
    · exact h1 g
