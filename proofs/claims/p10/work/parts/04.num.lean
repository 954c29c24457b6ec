/-! machine numbers as integers -/
theorem c_i32 (x : Int32) : -2147483648 ≤ x.toInt ∧ x.toInt ≤ 2147483647 := by
  have h1 := x.le_toInt
  have h2 := x.toInt_lt
  omega
theorem c_i64 (x : Int64) : -9223372036854775808 ≤ x.toInt ∧ x.toInt ≤ 9223372036854775807 := by
  have h1 := x.le_toInt
  have h2 := x.toInt_lt
  omega
theorem c_bm32 {z : Int} (h1 : -2147483648 ≤ z) (h2 : z ≤ 2147483647) : z.bmod (2 ^ 32) = z := Int.bmod_eq_of_le (by omega) (by omega)
theorem c_bm64 {z : Int} (h1 : -9223372036854775808 ≤ z) (h2 : z ≤ 9223372036854775807) : z.bmod (2 ^ 64) = z := Int.bmod_eq_of_le (by omega) (by omega)
def c_lo : Nat → Int
  | 0 => -2147483648
  | _ => -9223372036854775808
def c_hi : Nat → Int
  | 0 => 2147483647
  | _ => 9223372036854775807
theorem c_oi32 {n : Int} (h1 : -2147483648 ≤ n) (h2 : n ≤ 2147483647) : (Int32.ofInt n).toInt = n := by
  rw [Int32.toInt_ofInt]; exact c_bm32 h1 h2
theorem c_bi (n : Int) (h1 : -128 ≤ n) (h2 : n ≤ 127) : (Int8.ofInt n).toInt32.toInt = n := by
  rw [Int8.toInt_toInt32, Int8.toInt_ofInt]
  show Int.bmod n 256 = n
  exact Int.bmod_eq_of_le (by omega) (by omega)
theorem c_si (n : Int) (h1 : -32768 ≤ n) (h2 : n ≤ 32767) : (Int16.ofInt n).toInt32.toInt = n := by
  rw [Int16.toInt_toInt32, Int16.toInt_ofInt]
  show Int.bmod n 65536 = n
  exact Int.bmod_eq_of_le (by omega) (by omega)
theorem c_eq0 (x : Int32) : x = 0 ↔ x.toInt = 0 := by rw [← Int32.toInt_inj]; rfl
theorem c_eq0l (x : Int64) : x = 0 ↔ x.toInt = 0 := by rw [← Int64.toInt_inj]; rfl
/-- products of ranges -/
theorem c_mul1 {a b x : Int} (y : Int) (h1 : a ≤ x) (h2 : x ≤ b) : min (a * y) (b * y) ≤ x * y ∧ x * y ≤ max (a * y) (b * y) := by
  rcases Int.le_total 0 y with h | h
  · have g1 := Int.mul_le_mul_of_nonneg_right h1 h
    have g2 := Int.mul_le_mul_of_nonneg_right h2 h
    omega
  · have g1 := Int.mul_le_mul_of_nonpos_right h1 h
    have g2 := Int.mul_le_mul_of_nonpos_right h2 h
    omega
def c_pmin (a b c d : Int) : Int := min (min (a * c) (a * d)) (min (b * c) (b * d))
def c_pmax (a b c d : Int) : Int := max (max (a * c) (a * d)) (max (b * c) (b * d))
theorem c_prod {a b c d x y : Int} (h1 : a ≤ x) (h2 : x ≤ b) (h3 : c ≤ y) (h4 : y ≤ d) : c_pmin a b c d ≤ x * y ∧ x * y ≤ c_pmax a b c d := by
  have g := c_mul1 y h1 h2
  have ga := c_mul1 a h3 h4
  have gb := c_mul1 b h3 h4
  rw [Int.mul_comm y a, Int.mul_comm c a, Int.mul_comm d a] at ga
  rw [Int.mul_comm y b, Int.mul_comm c b, Int.mul_comm d b] at gb
  unfold c_pmin c_pmax
  omega
/-- a number's bits, where it isn't below 0 -/
theorem c_nn (x : Int32) (h : 0 ≤ x.toInt) : x.toInt = (x.toBitVec.toNat : Int) := by
  have h1 : x.toInt = x.toBitVec.toInt := rfl
  rw [h1] at h ⊢
  rw [BitVec.toInt_eq_toNat_cond] at h ⊢
  split at h
  · rw [if_pos (by assumption)]
  · have := x.toBitVec.isLt
    omega
theorem c_nn2 (x : Int32) (n : Nat) (h : x.toBitVec.toNat ≤ n) (hn : n < 2147483648) : 0 ≤ x.toInt ∧ x.toInt ≤ n := by
  have h1 : x.toInt = x.toBitVec.toInt := rfl
  rw [h1, BitVec.toInt_eq_toNat_cond, if_pos (by omega)]
  omega
theorem c_and (x y : Int32) (h : 0 ≤ y.toInt) : 0 ≤ (x &&& y).toInt ∧ (x &&& y).toInt ≤ y.toInt := by
  have hy := c_nn y h
  have hb := (c_i32 y).2
  have e : (x &&& y).toBitVec.toNat ≤ y.toBitVec.toNat := by
    rw [show (x &&& y).toBitVec = x.toBitVec &&& y.toBitVec from rfl, BitVec.toNat_and]
    exact Nat.and_le_right
  have := c_nn2 (x &&& y) y.toBitVec.toNat e (by omega)
  omega
theorem c_andc (x y : Int32) : x &&& y = y &&& x := by
  apply Int32.toBitVec_inj.mp
  show x.toBitVec &&& y.toBitVec = y.toBitVec &&& x.toBitVec
  exact BitVec.and_comm _ _
theorem c_or (x y : Int32) (k : Nat) (hk : k ≤ 31) (h1 : 0 ≤ x.toInt) (h2 : 0 ≤ y.toInt) (h3 : x.toInt < 2 ^ k) (h4 : y.toInt < 2 ^ k) : 0 ≤ (x ||| y).toInt ∧ (x ||| y).toInt ≤ 2 ^ k - 1 := by
  have e1 := c_nn x h1
  have e2 := c_nn y h2
  have p : (2 : Int) ^ k = ((2 ^ k : Nat) : Int) := by simp
  have hp : 2 ^ k ≤ 2 ^ 31 := Nat.pow_le_pow_right (by decide) hk
  have e : (x ||| y).toBitVec.toNat < 2 ^ k := by
    rw [show (x ||| y).toBitVec = x.toBitVec ||| y.toBitVec from rfl, BitVec.toNat_or]
    exact Nat.or_lt_two_pow (by omega) (by omega)
  have := c_nn2 (x ||| y) (2 ^ k - 1) (by omega) (by omega)
  omega
theorem c_shl : ∀ n : Nat, n < 31 → ((1 : Int32) <<< (nI n &&& 31)).toInt = (2 : Int) ^ n := by decide +kernel
theorem c_ofN (x : Int32) (h : 0 ≤ x.toInt) : x = nI x.toInt.toNat := by
  apply Int32.toInt_inj.mp
  rw [nI_toInt]
  · omega
  · have := (c_i32 x).2
    omega
theorem c_shl1 (y : Int32) (a b : Nat) (hb : b ≤ 30) (h1 : (a : Int) ≤ y.toInt) (h2 : y.toInt ≤ b) : (2 : Int) ^ a ≤ ((1 : Int32) <<< (y &&& 31)).toInt ∧ ((1 : Int32) <<< (y &&& 31)).toInt ≤ (2 : Int) ^ b := by
  have e := c_ofN y (by omega)
  rw [e, c_shl _ (by omega)]
  have g1 : 2 ^ a ≤ 2 ^ y.toInt.toNat := Nat.pow_le_pow_right (by decide) (by omega)
  have g2 : 2 ^ y.toInt.toNat ≤ 2 ^ b := Nat.pow_le_pow_right (by decide) (by omega)
  have p : ∀ k : Nat, (2 : Int) ^ k = ((2 ^ k : Nat) : Int) := fun k => by simp
  rw [p, p, p]
  omega
/-- the index of an array, in range -/
theorem c_vin {x : Int32} {n : Nat} (h1 : 0 ≤ x.toInt) (h2 : x.toInt < n) : vp_in x n := vp_in_iff.mpr ⟨h1, h2⟩
theorem c_clamp {x : Int32} (h1 : 0 ≤ x.toInt) : (x.toNatClampNeg : Int) = x.toInt := by
  show ((x.toInt.toNat : Nat) : Int) = x.toInt
  omega
/-- products mod 2^64 of two numbers whose low 32 bits aren't all 0 -/
theorem c_nz2 {x y : Int} (hx : x % 4294967296 ≠ 0) (hy : y % 4294967296 ≠ 0) : (x * y) % 18446744073709551616 ≠ 0 := by
  intro h
  have hd : (18446744073709551616 : Int) ∣ x * y := Int.dvd_of_emod_eq_zero h
  have key : ∀ (a b : Nat) (x y : Int), ((2 ^ (a + b) : Nat) : Int) ∣ x * y → ((2 ^ a : Nat) : Int) ∣ x ∨ ((2 ^ b : Nat) : Int) ∣ y := by
    intro a
    induction a with
    | zero => intro b x y _; left; exact ⟨x, by simp⟩
    | succ a ih =>
      intro b x y hxy
      rcases Int.emod_two_eq x with h2 | h2
      · obtain ⟨z, hz⟩ : (2 : Int) ∣ x := Int.dvd_of_emod_eq_zero h2
        subst hz
        have : ((2 ^ (a + b) : Nat) : Int) ∣ z * y := by
          obtain ⟨q, hq⟩ := hxy
          refine ⟨q, ?_⟩
          have e : ((2 ^ (a + 1 + b) : Nat) : Int) = 2 * ((2 ^ (a + b) : Nat) : Int) := by
            rw [show a + 1 + b = (a + b) + 1 by omega, Nat.pow_succ]
            simp [Int.mul_comm]
          rw [e, Int.mul_assoc, Int.mul_assoc] at hq
          exact Int.eq_of_mul_eq_mul_left (by decide) hq
        rcases ih b z y this with h | h
        · left
          obtain ⟨q, hq⟩ := h
          refine ⟨q, ?_⟩
          rw [hq, Nat.pow_succ]
          simp [Int.mul_comm, Int.mul_assoc, Int.mul_left_comm]
        · right; exact h
      · right
        -- x is odd: it may be taken out of a power of two
        have odd : ∀ (k : Nat) (y : Int), ((2 ^ k : Nat) : Int) ∣ x * y → ((2 ^ k : Nat) : Int) ∣ y := by
          intro k
          induction k with
          | zero => intro y _; exact ⟨y, by simp⟩
          | succ k ihk =>
            intro y hy
            have h3 : (2 : Int) ∣ x * y := Int.dvd_trans ⟨((2 ^ k : Nat) : Int), by rw [Nat.pow_succ]; simp [Int.mul_comm]⟩ hy
            have h4 : (x * y) % 2 = 0 := Int.emod_eq_zero_of_dvd h3
            have h5 : y % 2 = 0 := by
              rcases Int.emod_two_eq y with g | g
              · exact g
              · rw [Int.mul_emod, h2, g] at h4; exact absurd h4 (by decide)
            obtain ⟨z, hz⟩ : (2 : Int) ∣ y := Int.dvd_of_emod_eq_zero h5
            subst hz
            have : ((2 ^ k : Nat) : Int) ∣ x * z := by
              obtain ⟨q, hq⟩ := hy
              refine ⟨q, ?_⟩
              have e : ((2 ^ (k + 1) : Nat) : Int) = 2 * ((2 ^ k : Nat) : Int) := by rw [Nat.pow_succ]; simp [Int.mul_comm]
              rw [e, Int.mul_left_comm, Int.mul_assoc] at hq
              exact Int.eq_of_mul_eq_mul_left (by decide) hq
            obtain ⟨q, hq⟩ := ihk z this
            exact ⟨q, by rw [hq, Nat.pow_succ]; simp [Int.mul_comm, Int.mul_assoc, Int.mul_left_comm]⟩
        have := odd (a + 1 + b) y hxy
        refine Int.dvd_trans ?_ this
        refine ⟨((2 ^ (a + 1) : Nat) : Int), ?_⟩
        rw [Nat.pow_add]
        simp [Int.mul_comm]
  rcases key 32 32 x y hd with h | h
  · exact hx (Int.emod_eq_zero_of_dvd h)
  · exact hy (Int.emod_eq_zero_of_dvd h)
