/-! addTo on machine numbers -/
theorem k_bm (x : Int) : (2 : Int) ^ 64 ∣ x.bmod (2 ^ 64) - x := by
  have h := Int.dvd_bmod_sub_self (x := x) (m := 2 ^ 64)
  simpa using h
theorem k_mul64 (x y : Int64) : (2 : Int) ^ 64 ∣ (x * y).toInt - x.toInt * y.toInt := by
  rw [Int64.toInt_mul]
  exact k_bm _
theorem k_add64 (x y : Int64) : (2 : Int) ^ 64 ∣ (x + y).toInt - (x.toInt + y.toInt) := by
  rw [Int64.toInt_add]
  exact k_bm _
theorem k_mod32 {u v : Int} (h : (2 : Int) ^ 64 ∣ u - v) (hv : v % 4294967296 ≠ 0) : u % 4294967296 ≠ 0 := by
  obtain ⟨z, hz⟩ := h
  rw [show (2 : Int) ^ 64 = 18446744073709551616 by decide] at hz
  omega
theorem k_addTo {bt b tp t x : Int64} (h1 : bt.toInt % 4294967296 ≠ 0) (h2 : b.toInt % 4294967296 ≠ 0) (hc : k_com (tp * b + t * bt).toInt (bt * b).toInt x.toInt) : (bt * b / x).toInt % 4294967296 ≠ 0 := by
  have hT : (2 : Int) ^ 64 ∣ (tp * b + t * bt).toInt - (tp.toInt * b.toInt + t.toInt * bt.toInt) := by
    have a1 := k_add64 (tp * b) (t * bt)
    have a2 := k_mul64 tp b
    have a3 := k_mul64 t bt
    have := Int.dvd_add a1 (Int.dvd_add a2 a3)
    have e : (tp * b + t * bt).toInt - ((tp * b).toInt + (t * bt).toInt) + ((tp * b).toInt - tp.toInt * b.toInt + ((t * bt).toInt - t.toInt * bt.toInt)) = (tp * b + t * bt).toInt - (tp.toInt * b.toInt + t.toInt * bt.toInt) := by omega
    rwa [e] at this
  have key := k_red h1 h2 hT (k_mul64 bt b) hc.2.1 hc.2.2
  rw [Int64.toInt_div]
  exact k_mod32 (k_bm _) key
/-- the answer isn't 0 where the second isn't -/
theorem k_com_ne {a b x : Int} (h : k_com a b x) (hb : b ≠ 0) : x ≠ 0 := by
  intro e
  rw [e] at h
  exact hb (Int.zero_dvd.mp h.2.1)
