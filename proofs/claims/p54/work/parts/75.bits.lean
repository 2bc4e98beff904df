theorem ek_pow2 : ∀ z, z ≤ 12 → ((1 : Int32) <<< (nI z &&& 31)) = nI (2 ^ z) := by decide +kernel
theorem ek_bitlt {j z t : Nat} (hj : j < 2 ^ z) (ht : t < 32) (h : ek_bt (nI j) t = true) : t < z := by
  rcases Nat.lt_or_ge t z with q | q
  · exact q
  · rw [ek_btN j t ht, Nat.testBit_lt_two_pow (Nat.lt_of_lt_of_le hj (Nat.pow_le_pow_right (n := 2) (by omega) q))] at h
    cases h
