section PB
/-! the two bits of a code in the law's longs -/
theorem pb_p (n : Nat) : 2 ^ (2 * n) = 4 ^ n := by rw [Nat.pow_mul]
theorem pb_le {n : Nat} (h : n ≤ 32) : 4 ^ n ≤ 2 ^ 64 := by
  rw [← pb_p]; exact Nat.pow_le_pow_right (by decide) (by omega)
theorem pb_lt {cs : List Nat} (h : pe_ok 4 cs) (hl : cs.length ≤ 32) : pe_enc cs < 2 ^ 64 := Nat.lt_of_lt_of_le (pe_lt cs h) (pb_le hl)
end PB
