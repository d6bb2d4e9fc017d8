section PB
/-! rows wb_, u_ and g_ are pasted from kit/laws/BITS -/
theorem wb_tb (n : Nat) : (lN n).toBitVec = BitVec.ofNat 64 n := rfl
theorem wb_inj {a b : Int64} (h : a.toBitVec = b.toBitVec) : a = b := Int64.toBitVec_inj.mp h
theorem wb_tn {n : Nat} (h : n < 2 ^ 64) : (lN n).toBitVec.toNat = n := by rw [wb_tb, BitVec.toNat_ofNat, Nat.mod_eq_of_lt h]
theorem wb_of (x : Int64) : ∃ n, n < 2 ^ 64 ∧ x = lN n := ⟨x.toBitVec.toNat, x.toBitVec.isLt, wb_inj (by rw [wb_tb]; simp)⟩
theorem wb_of32 (x : Int32) : ∃ n, n < 2 ^ 32 ∧ x = nI n := ⟨x.toBitVec.toNat, x.toBitVec.isLt, Int32.toBitVec_inj.mp (by show _ = BitVec.ofNat 32 _; simp)⟩
theorem wb_c : ∀ k, k < 64 → ((nI k).toInt64 &&& 63) = lN k := by decide +kernel
theorem wb_cu : ∀ k, k < 64 → ((nI k).toInt64.toUInt64 &&& Int64.toUInt64 63) = UInt64.ofNat k := by decide +kernel
theorem wb_sm : ∀ k, k < 64 → (BitVec.ofNat 64 k).smod 64 = BitVec.ofNat 64 k := by decide +kernel
theorem wb_pw {a b : Nat} (h : a ≤ b) : 2 ^ b = 2 ^ a * 2 ^ (b - a) := by rw [← Nat.pow_add]; congr 1; omega
theorem wb_lt2 {a b : Nat} (h : a < b) : 2 ^ a < 2 ^ b := Nat.pow_lt_pow_right (by decide) h
theorem wb_mod (n : Nat) : lN n = lN (n % 2 ^ 64) := wb_inj (by rw [wb_tb, wb_tb]; apply BitVec.eq_of_toNat_eq; rw [BitVec.toNat_ofNat, BitVec.toNat_ofNat, Nat.mod_mod])
theorem wb_shr {n k : Nat} (hn : n < 2 ^ 64) (hk : k < 64) : ((lN n).toUInt64 >>> ((nI k).toInt64.toUInt64 &&& Int64.toUInt64 63)).toInt64 = lN (n / 2 ^ k) := by
  rw [wb_cu k hk]
  apply wb_inj
  apply BitVec.eq_of_toNat_eq
  show ((lN n).toUInt64 >>> UInt64.ofNat k).toNat = (BitVec.ofNat 64 _).toNat
  have h1 : (UInt64.ofNat k).toNat = k := by
    show (BitVec.ofNat 64 k).toNat = k
    rw [BitVec.toNat_ofNat, Nat.mod_eq_of_lt (by omega)]
  have h2 : (lN n).toUInt64.toNat = n := wb_tn hn
  rw [UInt64.toNat_shiftRight, h1, h2, Nat.mod_eq_of_lt hk, Nat.shiftRight_eq_div_pow, BitVec.toNat_ofNat, Nat.mod_eq_of_lt (Nat.lt_of_le_of_lt (Nat.div_le_self _ _) hn)]
theorem wb_shl (n : Nat) {k : Nat} (hk : k < 64) : lN n <<< ((nI k).toInt64 &&& 63) = lN (n * 2 ^ k) := by
  rw [wb_c k hk]
  apply wb_inj
  rw [Int64.toBitVec_shiftLeft, wb_tb, wb_tb, wb_tb, wb_sm k hk]
  apply BitVec.eq_of_toNat_eq
  rw [BitVec.shiftLeft_eq', BitVec.toNat_shiftLeft, BitVec.toNat_ofNat, BitVec.toNat_ofNat, BitVec.toNat_ofNat, Nat.mod_eq_of_lt (show k < 2 ^ 64 by omega), Nat.shiftLeft_eq, Nat.mul_mod, Nat.mod_mod, ← Nat.mul_mod]
theorem wb_and {a b : Nat} (ha : a < 2 ^ 64) (hb : b < 2 ^ 64) : lN a &&& lN b = lN (a &&& b) := by
  apply wb_inj
  rw [Int64.toBitVec_and, wb_tb, wb_tb, wb_tb]
  apply BitVec.eq_of_toNat_eq
  rw [BitVec.toNat_and, BitVec.toNat_ofNat, BitVec.toNat_ofNat, BitVec.toNat_ofNat, Nat.mod_eq_of_lt ha, Nat.mod_eq_of_lt hb, Nat.mod_eq_of_lt (Nat.and_lt_two_pow _ hb)]
theorem wb_or {a b : Nat} (ha : a < 2 ^ 64) (hb : b < 2 ^ 64) : lN a ||| lN b = lN (a ||| b) := by
  apply wb_inj
  rw [Int64.toBitVec_or, wb_tb, wb_tb, wb_tb]
  apply BitVec.eq_of_toNat_eq
  rw [BitVec.toNat_or, BitVec.toNat_ofNat, BitVec.toNat_ofNat, BitVec.toNat_ofNat, Nat.mod_eq_of_lt ha, Nat.mod_eq_of_lt hb, Nat.mod_eq_of_lt (Nat.or_lt_two_pow ha hb)]
theorem wb_mask {n k : Nat} (hn : n < 2 ^ 64) (hk : k < 64) : lN n &&& lN (2 ^ k - 1) = lN (n % 2 ^ k) := by
  rw [wb_and hn (by have := wb_lt2 hk; omega), Nat.and_two_pow_sub_one_eq_mod]
theorem wb_a1 {n : Nat} (hn : n < 2 ^ 64) : lN n &&& 1 = lN (n % 2) := wb_mask (k := 1) hn (by decide)
theorem wb_bit {n k : Nat} (hn : n < 2 ^ 64) (hk : k < 64) : ((lN n).toUInt64 >>> ((nI k).toInt64.toUInt64 &&& Int64.toUInt64 63)).toInt64 &&& 1 = lN (n / 2 ^ k % 2) := by
  rw [wb_shr hn hk, wb_a1 (Nat.lt_of_le_of_lt (Nat.div_le_self _ _) hn)]
theorem wb_xor {q k : Nat} (hk : k < 63) (h : 2 ^ k ≤ q) (h2 : q < 2 ^ (k + 1)) : lN q ^^^ lN (2 ^ k) = lN (q - 2 ^ k) := by
  obtain ⟨r, rfl⟩ : ∃ r, q = 2 ^ k + r := ⟨q - 2 ^ k, by omega⟩
  have hr : r < 2 ^ k := by rw [Nat.pow_succ] at h2; omega
  have hx : (2 ^ k + r) ^^^ 2 ^ k = r := by
    apply Nat.eq_of_testBit_eq
    intro i
    rw [Nat.testBit_xor, Nat.testBit_two_pow]
    rcases Nat.lt_trichotomy i k with h | h | h
    · rw [Nat.testBit_two_pow_add_gt h]
      simp [show ¬ k = i by omega]
    · subst h
      rw [Nat.testBit_two_pow_add_eq]
      simp
    · have a1 : 2 ^ (k + 1) ≤ 2 ^ i := Nat.pow_le_pow_right (by decide) h
      rw [Nat.testBit_lt_two_pow (show 2 ^ k + r < 2 ^ i by omega), Nat.testBit_lt_two_pow (show r < 2 ^ i by omega)]
      simp [show ¬ k = i by omega]
  have b1 := wb_lt2 (show k + 1 < 64 by omega)
  have b2 := wb_lt2 (show k < 64 by omega)
  apply wb_inj
  rw [Int64.toBitVec_xor, wb_tb, wb_tb, wb_tb]
  apply BitVec.eq_of_toNat_eq
  rw [BitVec.toNat_xor, BitVec.toNat_ofNat, BitVec.toNat_ofNat, BitVec.toNat_ofNat, Nat.mod_eq_of_lt (by omega : 2 ^ k + r < 2 ^ 64), Nat.mod_eq_of_lt b2, hx, Nat.add_sub_cancel_left, Nat.mod_eq_of_lt (by omega)]
theorem u_tn {n : Nat} (h : n < 2 ^ 64) : (UInt64.ofNat n).toNat = n := Nat.mod_eq_of_lt h
theorem g_or {k p a b : Nat} (hp : 2 ^ k = p) (ha : a < p) (h : b * p + a < 2 ^ 64) : lN (b * p) ||| lN a = lN (b * p + a) := by
  subst hp
  have h1 : b * 2 ^ k ||| a = b * 2 ^ k + a := by rw [← Nat.shiftLeft_eq, Nat.shiftLeft_add_eq_or_of_lt ha]
  have h3 : UInt64.ofNat (b * 2 ^ k) ||| UInt64.ofNat a = UInt64.ofNat (b * 2 ^ k + a) := UInt64.toNat_inj.mp (by rw [UInt64.toNat_or, u_tn (by omega), u_tn (by omega), u_tn h, h1])
  have h2 := congrArg UInt64.toInt64 h3
  exact h2
theorem g_or' {k p a b : Nat} (hp : 2 ^ k = p) (ha : a < p) (h : a + b * p < 2 ^ 64) : lN a ||| lN (b * p) = lN (a + b * p) := by
  rw [Int64.or_comm, g_or hp ha (by omega), Nat.add_comm]
/-! the two bits of a code in the law's longs -/
theorem pb_p (n : Nat) : 2 ^ (2 * n) = 4 ^ n := by rw [Nat.pow_mul]
theorem pb_le {n : Nat} (h : n ≤ 32) : 4 ^ n ≤ 2 ^ 64 := by
  rw [← pb_p]; exact Nat.pow_le_pow_right (by decide) (by omega)
theorem pb_lt {cs : List Nat} (h : pe_ok 4 cs) (hl : cs.length ≤ 32) : pe_enc cs < 2 ^ 64 := Nat.lt_of_lt_of_le (pe_lt cs h) (pb_le hl)
theorem pb_2 (i : Nat) : 2 * nI i = nI (2 * i) := pk_mul 2 i
theorem pb_3 {n : Nat} (h : n < 2 ^ 64) : (lN n &&& 3).toInt32 = nI (n % 4) := by
  have e : lN n &&& 3 = lN (n % 4) := wb_mask (k := 2) h (by decide)
  rw [e]; exact lN_i _
theorem pb_code {cs : List Nat} {i : Nat} (h : pe_ok 4 cs) (hl : cs.length ≤ 32) (hi : i < cs.length) : (((lN (pe_enc cs)).toUInt64 >>> ((2 * nI i).toInt64.toUInt64 &&& Int64.toUInt64 63)).toInt64 &&& 3).toInt32 = nI (cs.getD i 0) := by
  rw [pb_2, wb_shr (pb_lt h hl) (by omega), pb_3 (Nat.lt_of_le_of_lt (Nat.div_le_self _ _) (pb_lt h hl)), pb_p, pe_dig cs i h hi]
theorem pb_codeAt {U : Int32 → Prop} {cs : List Nat} {i : Nat} (h : pe_ok 4 cs) (hl : cs.length ≤ 32) (hi : i < cs.length) (p : U (nI (cs.getD i 0))) : wpL_codeAt U () (lN (pe_enc cs)) (nI i) := by
  unfold wpL_codeAt; rw [pb_code h hl hi]; exact p
theorem pb_head {cs : List Nat} {c : Nat} (h : pe_ok 4 (c :: cs)) (hl : (c :: cs).length ≤ 32) : (lN (pe_enc (c :: cs)) &&& 3).toInt32 = nI c := by
  have k := (pe_okc h).1
  rw [pb_3 (pb_lt h hl)]
  show nI ((c + 4 * pe_enc cs) % 4) = nI c
  rw [show (c + 4 * pe_enc cs) % 4 = c by omega]
theorem pb_tail {cs : List Nat} {c : Nat} (h : pe_ok 4 (c :: cs)) (hl : (c :: cs).length ≤ 32) : ((lN (pe_enc (c :: cs))).toUInt64 >>> ((2 : Int32).toInt64.toUInt64 &&& Int64.toUInt64 63)).toInt64 = lN (pe_enc cs) := by
  have k := (pe_okc h).1
  have e := wb_shr (n := pe_enc (c :: cs)) (k := 2) (pb_lt h hl) (by decide)
  have f : pe_enc (c :: cs) / 2 ^ 2 = pe_enc cs := by show (c + 4 * pe_enc cs) / 4 = pe_enc cs; omega
  rw [f] at e
  exact e
theorem pb_push {cs : List Nat} {c : Nat} (h : pe_ok 4 cs) (hl : cs.length < 32) (hc : c < 4) : lN (pe_enc cs) ||| (lN c <<< ((2 * nI cs.length).toInt64 &&& 63)) = lN (pe_enc (cs ++ [c])) := by
  have k := pb_lt (pe_oka h hc) (by rw [List.length_append]; exact hl)
  rw [pe_app] at k ⊢
  rw [pb_2, wb_shl c (by omega), pb_p]
  exact g_or' (pb_p cs.length) (pe_lt cs h) k
theorem pb_keep {U : Int64 → Prop} {ds : List Nat} {n : Nat} (h : pe_ok 4 ds) (hl : ds.length ≤ 32) (hn : n ≤ 32) (p : U (lN (pe_enc (ds.take n)))) : wpL_keep U () (lN (pe_enc ds)) (nI n) := by
  refine pk_lt n 32 (fun e => ?_) (fun e => ?_)
  · have a : ((1 : Int64) <<< ((2 * nI n).toInt64 &&& 63)) - 1 = lN (2 ^ (2 * n) - 1) := by
      rw [pb_2]
      have k := wb_shl 1 (k := 2 * n) (by omega)
      rw [Nat.one_mul] at k
      have k' : (1 : Int64) <<< ((nI (2 * n)).toInt64 &&& 63) = lN (2 ^ (2 * n)) := k
      rw [k']
      exact lN_sub (b := 1) (Nat.one_le_two_pow)
    rw [a, wb_mask (pb_lt h hl) (by omega), pb_p, pe_take ds n h]
    exact p
  · obtain rfl : n = 32 := by omega
    rw [List.take_of_length_le hl] at p
    exact p
theorem pb_by {U : Int32 → Prop} {c : Nat} (hc : c < 4) (p : U (pe_by c)) : wpL_byteOf U () (nI c) := by
  unfold pe_by at p
  refine pk_eq c 0 (fun e => ?_) (fun n0 => pk_eq c 1 (fun e => ?_) (fun n1 => pk_eq c 2 (fun e => ?_) (fun n2 => ?_)))
  · rw [if_pos e] at p; exact p
  · rw [if_neg n0, if_pos e] at p; exact p
  · rw [if_neg n0, if_neg n1, if_pos e] at p; exact p
  · rw [if_neg n0, if_neg n1, if_neg n2] at p; exact p
end PB
