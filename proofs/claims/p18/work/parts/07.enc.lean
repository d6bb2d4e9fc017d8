section PE
/-! the law's two models as lists of codes, two bits a code -/
def pe_enc : List Nat → Nat
  | [] => 0
  | c :: cs => c + 4 * pe_enc cs
def pe_ok (k : Nat) (cs : List Nat) : Prop := ∀ c, c ∈ cs → c < k
theorem pe_okc {k c : Nat} {cs : List Nat} (h : pe_ok k (c :: cs)) : c < k ∧ pe_ok k cs := ⟨h c List.mem_cons_self, fun x hx => h x (List.mem_cons_of_mem _ hx)⟩
theorem pe_oka {k c : Nat} {cs : List Nat} (h : pe_ok k cs) (hc : c < k) : pe_ok k (cs ++ [c]) := by
  intro x hx
  rcases List.mem_append.mp hx with hx | hx
  · exact h x hx
  · rw [List.mem_singleton] at hx; omega
theorem pe_lt : ∀ cs, pe_ok 4 cs → pe_enc cs < 4 ^ cs.length := by
  intro cs
  induction cs with
  | nil => intro _; exact Nat.one_pos
  | cons c cs ih =>
    intro h
    have ⟨h1, h2⟩ := pe_okc h
    have := ih h2
    show c + 4 * pe_enc cs < 4 ^ (cs.length + 1)
    rw [Nat.pow_succ]
    omega
theorem pe_app (c : Nat) : ∀ cs, pe_enc (cs ++ [c]) = pe_enc cs + c * 4 ^ cs.length := by
  intro cs
  induction cs with
  | nil => show c + 4 * 0 = 0 + c * 1; omega
  | cons d cs ih =>
    show d + 4 * pe_enc (cs ++ [c]) = d + 4 * pe_enc cs + c * 4 ^ (cs.length + 1)
    rw [ih, Nat.pow_succ, ← Nat.mul_assoc]
    omega
theorem pe_dig : ∀ (cs : List Nat) (i : Nat), pe_ok 4 cs → i < cs.length → pe_enc cs / 4 ^ i % 4 = cs.getD i 0 := by
  intro cs
  induction cs with
  | nil => intro i _ h; exact absurd h (Nat.not_lt_zero i)
  | cons c cs ih =>
    intro i h hi
    have ⟨h1, h2⟩ := pe_okc h
    cases i with
    | zero =>
      show (c + 4 * pe_enc cs) / 1 % 4 = c
      omega
    | succ i =>
      show (c + 4 * pe_enc cs) / 4 ^ (i + 1) % 4 = cs.getD i 0
      rw [Nat.pow_succ, Nat.mul_comm (4 ^ i) 4, ← Nat.div_div_eq_div_mul, show (c + 4 * pe_enc cs) / 4 = pe_enc cs from by omega]
      exact ih i h2 (by simpa using hi)
theorem pe_take : ∀ (cs : List Nat) (n : Nat), pe_ok 4 cs → pe_enc cs % 4 ^ n = pe_enc (cs.take n) := by
  intro cs
  induction cs with
  | nil => intro n _; rw [List.take_nil]; exact Nat.zero_mod _
  | cons c cs ih =>
    intro n h
    have ⟨h1, h2⟩ := pe_okc h
    cases n with
    | zero => show (c + 4 * pe_enc cs) % 1 = 0; omega
    | succ n =>
      show (c + 4 * pe_enc cs) % 4 ^ (n + 1) = c + 4 * pe_enc (cs.take n)
      rw [← ih n h2, Nat.pow_succ, Nat.mul_comm (4 ^ n) 4, Nat.mod_mul]
      rw [show (c + 4 * pe_enc cs) % 4 = c from by omega, show (c + 4 * pe_enc cs) / 4 = pe_enc cs from by omega]
theorem pe_okt {k n : Nat} {cs : List Nat} (h : pe_ok k cs) : pe_ok k (cs.take n) := fun x hx => h x (List.mem_of_mem_take hx)
theorem pe_ok0 (k : Nat) : pe_ok k [] := fun _ hx => absurd hx List.not_mem_nil
theorem pe_okm {k l : Nat} {cs : List Nat} (h : pe_ok k cs) (hk : k ≤ l) : pe_ok l cs := fun x hx => Nat.lt_of_lt_of_le (h x hx) hk
end PE
