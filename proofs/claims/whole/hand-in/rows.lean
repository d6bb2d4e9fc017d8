section
section TY
/-! numbers, rings, shifts (rows pk_ and nx_ are pasted from kit/rows) -/
theorem pk_us {f : Nat → Int32} {k : Nat} {x : Int32} : upd f k x k = x := if_pos rfl
theorem pk_un {f : Nat → Int32} {k j : Nat} {x : Int32} (h : j ≠ k) : upd f k x j = f j := if_neg h
theorem pk_sub {a b : Nat} (h : b ≤ a) : nI a - nI b = nI (a - b) := by
  obtain ⟨c, rfl⟩ : ∃ c, a = c + b := ⟨a - b, by omega⟩
  rw [← nI_add, Int32.add_sub_cancel, Nat.add_sub_cancel]
theorem pk_m1 (n : Nat) : nI (n + 1) + (-1) = nI n := by
  rw [← nI_1, Int32.add_assoc, show (1 : Int32) + (-1) = 0 from rfl, Int32.add_zero]
theorem pk_mul (a b : Nat) : nI a * nI b = nI (a * b) := (Int32.ofNat_mul a b).symm
theorem pk_ix (x : Int32) {n : Nat} (hn : n < 2 ^ 31) : x < 0 ∨ nI n ≤ x ∨ ∃ j : Nat, j < n ∧ x = nI j := by
  by_cases h : x < 0
  · exact Or.inl h
  · obtain ⟨j, hj, rfl⟩ := nI_of h
    by_cases h2 : j < n
    · exact Or.inr (Or.inr ⟨j, h2, rfl⟩)
    · exact Or.inr (Or.inl (nI_le (by omega) hj))
theorem pk_le {x y : Int32} {A B : Prop} (a b : Nat) (f : a ≤ b → A) (g : b < a → B) (hx : x = nI a := by rfl) (hy : y = nI b := by rfl) (ha : a < 2 ^ 31 := by omega) (hb : b < 2 ^ 31 := by omega) : (x ≤ y → A) ∧ (¬ x ≤ y → B) := by
  subst hx hy
  rw [nI_leI ha hb]
  exact ⟨f, fun z => g (by omega)⟩
theorem pk_lt {x y : Int32} {A B : Prop} (a b : Nat) (f : a < b → A) (g : b ≤ a → B) (hx : x = nI a := by rfl) (hy : y = nI b := by rfl) (ha : a < 2 ^ 31 := by omega) (hb : b < 2 ^ 31 := by omega) : (x < y → A) ∧ (¬ x < y → B) := by
  subst hx hy
  rw [nI_ltI ha hb]
  exact ⟨f, fun z => g (by omega)⟩
theorem pk_eq {x y : Int32} {A B : Prop} (a b : Nat) (f : a = b → A) (g : a ≠ b → B) (hx : x = nI a := by rfl) (hy : y = nI b := by rfl) (ha : a < 2 ^ 31 := by omega) (hb : b < 2 ^ 31 := by omega) : (x = y → A) ∧ (¬ x = y → B) := by
  subst hx hy
  rw [nI_eq ha hb]
  exact ⟨f, g⟩
theorem pk_in {x : Int32} (n N : Nat) (h : n < N) (hx : x = nI n := by rfl) (hN : N < 2 ^ 31 := by omega) : vp_in x N := by
  subst hx
  exact vp_in_nI h hN
theorem pk_cl {x : Int32} (n : Nat) (hx : x = nI n := by rfl) (h : n < 2 ^ 31 := by omega) : x.toNatClampNeg = n := by
  subst hx
  exact nI_clamp h
theorem pk_tn {n : Nat} (h : n < 2 ^ 32) : (nI n).toBitVec.toNat = n := Nat.mod_eq_of_lt h
theorem pk_and (x : Int32) {m : Int32} (k : Nat) (hm : m.toBitVec.toNat = 2 ^ k - 1) : x &&& m = nI (x.toBitVec.toNat % 2 ^ k) := by
  apply Int32.toBitVec_inj.mp
  apply BitVec.eq_of_toNat_eq
  rw [Int32.toBitVec_and, BitVec.toNat_and, hm, Nat.and_two_pow_sub_one_eq_mod]
  show _ = (BitVec.ofNat 32 _).toNat
  rw [BitVec.toNat_ofNat]
  exact (Nat.mod_eq_of_lt (Nat.lt_of_le_of_lt (Nat.mod_le _ _) x.toBitVec.isLt)).symm
theorem pk_andN {n : Nat} (h : n < 2 ^ 32) {m : Int32} (k : Nat) (hm : m.toBitVec.toNat = 2 ^ k - 1) : nI n &&& m = nI (n % 2 ^ k) := by
  rw [pk_and _ k hm, pk_tn h]
theorem pk_andE (x : Int32) {m : Int32} (k : Nat) (hm : m.toBitVec.toNat = 2 ^ k - 1) : ∃ j : Nat, j < 2 ^ k ∧ x &&& m = nI j := ⟨_, Nat.mod_lt _ (Nat.two_pow_pos k), pk_and x k hm⟩
theorem pk_andIn (x : Int32) {m : Int32} (k : Nat) (hm : m.toBitVec.toNat = 2 ^ k - 1) (hk : k ≤ 30) : vp_in (x &&& m) (2 ^ k) := by
  obtain ⟨j, hj, e⟩ := pk_andE x k hm
  rw [e]
  exact vp_in_nI hj (Nat.lt_of_le_of_lt (Nat.pow_le_pow_right (by decide) hk) (by decide))
theorem nx_xor (a b : Nat) : nI a ^^^ nI b = nI (a ^^^ b) := by
  apply Int32.toBitVec_inj.1
  show BitVec.ofNat 32 a ^^^ BitVec.ofNat 32 b = BitVec.ofNat 32 (a ^^^ b)
  apply BitVec.eq_of_getLsbD_eq
  intro i hi
  simp [hi]
theorem ty_ring {h n : Nat} (hh : h < 64) (hn : n ≤ 64) : (nI h + nI n) &&& 63 = nI ((h + n) % 64) := by
  rw [nI_add]; exact pk_andN (by omega) 6 (by decide)
theorem ty_ring1 {h : Nat} (hh : h < 64) : (nI h + 1) &&& 63 = nI ((h + 1) % 64) := by
  rw [nI_1]; exact pk_andN (by omega) 6 (by decide)
theorem ty_ringC {h n : Nat} (hh : h < 64) (hn : n ≤ 64) : ((nI h + nI n) &&& 63).toNatClampNeg = (h + n) % 64 := by
  rw [ty_ring hh hn]; exact nI_clamp (by omega)
theorem ty_ringI {h n : Nat} (hh : h < 64) (hn : n ≤ 64) : vp_in ((nI h + nI n) &&& 63) 64 := by
  rw [ty_ring hh hn]; exact vp_in_nI (by omega) (by omega)
theorem ty_rung {h n : Nat} (hh : h < 8) (hn : n ≤ 8) : (nI h + nI n) &&& 7 = nI ((h + n) % 8) := by
  rw [nI_add]; exact pk_andN (by omega) 3 (by decide)
theorem ty_rung1 {h : Nat} (hh : h < 8) : (nI h + 1) &&& 7 = nI ((h + 1) % 8) := by
  rw [nI_1]; exact pk_andN (by omega) 3 (by decide)
theorem ty_rungC {h n : Nat} (hh : h < 8) (hn : n ≤ 8) : ((nI h + nI n) &&& 7).toNatClampNeg = (h + n) % 8 := by
  rw [ty_rung hh hn]; exact nI_clamp (by omega)
theorem ty_rungI {h n : Nat} (hh : h < 8) (hn : n ≤ 8) : vp_in ((nI h + nI n) &&& 7) 8 := by
  rw [ty_rung hh hn]; exact vp_in_nI (by omega) (by omega)
theorem ty_md {N x : Nat} (h : x < 2 * N) : x % N = if x < N then x else x - N := by
  by_cases c : x < N
  · rw [if_pos c]; exact Nat.mod_eq_of_lt c
  · rw [if_neg c, Nat.mod_eq_sub_mod (by omega)]; exact Nat.mod_eq_of_lt (by omega)
theorem ty_mne {N h i n : Nat} (hh : h < N) (hi : i < n) (hn : n < N) : (h + i) % N ≠ (h + n) % N := by
  rw [ty_md (by omega), ty_md (by omega)]
  by_cases c : h + i < N
  · rw [if_pos c]
    by_cases d : h + n < N
    · rw [if_pos d]; omega
    · rw [if_neg d]; omega
  · rw [if_neg c, if_neg (by omega)]; omega
/-- the ring a of N places from h on and the flat array b hold the same n entries -/
def ty_q (N : Nat) (a b : Nat → Int32) (h n : Nat) : Prop := h < N ∧ n ≤ N ∧ ∀ i, i < n → a ((h + i) % N) = b i
theorem ty_q0 {N h : Nat} {a b : Nat → Int32} (hh : h < N) : ty_q N a b h 0 := ⟨hh, by omega, fun _ hi => absurd hi (by omega)⟩
theorem ty_qPush {N h n : Nat} {a b : Nat → Int32} (x : Int32) (q : ty_q N a b h n) (hn : n < N) : ty_q N (upd a ((h + n) % N) x) (upd b n x) h (n + 1) := by
  obtain ⟨h1, h2, h3⟩ := q
  refine ⟨h1, by omega, fun i hi => ?_⟩
  by_cases e : i = n
  · subst e; rw [pk_us, pk_us]
  · rw [pk_un e, pk_un (ty_mne h1 (by omega) hn)]; exact h3 i (by omega)
theorem ty_qDrop {N h n : Nat} {a b b' : Nat → Int32} (q : ty_q N a b h (n + 1)) (hb : ∀ i, i < n → b' i = b (i + 1)) : ty_q N a b' ((h + 1) % N) n := by
  obtain ⟨h1, h2, h3⟩ := q
  refine ⟨Nat.mod_lt _ (by omega), by omega, fun i hi => ?_⟩
  rw [hb i hi, ← h3 (i + 1) (by omega), Nat.mod_add_mod]
  exact congrArg (fun z => a (z % N)) (by omega)
theorem ty_qAt {N h n i : Nat} {a b : Nat → Int32} (q : ty_q N a b h n) (hi : i < n) : a ((h + i) % N) = b i := q.2.2 i hi
theorem ty_qHead {N h n : Nat} {a b : Nat → Int32} (q : ty_q N a b h (n + 1)) : a h = b 0 := by
  have e := q.2.2 0 (by omega)
  rw [Nat.add_zero, Nat.mod_eq_of_lt q.1] at e
  exact e
theorem ty_qLess {N h n m : Nat} {a b : Nat → Int32} (q : ty_q N a b h n) (hm : m ≤ n) : ty_q N a b h m := ⟨q.1, by have := q.2.1; omega, fun i hi => q.2.2 i (by omega)⟩
/-- the flat array while its head is shifted away: the places below k - 1 are done -/
def ty_sh (b : Nat → Int32) (k : Nat) : Nat → Int32 := fun i => if i + 1 < k then b (i + 1) else b i
theorem ty_sh1 (b : Nat → Int32) : ty_sh b 1 = b := funext fun _ => if_neg (by omega)
theorem ty_shk (b : Nat → Int32) (k : Nat) : ty_sh b k k = b k := if_neg (by omega)
theorem ty_shs (b : Nat → Int32) (k : Nat) : upd (ty_sh b (k + 1)) k (b (k + 1)) = ty_sh b (k + 2) := by
  funext i
  by_cases e : i = k
  · subst e; rw [pk_us]; exact (if_pos (by omega)).symm
  · rw [pk_un e]
    by_cases c : i + 1 < k + 1
    · exact (if_pos c).trans (if_pos (by omega)).symm
    · exact (if_neg c).trans (if_neg (by omega)).symm
theorem ty_shd {b : Nat → Int32} {n i : Nat} (h : i < n) : ty_sh b (n + 1) i = b (i + 1) := if_pos (by omega)
/-- the column behind one byte of output -/
def ty_cf (m : Nat) (c : Int32) : Int32 :=
  if m = 8 then (if c ≤ 0 then c else c - 1) else if m = 9 then c + (8 - (c - c / 8 * 8)) else if m = 10 then 0 else if m = 13 then 0 else if 32 ≤ m then (if m = 127 then c else c + 1) else c
theorem ty_addsub (c x : Int32) : c + x - c = x := by rw [Int32.add_comm, Int32.add_sub_cancel]
theorem ty_w9 (c : Int32) : ∃ w : Nat, w ≤ 15 ∧ ty_cf 9 c - c = nI w := by
  show ∃ w : Nat, w ≤ 15 ∧ c + (8 - (c - c / 8 * 8)) - c = nI w
  rw [ty_addsub]
  have e := rem_toInt c 8
  have t := tmod_bounds (a := c.toInt) (M := 8) (by omega)
  have e8 : (8 : Int32).toInt = 8 := by decide
  rw [e8] at e
  have f : (8 - (c - c / 8 * 8)).toInt = 8 - c.toInt.tmod 8 := by
    rw [Int32.toInt_sub, e, e8]
    exact Int.bmod_eq_of_le (by omega) (by omega)
  exact nI_of2 (M := 15) (n := 15) (by decide) (by rw [Int32.lt_iff_toInt_lt, f, show (0 : Int32).toInt = 0 from by decide]; omega) (by rw [Int32.le_iff_toInt_le, f, show (15 : Int32).toInt = 15 from by decide]; omega)
theorem ty_xor (m : Nat) : nI m ^^^ 64 = nI (m ^^^ 64) := nx_xor m 64
theorem ty_xr : ∀ m, m < 128 → (m < 32 ∨ m = 127) → 32 ≤ m ^^^ 64 ∧ m ^^^ 64 < 127 := by decide +kernel
theorem ty_byte (x : Int32) : ∃ m : Nat, m < 256 ∧ x &&& 255 = nI m := pk_andE x 8 (by decide)
/-! the output: its count, the column, the ring, the flat array -/
abbrev TyO : Type := Nat × Int32 × (Nat → Int32) × (Nat → Int32)
def ty_put (ho m : Nat) (s : TyO) : TyO := (s.1 + 1, ty_cf m s.2.1, upd s.2.2.1 ((ho + s.1) % 64) (nI m), upd s.2.2.2 s.1 (nI m))
def ty_1 (oc ho m : Nat) (s : TyO) : TyO := if s.1 + 1 ≤ oc then ty_put ho m s else s
def ty_2 (oc ho m m' : Nat) (s : TyO) : TyO := if s.1 + 2 ≤ oc then ty_put ho m' (ty_put ho m s) else s
def ty_b1 (oc : Nat) (s : TyO) : Int32 := if s.1 + 1 ≤ oc then 1 else 0
def ty_b2 (oc : Nat) (s : TyO) : Int32 := if s.1 + 2 ≤ oc then 1 else 0
def ty_e (oc ho m : Nat) (s : TyO) : TyO := if m = 10 then ty_2 oc ho 13 10 s else if m = 9 then ty_1 oc ho 9 s else if 32 ≤ m then (if m = 127 then ty_2 oc ho 94 (m ^^^ 64) s else ty_1 oc ho m s) else ty_2 oc ho 94 (m ^^^ 64) s
def ty_echo (fl : Int32) (oc ho m : Nat) (s : TyO) : TyO := if fl &&& 2 = 0 then s else ty_e oc ho m s
def ty_bs (ho : Nat) (e : Int32) : Nat → TyO → TyO
  | 0, s => s
  | w + 1, s => ty_bs ho e w (if e = 9 then ty_put ho 8 s else ty_put ho 8 (ty_put ho 32 (ty_put ho 8 s)))
def ty_rub (fl : Int32) (oc ho : Nat) (e : Int32) (w : Nat) (s : TyO) : TyO :=
  if fl &&& 2 = 0 then s else if fl &&& 4 = 0 then s else if (if e = 9 then w else w * 3) + s.1 ≤ oc then ty_bs ho e w s else s
def ty_o (oc ho : Nat) (s : TyO) : Prop := s.1 ≤ oc ∧ ty_q 64 s.2.2.1 s.2.2.2 ho s.1
theorem ty_oPut {oc ho m : Nat} {s : TyO} (h : ty_o oc ho s) (hc : oc ≤ 64) (hr : s.1 + 1 ≤ oc) : ty_o oc ho (ty_put ho m s) := ⟨hr, ty_qPush _ h.2 (by omega)⟩
theorem ty_o1 {oc ho m : Nat} {s : TyO} (h : ty_o oc ho s) (hc : oc ≤ 64) : ty_o oc ho (ty_1 oc ho m s) := by
  unfold ty_1
  by_cases c : s.1 + 1 ≤ oc
  · rw [if_pos c]; exact ty_oPut h hc c
  · rw [if_neg c]; exact h
theorem ty_o2 {oc ho m m' : Nat} {s : TyO} (h : ty_o oc ho s) (hc : oc ≤ 64) : ty_o oc ho (ty_2 oc ho m m' s) := by
  unfold ty_2
  by_cases c : s.1 + 2 ≤ oc
  · rw [if_pos c]; exact ty_oPut (ty_oPut h hc (by omega)) hc c
  · rw [if_neg c]; exact h
theorem ty_oE {oc ho m : Nat} {s : TyO} (h : ty_o oc ho s) (hc : oc ≤ 64) : ty_o oc ho (ty_e oc ho m s) := by
  unfold ty_e
  by_cases c1 : m = 10
  · rw [if_pos c1]; exact ty_o2 h hc
  · rw [if_neg c1]
    by_cases c2 : m = 9
    · rw [if_pos c2]; exact ty_o1 h hc
    · rw [if_neg c2]
      by_cases c3 : 32 ≤ m
      · rw [if_pos c3]
        by_cases c4 : m = 127
        · rw [if_pos c4]; exact ty_o2 h hc
        · rw [if_neg c4]; exact ty_o1 h hc
      · rw [if_neg c3]; exact ty_o2 h hc
theorem ty_oEcho {fl : Int32} {oc ho m : Nat} {s : TyO} (h : ty_o oc ho s) (hc : oc ≤ 64) : ty_o oc ho (ty_echo fl oc ho m s) := by
  unfold ty_echo
  by_cases c : fl &&& 2 = 0
  · rw [if_pos c]; exact h
  · rw [if_neg c]; exact ty_oE h hc
theorem ty_oBs {oc ho : Nat} {e : Int32} (hc : oc ≤ 64) : ∀ (w : Nat) (s : TyO), ty_o oc ho s → (if e = 9 then w else w * 3) + s.1 ≤ oc → ty_o oc ho (ty_bs ho e w s) := by
  intro w
  induction w with
  | zero => intro s h _; exact h
  | succ w ih =>
    intro s h hr
    show ty_o oc ho (ty_bs ho e w (if e = 9 then ty_put ho 8 s else ty_put ho 8 (ty_put ho 32 (ty_put ho 8 s))))
    by_cases c : e = 9
    · rw [if_pos c] at hr ⊢
      refine ih _ (ty_oPut h hc (by omega)) ?_
      rw [if_pos c]
      show w + (s.1 + 1) ≤ oc
      omega
    · rw [if_neg c] at hr ⊢
      refine ih _ (ty_oPut (ty_oPut (ty_oPut h hc (by omega)) hc ?_) hc ?_) ?_
      · show s.1 + 1 + 1 ≤ oc
        omega
      · show s.1 + 1 + 1 + 1 ≤ oc
        omega
      · rw [if_neg c]
        show w * 3 + (s.1 + 1 + 1 + 1) ≤ oc
        omega
theorem ty_oRub {fl : Int32} {oc ho w : Nat} {e : Int32} {s : TyO} (h : ty_o oc ho s) (hc : oc ≤ 64) : ty_o oc ho (ty_rub fl oc ho e w s) := by
  unfold ty_rub
  by_cases c : fl &&& 2 = 0
  · rw [if_pos c]; exact h
  · rw [if_neg c]
    by_cases d : fl &&& 4 = 0
    · rw [if_pos d]; exact h
    · rw [if_neg d]
      by_cases r : (if e = 9 then w else w * 3) + s.1 ≤ oc
      · rw [if_pos r]; exact ty_oBs hc w s h r
      · rw [if_neg r]; exact h
/-! the width of an echo other than a newline's -/
theorem ty_cfp {m : Nat} (c : Int32) (h : 32 ≤ m) (h2 : m ≠ 127) : ty_cf m c = c + 1 := by
  unfold ty_cf
  rw [if_neg (by omega), if_neg (by omega), if_neg (by omega), if_neg (by omega), if_pos h, if_neg h2]
theorem ty_w0 (c : Int32) : ∃ w : Nat, w ≤ 15 ∧ c - c = nI w := ⟨0, by omega, Int32.sub_self c⟩
theorem ty_w1 {m : Nat} {oc ho : Nat} (s : TyO) (h : m = 9 ∨ (32 ≤ m ∧ m ≠ 127)) : ∃ w : Nat, w ≤ 15 ∧ (ty_1 oc ho m s).2.1 - s.2.1 = nI w := by
  unfold ty_1
  by_cases c : s.1 + 1 ≤ oc
  · rw [if_pos c]
    show ∃ w : Nat, w ≤ 15 ∧ ty_cf m s.2.1 - s.2.1 = nI w
    rcases h with rfl | ⟨h1, h2⟩
    · exact ty_w9 _
    · rw [ty_cfp _ h1 h2, ty_addsub]; exact ⟨1, by omega, rfl⟩
  · rw [if_neg c]; exact ty_w0 _
theorem ty_w2 {m : Nat} {oc ho : Nat} (s : TyO) (h1 : 32 ≤ m) (h2 : m ≠ 127) : ∃ w : Nat, w ≤ 15 ∧ (ty_2 oc ho 94 m s).2.1 - s.2.1 = nI w := by
  unfold ty_2
  by_cases c : s.1 + 2 ≤ oc
  · rw [if_pos c]
    show ∃ w : Nat, w ≤ 15 ∧ ty_cf m (ty_cf 94 s.2.1) - s.2.1 = nI w
    rw [ty_cfp _ h1 h2, ty_cfp (m := 94) _ (by omega) (by omega), Int32.add_assoc, ty_addsub]
    exact ⟨2, by omega, by decide⟩
  · rw [if_neg c]; exact ty_w0 _
theorem ty_wE {fl : Int32} {oc ho m : Nat} (s : TyO) (hm : m < 256) (h : m ≠ 10) : ∃ w : Nat, w ≤ 15 ∧ (ty_echo fl oc ho m s).2.1 - s.2.1 = nI w := by
  unfold ty_echo
  by_cases c : fl &&& 2 = 0
  · rw [if_pos c]; exact ty_w0 _
  · rw [if_neg c]
    unfold ty_e
    rw [if_neg h]
    by_cases c2 : m = 9
    · rw [if_pos c2]; exact ty_w1 s (Or.inl rfl)
    · rw [if_neg c2]
      by_cases c3 : 32 ≤ m
      · rw [if_pos c3]
        by_cases c4 : m = 127
        · have x := ty_xr m (by omega) (Or.inr c4)
          rw [if_pos c4]; exact ty_w2 s x.1 (by omega)
        · rw [if_neg c4]; exact ty_w1 s (Or.inr ⟨c3, c4⟩)
      · have x := ty_xr m (by omega) (Or.inl (by omega))
        rw [if_neg c3]; exact ty_w2 s x.1 (by omega)
/-! the end of the line walked back over -/
def ty_ws (p : Nat → Bool) : Nat → Nat
  | 0 => 0
  | j + 1 => if p j = true then ty_ws p j else j + 1
theorem ty_wsle (p : Nat → Bool) : ∀ j, ty_ws p j ≤ j := by
  intro j
  induction j with
  | zero => exact Nat.le_refl 0
  | succ j ih =>
    show (if p j = true then ty_ws p j else j + 1) ≤ j + 1
    by_cases c : p j = true
    · rw [if_pos c]; omega
    · rw [if_neg c]; omega
def ty_cut (rub : Nat → TyO → TyO) (m : Nat) : Nat → TyO → TyO
  | 0, s => s
  | j + 1, s => if j < m then s else ty_cut rub m j (rub j s)
theorem ty_cutE (rub : Nat → TyO → TyO) (m : Nat) (s : TyO) : ty_cut rub m m s = s := by
  cases m with
  | zero => rfl
  | succ m => exact if_pos (by omega)
theorem ty_cutS (rub : Nat → TyO → TyO) {m j : Nat} (s : TyO) (h : m ≤ j) : ty_cut rub m (j + 1) s = ty_cut rub m j (rub j s) := if_neg (by omega)
theorem ty_cutM (rub : Nat → TyO → TyO) {m p : Nat} (hm : m ≤ p) : ∀ (j : Nat) (s : TyO), p ≤ j → ty_cut rub m j s = ty_cut rub m p (ty_cut rub p j s) := by
  intro j
  induction j with
  | zero =>
    intro s h
    obtain rfl : p = 0 := by omega
    rfl
  | succ j ih =>
    intro s h
    by_cases c : p = j + 1
    · subst c; rw [ty_cutE]
    · rw [ty_cutS rub s (show m ≤ j by omega), ty_cutS rub s (show p ≤ j by omega)]
      exact ih _ (by omega)
theorem ty_oCut {oc ho m : Nat} {rub : Nat → TyO → TyO} (hr : ∀ j s, ty_o oc ho s → ty_o oc ho (rub j s)) : ∀ (j : Nat) (s : TyO), ty_o oc ho s → ty_o oc ho (ty_cut rub m j s) := by
  intro j
  induction j with
  | zero => intro s h; exact h
  | succ j ih =>
    intro s h
    show ty_o oc ho (if j < m then s else ty_cut rub m j (rub j s))
    by_cases c : j < m
    · rw [if_pos c]; exact h
    · rw [if_neg c]; exact ih _ (hr j s h)
end TY
end
section
section TP
/-! pure pictures of what the methods do: the input (count, ring, flat array), the user buffer -/
abbrev TyF : Type := Nat → Int32
abbrev TyI : Type := Nat × TyF × TyF
def ty_in (h : Nat) (x : Int32) (t : TyI) : TyI := (t.1 + 1, upd t.2.1 ((h + t.1) % 64) x, upd t.2.2 t.1 x)
def ty_i (h : Nat) (t : TyI) : Prop := ty_q 64 t.2.1 t.2.2 h t.1
theorem ty_iIn {h : Nat} {t : TyI} (x : Int32) (q : ty_i h t) (hn : t.1 < 64) : ty_i h (ty_in h x t) := ty_qPush x q hn
/-- d bytes of the line from k on, appended -/
def ty_pl (h : Nat) (ln : TyF) : Nat → Nat → TyI → TyI
  | 0, _, t => t
  | d + 1, k, t => ty_pl h ln d (k + 1) (ty_in h (ln k) t)
theorem ty_pl1 (h : Nat) (ln : TyF) : ∀ (d k : Nat) (t : TyI), (ty_pl h ln d k t).1 = t.1 + d := by
  intro d
  induction d with
  | zero => intro k t; rfl
  | succ d ih =>
    intro k t
    show (ty_pl h ln d (k + 1) (ty_in h (ln k) t)).1 = t.1 + (d + 1)
    rw [ih]
    show t.1 + 1 + d = t.1 + (d + 1)
    omega
theorem ty_iPl {h : Nat} {ln : TyF} : ∀ (d k : Nat) (t : TyI), ty_i h t → t.1 + d ≤ 64 → ty_i h (ty_pl h ln d k t) := by
  intro d
  induction d with
  | zero => intro k t q _; exact q
  | succ d ih =>
    intro k t q hn
    exact ih (k + 1) _ (ty_iIn _ q (by omega)) (by show t.1 + 1 + d ≤ 64; omega)
/-- the entries of d places from i on that are no marks -/
def ty_cn (b : TyF) : Nat → Nat → Nat
  | 0, _ => 0
  | d + 1, i => (if b i = 256 then 0 else 1) + ty_cn b d (i + 1)
theorem ty_cnle (b : TyF) : ∀ d i, ty_cn b d i ≤ d := by
  intro d
  induction d with
  | zero => intro i; exact Nat.le_refl 0
  | succ d ih =>
    intro i
    show (if b i = 256 then 0 else 1) + ty_cn b d (i + 1) ≤ d + 1
    have := ih (i + 1)
    split <;> omega
/-- the marks taken out: d places from i on are left, j are kept -/
def ty_fl (h : Nat) : Nat → Nat → TyI → TyI
  | 0, _, t => t
  | d + 1, i, t => if t.2.2 i = 256 then ty_fl h d (i + 1) t else ty_fl h d (i + 1) (ty_in h (t.2.2 i) t)
/-! the filter's invariant: j kept, i seen, n in all -/
def ty_f (a b : TyF) (h j i n : Nat) : Prop := h < 64 ∧ n ≤ 64 ∧ j ≤ i ∧ i ≤ n ∧ (∀ m, m < j → a ((h + m) % 64) = b m) ∧ (∀ m, i ≤ m → m < n → a ((h + m) % 64) = b m)
theorem ty_f0 {a b : TyF} {h n : Nat} (q : ty_q 64 a b h n) : ty_f a b h 0 0 n := ⟨q.1, q.2.1, Nat.le_refl 0, Nat.zero_le _, fun _ hm => absurd hm (by omega), fun m _ hm => q.2.2 m hm⟩
theorem ty_fAt {a b : TyF} {h j i n : Nat} (f : ty_f a b h j i n) (hi : i < n) : a ((h + i) % 64) = b i := f.2.2.2.2.2 i (Nat.le_refl i) hi
theorem ty_fSkip {a b : TyF} {h j i n : Nat} (f : ty_f a b h j i n) (hi : i < n) : ty_f a b h j (i + 1) n := by
  obtain ⟨h1, h2, h3, h4, h5, h6⟩ := f
  exact ⟨h1, h2, by omega, by omega, h5, fun m a c => h6 m (by omega) c⟩
theorem ty_fKeep {a b : TyF} {h j i n : Nat} (x : Int32) (f : ty_f a b h j i n) (hi : i < n) : ty_f (upd a ((h + j) % 64) x) (upd b j x) h (j + 1) (i + 1) n := by
  obtain ⟨h1, h2, h3, h4, h5, h6⟩ := f
  refine ⟨h1, h2, by omega, by omega, fun m hm => ?_, fun m hm hn => ?_⟩
  · by_cases e : m = j
    · subst e; rw [pk_us, pk_us]
    · rw [pk_un e, pk_un (ty_mne h1 (by omega) (by omega))]; exact h5 m (by omega)
  · rw [pk_un (Ne.symm (ty_mne h1 (show j < m by omega) (show m < 64 by omega))), pk_un (show m ≠ j by omega)]; exact h6 m (by omega) hn
theorem ty_fEnd {a b : TyF} {h j n : Nat} (f : ty_f a b h j n n) : ty_q 64 a b h j := ⟨f.1, by have := f.2.1; have := f.2.2.1; omega, f.2.2.2.2.1⟩
theorem ty_iFl {h : Nat} : ∀ (d i : Nat) (t : TyI) (n : Nat), i + d = n → ty_f t.2.1 t.2.2 h t.1 i n → ty_i h (ty_fl h d i t) ∧ (ty_fl h d i t).1 ≤ t.1 + d := by
  intro d
  induction d with
  | zero =>
    intro i t n e f
    obtain rfl : i = n := by omega
    exact ⟨ty_fEnd f, Nat.le_refl _⟩
  | succ d ih =>
    intro i t n e f
    show ty_i h (if t.2.2 i = 256 then ty_fl h d (i + 1) t else ty_fl h d (i + 1) (ty_in h (t.2.2 i) t)) ∧ (if t.2.2 i = 256 then ty_fl h d (i + 1) t else ty_fl h d (i + 1) (ty_in h (t.2.2 i) t)).1 ≤ t.1 + (d + 1)
    by_cases c : t.2.2 i = 256
    · rw [if_pos c]
      have g := ih (i + 1) t n (by omega) (ty_fSkip f (by omega))
      exact ⟨g.1, by have := g.2; omega⟩
    · rw [if_neg c]
      have g := ih (i + 1) (ty_in h (t.2.2 i) t) n (by omega) (ty_fKeep _ f (by omega))
      have k : (ty_in h (t.2.2 i) t).1 = t.1 + 1 := rfl
      exact ⟨g.1, by have := g.2; omega⟩
/-- the line spilled into the input as far as there is room; the rest is counted -/
def ty_sp (h ic : Nat) (ln : TyF) : Nat → Nat → TyI → Int32 → TyI × Int32
  | 0, _, t, dr => (t, dr)
  | d + 1, k, t, dr => if t.1 < ic then ty_sp h ic ln d (k + 1) (ty_in h (ln k) t) dr else ty_sp h ic ln d (k + 1) t (dr + 1)
theorem ty_iSp {h ic : Nat} {ln : TyF} (hc : ic ≤ 64) : ∀ (d k : Nat) (t : TyI) (dr : Int32), ty_i h t → t.1 ≤ ic → ty_i h (ty_sp h ic ln d k t dr).1 ∧ (ty_sp h ic ln d k t dr).1.1 ≤ ic := by
  intro d
  induction d with
  | zero => intro k t dr q e; exact ⟨q, e⟩
  | succ d ih =>
    intro k t dr q e
    show ty_i h (if t.1 < ic then ty_sp h ic ln d (k + 1) (ty_in h (ln k) t) dr else ty_sp h ic ln d (k + 1) t (dr + 1)).1 ∧ (if t.1 < ic then ty_sp h ic ln d (k + 1) (ty_in h (ln k) t) dr else ty_sp h ic ln d (k + 1) t (dr + 1)).1.1 ≤ ic
    by_cases c : t.1 < ic
    · rw [if_pos c]; exact ih _ _ _ (ty_iIn _ q (by omega)) c
    · rw [if_neg c]; exact ih _ _ _ q e
/-- is one of d entries from i on a line's end? -/
def ty_an (b : TyF) : Nat → Nat → Bool
  | 0, _ => false
  | d + 1, i => if b i = 10 then true else if b i = 256 then true else ty_an b d (i + 1)
/-- the input's head taken out -/
def ty_rm (t : TyI) : TyI := (t.1 - 1, t.2.1, ty_sh t.2.2 t.1)
theorem ty_iRm {h : Nat} {t : TyI} (q : ty_i h t) (hn : 0 < t.1) : ty_i ((h + 1) % 64) (ty_rm t) := by
  obtain ⟨n, a, b⟩ := t
  obtain ⟨m, rfl⟩ : ∃ m, n = m + 1 := ⟨n - 1, by have : 0 < n := hn; omega⟩
  exact ty_qDrop (n := m) q (fun _ hi => ty_shd hi)
theorem ty_iHd {h : Nat} {t : TyI} (q : ty_i h t) (hn : 0 < t.1) : t.2.1 h = t.2.2 0 := by
  obtain ⟨n, a, b⟩ := t
  obtain ⟨m, rfl⟩ : ∃ m, n = m + 1 := ⟨n - 1, by have : 0 < n := hn; omega⟩
  exact ty_qHead q
/-! the reads: count, head, input, user buffer -/
abbrev TyD : Type := Nat × Nat × TyI × TyI
def ty_dl (hu r : Nat) : Nat → Nat → Nat → TyI → TyI → TyD
  | 0, c, h, t, y => (c, h, t, y)
  | n + 1, c, h, t, y =>
    if t.2.2 0 = 256 then (c, (h + 1) % 64, ty_rm t, y)
    else if c = r then (c, h, t, y)
    else if t.2.2 0 = 10 then (c + 1, (h + 1) % 64, ty_rm t, ty_in hu (t.2.2 0) y)
    else ty_dl hu r n (c + 1) ((h + 1) % 64) (ty_rm t) (ty_in hu (t.2.2 0) y)
def ty_dr (hu : Nat) : Nat → Nat → Nat → TyI → TyI → TyD
  | 0, c, h, t, y => (c, h, t, y)
  | d + 1, c, h, t, y => ty_dr hu d (c + 1) ((h + 1) % 64) (ty_rm t) (ty_in hu (t.2.2 0) y)
/-- what a delivery leaves: both queues in step, no more than there was -/
def ty_dOk (hu n : Nat) (D : TyD) : Prop := ty_i D.2.1 D.2.2.1 ∧ ty_i hu D.2.2.2 ∧ D.2.2.1.1 ≤ n
theorem ty_dlOk {hu r : Nat} : ∀ (n c h : Nat) (t y : TyI), t.1 = n → ty_i h t → ty_i hu y → c ≤ r → y.1 + (r - c) ≤ 64 → ty_dOk hu n (ty_dl hu r n c h t y) := by
  intro n
  induction n with
  | zero => intro c h t y e q p _ _; exact ⟨q, p, by show t.1 ≤ 0; omega⟩
  | succ n ih =>
    intro c h t y e q p hc hr
    have e1 : (ty_rm t).1 = n := by show t.1 - 1 = n; omega
    unfold ty_dl
    by_cases c1 : t.2.2 0 = 256
    · rw [if_pos c1]; exact ⟨ty_iRm q (by omega), p, by show (ty_rm t).1 ≤ n + 1; omega⟩
    · rw [if_neg c1]
      by_cases c2 : c = r
      · rw [if_pos c2]; exact ⟨q, p, by show t.1 ≤ n + 1; omega⟩
      · rw [if_neg c2]
        by_cases c3 : t.2.2 0 = 10
        · rw [if_pos c3]; exact ⟨ty_iRm q (by omega), ty_iIn _ p (by omega), by show (ty_rm t).1 ≤ n + 1; omega⟩
        · rw [if_neg c3]
          have g := ih (c + 1) ((h + 1) % 64) (ty_rm t) (ty_in hu (t.2.2 0) y) e1 (ty_iRm q (by omega)) (ty_iIn _ p (by omega)) (by omega) (by show y.1 + 1 + (r - (c + 1)) ≤ 64; omega)
          exact ⟨g.1, g.2.1, Nat.le_succ_of_le g.2.2⟩
theorem ty_drOk {hu : Nat} : ∀ (d c h : Nat) (t y : TyI), ty_i h t → ty_i hu y → d ≤ t.1 → y.1 + d ≤ 64 → ty_dOk hu t.1 (ty_dr hu d c h t y) ∧ (ty_dr hu d c h t y).1 = c + d := by
  intro d
  induction d with
  | zero => intro c h t y q p _ _; exact ⟨⟨q, p, Nat.le_refl _⟩, rfl⟩
  | succ d ih =>
    intro c h t y q p hd hr
    have e1 : (ty_rm t).1 = t.1 - 1 := rfl
    have g := ih (c + 1) ((h + 1) % 64) (ty_rm t) (ty_in hu (t.2.2 0) y) (ty_iRm q (by omega)) (ty_iIn _ p (by omega)) (by omega) (by show y.1 + 1 + d ≤ 64; omega)
    refine ⟨⟨g.1.1, g.1.2.1, ?_⟩, ?_⟩
    · have := g.1.2.2
      show (ty_dr hu d (c + 1) ((h + 1) % 64) (ty_rm t) (ty_in hu (t.2.2 0) y)).2.2.1.1 ≤ t.1
      omega
    · show (ty_dr hu d (c + 1) ((h + 1) % 64) (ty_rm t) (ty_in hu (t.2.2 0) y)).1 = c + (d + 1)
      rw [g.2]; omega
/-- is a raw read due? (MIN, TIME, what it needs, what there is, the idle time) -/
def ty_du (mn tm nd a ie : Int32) : Int32 :=
  if mn = 0 then (if tm = 0 then 1 else if 1 ≤ a then 1 else if ie < tm then 0 else 1)
  else if tm = 0 then (if a < nd then 0 else 1)
  else if nd ≤ a then 1 else if a < 1 then 0 else if ie < tm then 0 else 1
def ty_nd (mn rm : Int32) : Int32 := if rm ≤ mn then rm else mn
def ty_mi (r n : Nat) : Nat := if r ≤ n then r else n
/-- the COMPLETION CHECK: input's head, input, user buffer, pending, last result -/
abbrev TyK : Type := Nat × TyI × TyI × Int32 × Int32
def ty_kd (D : TyD) : TyK := (D.2.1, D.2.2.1, D.2.2.2, 0, nI D.1)
def ty_ck (fl pe la rm ie : Int32) (ct : TyF) (hi hu : Nat) (t y : TyI) : TyK :=
  if pe = 0 then (hi, t, y, pe, la)
  else if fl &&& 1 = 0 then (if ty_du (ct 8) (ct 9) (ty_nd (ct 8) rm) (nI t.1) ie = 0 then (hi, t, y, pe, la) else ty_kd (ty_dr hu (ty_mi rm.toNatClampNeg t.1) 0 hi t y))
  else if ty_an t.2.2 t.1 0 = true then ty_kd (ty_dl hu rm.toNatClampNeg t.1 0 hi t y) else (hi, t, y, pe, la)
/-- the widths of the line's bytes are small -/
def ty_l (lw : TyF) (L : Nat) : Prop := ∀ j, j < L → ∃ w : Nat, w ≤ 15 ∧ lw j = nI w
/-- a pending read has room in the user buffer -/
def ty_p (pe rm : Int32) (y : TyI) : Prop := ¬ pe = 0 → ∃ r : Nat, 1 ≤ r ∧ y.1 + r ≤ 64 ∧ rm = nI r
/-- all that the two states keep, but their fields -/
def ty_C (lc ic oc L hi ho hu hs : Nat) (s : TyO) (t y z : TyI) (pe rm : Int32) (lw : TyF) : Prop :=
  (8 ≤ lc ∧ lc ≤ 32 ∧ 16 ≤ ic ∧ ic ≤ 64 ∧ 32 ≤ oc ∧ oc ≤ 64 ∧ L ≤ lc ∧ t.1 ≤ ic) ∧ ty_o oc ho s ∧ ty_i hi t ∧ ty_i hu y ∧ ty_q 8 z.2.1 z.2.2 hs z.1 ∧ ty_l lw L ∧ ty_p pe rm y
/-- RUB OUT of the line's place j -/
def ty_rl (fl : Int32) (oc ho : Nat) (ln lw : TyF) (j : Nat) (s : TyO) : TyO := ty_rub fl oc ho (ln j) (lw j).toNatClampNeg s
end TP
end
section
section TA
variable {lc ic oc L hi ho hu hs m m' : Nat} {s : TyO} {t y z : TyI} {fl dr st fg ie pe la rm : Int32} {ln lw ct : TyF} {P : SX → Prop} {Q : Int32 → SX → Prop} {U : Int32 → Prop}
theorem ty_e10 (oc ho : Nat) (s : TyO) : ty_e oc ho 10 s = ty_2 oc ho 13 10 s := if_pos rfl
theorem ty_e9 (oc ho : Nat) (s : TyO) : ty_e oc ho 9 s = ty_1 oc ho 9 s := (if_neg (by decide)).trans (if_pos rfl)
theorem ty_eC {oc ho m : Nat} {s : TyO} (h1 : m ≠ 10) (h2 : m ≠ 9) (h3 : m < 32) : ty_e oc ho m s = ty_2 oc ho 94 (m ^^^ 64) s := (if_neg h1).trans ((if_neg h2).trans (if_neg (by omega)))
theorem ty_eD {oc ho m : Nat} {s : TyO} (h : m = 127) : ty_e oc ho m s = ty_2 oc ho 94 (m ^^^ 64) s := (if_neg (by omega)).trans ((if_neg (by omega)).trans ((if_pos (by omega)).trans (if_pos h)))
theorem ty_eP {oc ho m : Nat} {s : TyO} (h1 : 32 ≤ m) (h2 : m ≠ 127) : ty_e oc ho m s = ty_1 oc ho m s := (if_neg (by omega)).trans ((if_neg (by omega)).trans ((if_pos h1).trans (if_neg h2)))
theorem xs_0 {k : Int32} (h : fl &&& k = 0) (p : U 0) : wpX_isSet U (nI lc, nI ic, nI oc, nI L, nI hi, nI t.1, nI ho, nI s.1, nI hu, nI y.1, nI hs, nI z.1, fl, dr, s.2.1, st, fg, ie, pe, la, rm, ln, lw, t.2.1, s.2.2.1, y.2.1, z.2.1, ct) k := br_t h p
theorem xs_1 {k : Int32} (h : ¬ fl &&& k = 0) (p : U 1) : wpX_isSet U (nI lc, nI ic, nI oc, nI L, nI hi, nI t.1, nI ho, nI s.1, nI hu, nI y.1, nI hs, nI z.1, fl, dr, s.2.1, st, fg, ie, pe, la, rm, ln, lw, t.2.1, s.2.2.1, y.2.1, z.2.1, ct) k := br_f h p
theorem xo_app (hm : m < 256) (hh : ho < 64) (hc : s.1 < 64) (h : P (nI lc, nI ic, nI oc, nI L, nI hi, nI t.1, nI ho, nI (ty_put ho m s).1, nI hu, nI y.1, nI hs, nI z.1, fl, dr, (ty_put ho m s).2.1, st, fg, ie, pe, la, rm, ln, lw, t.2.1, (ty_put ho m s).2.2.1, y.2.1, z.2.1, ct)) : wpX_appendOutput P (nI lc, nI ic, nI oc, nI L, nI hi, nI t.1, nI ho, nI s.1, nI hu, nI y.1, nI hs, nI z.1, fl, dr, s.2.1, st, fg, ie, pe, la, rm, ln, lw, t.2.1, s.2.2.1, y.2.1, z.2.1, ct) (nI m) := by
  have K : ∀ c', ty_cf m s.2.1 = c' → P (nI lc, nI ic, nI oc, nI L, nI hi, nI t.1, nI ho, nI (s.1 + 1), nI hu, nI y.1, nI hs, nI z.1, fl, dr, c', st, fg, ie, pe, la, rm, ln, lw, t.2.1, upd s.2.2.1 ((ho + s.1) % 64) (nI m), y.2.1, z.2.1, ct) := fun c' e => by subst e; exact h
  refine ⟨ty_ringI hh (by omega), nm_r (congrArg (fun i => upd s.2.2.1 i (nI m)) (ty_ringC hh (by omega))) (nm_r (nI_1 s.1) ?_)⟩
  refine pk_eq m 8 (fun e => br_c (fun d => K _ ?_) (fun d => nm_e (K _ ?_))) (fun n8 => pk_eq m 9 (fun e => ⟨by decide, nm_e (K _ ?_)⟩) (fun n9 => pk_eq m 10 (fun e => K _ ?_) (fun n10 => pk_eq m 13 (fun e => K _ ?_) (fun n13 => pk_lt m 32 (fun e => K _ ?_) (fun n32 => pk_eq m 127 (fun e => K _ ?_) (fun n127 => nm_e (K _ ?_)))))))
  · subst e; exact (if_pos rfl).trans (if_pos d)
  · subst e; exact (if_pos rfl).trans (if_neg d)
  · subst e; exact (if_neg (by decide)).trans (if_pos rfl)
  · subst e; exact (if_neg (by decide)).trans ((if_neg (by decide)).trans (if_pos rfl))
  · subst e; exact (if_neg (by decide)).trans ((if_neg (by decide)).trans ((if_neg (by decide)).trans (if_pos rfl)))
  · exact (if_neg n8).trans ((if_neg n9).trans ((if_neg n10).trans ((if_neg n13).trans (if_neg (by omega)))))
  · exact (if_neg n8).trans ((if_neg n9).trans ((if_neg n10).trans ((if_neg n13).trans ((if_pos n32).trans (if_pos e)))))
  · exact (if_neg n8).trans ((if_neg n9).trans ((if_neg n10).trans ((if_neg n13).trans ((if_pos n32).trans (if_neg n127)))))
theorem xo_1 (hm : m < 256) (hh : ho < 64) (hq : s.1 ≤ oc) (hc : oc ≤ 64) (h : Q (ty_b1 oc s) (nI lc, nI ic, nI oc, nI L, nI hi, nI t.1, nI ho, nI (ty_1 oc ho m s).1, nI hu, nI y.1, nI hs, nI z.1, fl, dr, (ty_1 oc ho m s).2.1, st, fg, ie, pe, la, rm, ln, lw, t.2.1, (ty_1 oc ho m s).2.2.1, y.2.1, z.2.1, ct)) : wpX_putSingle Q (nI lc, nI ic, nI oc, nI L, nI hi, nI t.1, nI ho, nI s.1, nI hu, nI y.1, nI hs, nI z.1, fl, dr, s.2.1, st, fg, ie, pe, la, rm, ln, lw, t.2.1, s.2.2.1, y.2.1, z.2.1, ct) (nI m) := by
  unfold ty_b1 ty_1 at h
  by_cases c : s.1 + 1 ≤ oc
  · simp only [if_pos c] at h
    exact pk_le 1 (oc - s.1) (fun _ => xo_app hm hh (by omega) h) (fun e => absurd e (by omega)) (hy := pk_sub hq)
  · simp only [if_neg c] at h
    exact pk_le 1 (oc - s.1) (fun e => absurd e (by omega)) (fun _ => h) (hy := pk_sub hq)
theorem xo_2 (hm : m < 256) (hm' : m' < 256) (hh : ho < 64) (hq : s.1 ≤ oc) (hc : oc ≤ 64) (h : Q (ty_b2 oc s) (nI lc, nI ic, nI oc, nI L, nI hi, nI t.1, nI ho, nI (ty_2 oc ho m m' s).1, nI hu, nI y.1, nI hs, nI z.1, fl, dr, (ty_2 oc ho m m' s).2.1, st, fg, ie, pe, la, rm, ln, lw, t.2.1, (ty_2 oc ho m m' s).2.2.1, y.2.1, z.2.1, ct)) : wpX_putPair Q (nI lc, nI ic, nI oc, nI L, nI hi, nI t.1, nI ho, nI s.1, nI hu, nI y.1, nI hs, nI z.1, fl, dr, s.2.1, st, fg, ie, pe, la, rm, ln, lw, t.2.1, s.2.2.1, y.2.1, z.2.1, ct) (nI m) (nI m') := by
  unfold ty_b2 ty_2 at h
  by_cases c : s.1 + 2 ≤ oc
  · simp only [if_pos c] at h
    exact pk_le 2 (oc - s.1) (fun _ => xo_app hm hh (by omega) (xo_app (s := ty_put ho m s) hm' hh (by show s.1 + 1 < 64; omega) h)) (fun e => absurd e (by omega)) (hy := pk_sub hq)
  · simp only [if_neg c] at h
    exact pk_le 2 (oc - s.1) (fun e => absurd e (by omega)) (fun _ => h) (hy := pk_sub hq)
theorem xo_echo (hm : m < 256) (hh : ho < 64) (hq : s.1 ≤ oc) (hc : oc ≤ 64) (h : Q ((ty_echo fl oc ho m s).2.1 - s.2.1) (nI lc, nI ic, nI oc, nI L, nI hi, nI t.1, nI ho, nI (ty_echo fl oc ho m s).1, nI hu, nI y.1, nI hs, nI z.1, fl, dr, (ty_echo fl oc ho m s).2.1, st, fg, ie, pe, la, rm, ln, lw, t.2.1, (ty_echo fl oc ho m s).2.2.1, y.2.1, z.2.1, ct)) : wpX_echoByte Q (nI lc, nI ic, nI oc, nI L, nI hi, nI t.1, nI ho, nI s.1, nI hu, nI y.1, nI hs, nI z.1, fl, dr, s.2.1, st, fg, ie, pe, la, rm, ln, lw, t.2.1, s.2.2.1, y.2.1, z.2.1, ct) (nI m) := by
  unfold ty_echo at h
  unfold wpX_echoByte
  by_cases c : fl &&& 2 = 0
  · simp only [if_pos c, Int32.sub_self] at h
    refine xs_0 c ?_
    exact br_t rfl h
  · simp only [if_neg c] at h
    refine xs_1 c ?_
    refine br_f (by decide) ?_
    refine pk_eq m 10 (fun e => ?_) (fun n10 => pk_eq m 9 (fun e => ?_) (fun n9 => pk_lt m 32 (fun e => ?_) (fun n32 => pk_eq m 127 (fun e => ?_) (fun n127 => ?_))))
    · subst e; rw [ty_e10] at h; exact xo_2 (m := 13) (m' := 10) (by omega) (by omega) hh hq hc h
    · subst e; rw [ty_e9] at h; exact xo_1 (m := 9) (by omega) hh hq hc h
    · rw [ty_eC n10 n9 e] at h
      have x := ty_xr m (by omega) (Or.inl e)
      unfold wX_echoByte_60
      rw [ty_xor]
      exact xo_2 (m := 94) (m' := m ^^^ 64) (by omega) (by omega) hh hq hc h
    · rw [ty_eD e] at h
      have x := ty_xr m (by omega) (Or.inr e)
      unfold wX_echoByte_60
      rw [ty_xor]
      exact xo_2 (m := 94) (m' := m ^^^ 64) (by omega) (by omega) hh hq hc h
    · rw [ty_eP n32 n127] at h; exact xo_1 hm hh hq hc h
theorem xo_bs {e x3 : Int32} {w0 : Nat} (hx : x3 = 0 ↔ e = 9) (hh : ho < 64) (hc : oc ≤ 64) (hw : w0 ≤ 15) : ∀ (w i n : Nat) (s : TyO), i + w = w0 → w < n → (if e = 9 then w else w * 3) + s.1 ≤ oc → P (nI lc, nI ic, nI oc, nI L, nI hi, nI t.1, nI ho, nI (ty_bs ho e w s).1, nI hu, nI y.1, nI hs, nI z.1, fl, dr, (ty_bs ho e w s).2.1, st, fg, ie, pe, la, rm, ln, lw, t.2.1, (ty_bs ho e w s).2.2.1, y.2.1, z.2.1, ct) → wX_rubOut_60 P (nI w0) x3 n (nI i) (nI lc) (nI ic) (nI oc) (nI L) (nI hi) (nI t.1) (nI ho) (nI s.1) (nI hu) (nI y.1) (nI hs) (nI z.1) fl dr s.2.1 st fg ie pe la rm ln lw t.2.1 s.2.2.1 y.2.1 z.2.1 ct := by
  intro w
  induction w with
  | zero =>
    intro i n s hi hn hr h
    obtain ⟨n, rfl⟩ : ∃ k, n = k + 1 := ⟨n - 1, by omega⟩
    exact pk_le w0 i (fun _ => h) (fun e => absurd e (by omega))
  | succ w ih =>
    intro i n s hi hn hr h
    obtain ⟨n, rfl⟩ : ∃ k, n = k + 1 := ⟨n - 1, by omega⟩
    refine pk_le w0 i (fun e => absurd e (by omega)) (fun _ => ?_)
    by_cases c : e = 9
    · rw [if_pos c] at hr
      have e1 : ty_bs ho e (w + 1) s = ty_bs ho e w (ty_put ho 8 s) := congrArg (ty_bs ho e w) (if_pos c)
      rw [e1] at h
      exact xo_app (m := 8) (by omega) hh (by omega) (br_t (hx.mpr c) (nm_r (nI_1 i) (ih (i + 1) n (ty_put ho 8 s) (by omega) (by omega) (by rw [if_pos c]; show w + (s.1 + 1) ≤ oc; omega) h)))
    · rw [if_neg c] at hr
      have e1 : ty_bs ho e (w + 1) s = ty_bs ho e w (ty_put ho 8 (ty_put ho 32 (ty_put ho 8 s))) := congrArg (ty_bs ho e w) (if_neg c)
      rw [e1] at h
      exact xo_app (m := 8) (by omega) hh (by omega) (br_f (fun k => c (hx.mp k)) (xo_app (m := 32) (s := ty_put ho 8 s) (by omega) hh (by show s.1 + 1 < 64; omega) (xo_app (m := 8) (s := ty_put ho 32 (ty_put ho 8 s)) (by omega) hh (by show s.1 + 1 + 1 < 64; omega) (nm_r (nI_1 i) (ih (i + 1) n _ (by omega) (by omega) (by rw [if_neg c]; show w * 3 + (s.1 + 1 + 1 + 1) ≤ oc; omega) h)))))
theorem xo_rub {e : Int32} {w : Nat} (hw : w ≤ 15) (hh : ho < 64) (hq : s.1 ≤ oc) (hc : oc ≤ 64) (h : P (nI lc, nI ic, nI oc, nI L, nI hi, nI t.1, nI ho, nI (ty_rub fl oc ho e w s).1, nI hu, nI y.1, nI hs, nI z.1, fl, dr, (ty_rub fl oc ho e w s).2.1, st, fg, ie, pe, la, rm, ln, lw, t.2.1, (ty_rub fl oc ho e w s).2.2.1, y.2.1, z.2.1, ct)) : wpX_rubOut P (nI lc, nI ic, nI oc, nI L, nI hi, nI t.1, nI ho, nI s.1, nI hu, nI y.1, nI hs, nI z.1, fl, dr, s.2.1, st, fg, ie, pe, la, rm, ln, lw, t.2.1, s.2.2.1, y.2.1, z.2.1, ct) e (nI w) := by
  unfold ty_rub at h
  unfold wpX_rubOut
  by_cases c : fl &&& 2 = 0
  · simp only [if_pos c] at h
    refine xs_0 c ?_
    exact br_t rfl h
  · simp only [if_neg c] at h
    refine xs_1 c ?_
    refine br_f (by decide) ?_
    by_cases d : fl &&& 4 = 0
    · simp only [if_pos d] at h
      refine xs_0 d ?_
      exact br_t rfl h
    · simp only [if_neg d] at h
      refine xs_1 d ?_
      refine br_f (by decide) ?_
      by_cases e9 : e = 9
      · simp only [if_pos e9] at h
        refine br_t e9 (br_t rfl ?_)
        by_cases r : w + s.1 ≤ oc
        · simp only [if_pos r] at h
          exact pk_le w (oc - s.1) (fun _ => ⟨w + 1, xo_bs (e := e) (by simp [e9]) hh hc hw w 0 (w + 1) s (by omega) (by omega) (by rw [if_pos e9]; exact r) h⟩) (fun e => absurd e (by omega)) (hy := pk_sub hq)
        · simp only [if_neg r] at h
          exact pk_le w (oc - s.1) (fun e => absurd e (by omega)) (fun _ => h) (hy := pk_sub hq)
      · simp only [if_neg e9] at h
        refine br_f e9 (br_f (by decide) ?_)
        by_cases r : w * 3 + s.1 ≤ oc
        · simp only [if_pos r] at h
          exact pk_le (w * 3) (oc - s.1) (fun _ => ⟨w + 1, xo_bs (e := e) (by simp [e9]) hh hc hw w 0 (w + 1) s (by omega) (by omega) (by rw [if_neg e9]; exact r) h⟩) (fun e => absurd e (by omega)) (hx := pk_mul w 3) (hy := pk_sub hq)
        · simp only [if_neg r] at h
          exact pk_le (w * 3) (oc - s.1) (fun e => absurd e (by omega)) (fun _ => h) (hx := pk_mul w 3) (hy := pk_sub hq)
theorem ty_m1 (x : Int32) : x + (-1) = x - 1 := (Int32.sub_eq_add_neg x 1).symm
theorem ty_m1lt {n : Nat} (h : n < 2 ^ 31) : nI n - 1 < nI n := by
  cases n with
  | zero => decide
  | succ n => rw [nI_pred]; exact nI_lt (by omega) h
theorem ty_rlE {j w : Nat} (ew : lw j = nI w) (hw : w ≤ 15) : ty_rl fl oc ho ln lw j s = ty_rub fl oc ho (ln j) w s := by
  unfold ty_rl; rw [ew, nI_clamp (by omega)]
theorem ty_oRl {j : Nat} (h : ty_o oc ho s) (hc : oc ≤ 64) : ty_o oc ho (ty_rl fl oc ho ln lw j s) := ty_oRub h hc
theorem xo_cutL {len : Nat} (hl : ty_l lw L) (hL : L ≤ 32) (hh : ho < 64) (hc : oc ≤ 64) : ∀ (j n : Nat) (s : TyO), len ≤ j → j ≤ L → j < n + len → ty_o oc ho s → P (nI lc, nI ic, nI oc, nI len, nI hi, nI t.1, nI ho, nI (ty_cut (ty_rl fl oc ho ln lw) len j s).1, nI hu, nI y.1, nI hs, nI z.1, fl, dr, (ty_cut (ty_rl fl oc ho ln lw) len j s).2.1, st, fg, ie, pe, la, rm, ln, lw, t.2.1, (ty_cut (ty_rl fl oc ho ln lw) len j s).2.2.1, y.2.1, z.2.1, ct) → wX_cutLine_7 P (nI len) n (nI j - 1) (nI lc) (nI ic) (nI oc) (nI L) (nI hi) (nI t.1) (nI ho) (nI s.1) (nI hu) (nI y.1) (nI hs) (nI z.1) fl dr s.2.1 st fg ie pe la rm ln lw t.2.1 s.2.2.1 y.2.1 z.2.1 ct := by
  intro j
  induction j with
  | zero =>
    intro n s h1 h2 h3 ok h
    obtain ⟨n, rfl⟩ : ∃ k, n = k + 1 := ⟨n - 1, by omega⟩
    obtain rfl : len = 0 := by omega
    exact br_t (ty_m1lt (by omega)) h
  | succ j ih =>
    intro n s h1 h2 h3 ok h
    obtain ⟨n, rfl⟩ : ∃ k, n = k + 1 := ⟨n - 1, by omega⟩
    by_cases c : len = j + 1
    · subst c
      rw [ty_cutE] at h
      exact br_t (ty_m1lt (by omega)) h
    · rw [ty_cutS _ _ (show len ≤ j by omega)] at h
      obtain ⟨w, hw, ew⟩ := hl j (by omega)
      rw [ty_rlE ew hw] at h
      rw [nI_pred]
      refine pk_lt j len (fun e => absurd e (by omega)) (fun _ => ⟨vp_in_nI (by omega) (by omega), vp_in_nI (by omega) (by omega), ?_⟩)
      rw [nI_clamp (n := j) (by omega), ew]
      exact xo_rub hw hh ok.1 hc (nm_r (ty_m1 (nI j)) (ih n _ (by omega) (by omega) (by omega) (ty_oRub ok hc) h))
theorem xo_cut {len : Nat} (hl : ty_l lw L) (hL : L ≤ 32) (hh : ho < 64) (hc : oc ≤ 64) (ok : ty_o oc ho s) (h1 : len ≤ L) (h : P (nI lc, nI ic, nI oc, nI len, nI hi, nI t.1, nI ho, nI (ty_cut (ty_rl fl oc ho ln lw) len L s).1, nI hu, nI y.1, nI hs, nI z.1, fl, dr, (ty_cut (ty_rl fl oc ho ln lw) len L s).2.1, st, fg, ie, pe, la, rm, ln, lw, t.2.1, (ty_cut (ty_rl fl oc ho ln lw) len L s).2.2.1, y.2.1, z.2.1, ct)) : wpX_cutLine P (nI lc, nI ic, nI oc, nI L, nI hi, nI t.1, nI ho, nI s.1, nI hu, nI y.1, nI hs, nI z.1, fl, dr, s.2.1, st, fg, ie, pe, la, rm, ln, lw, t.2.1, s.2.2.1, y.2.1, z.2.1, ct) (nI len) :=
  nm_e ⟨L + 1, xo_cutL hl hL hh hc L (L + 1) s h1 (Nat.le_refl L) (by omega) ok h⟩
end TA
end
section
section TB
variable {lc ic oc L hi ho hu hs m m' : Nat} {s : TyO} {t y z : TyI} {fl dr st fg ie pe la rm : Int32} {ln lw ct : TyF} {P : SX → Prop} {Q : Int32 → SX → Prop} {U : Int32 → Prop}
/-- a blank -/
def ty_bl (x : Int32) : Bool := if x = 32 then true else if x = 9 then true else false
theorem ty_bl1 {x : Int32} (h : ty_bl x = true) : x = 32 ∨ x = 9 := by
  unfold ty_bl at h
  by_cases a : x = 32
  · exact Or.inl a
  · by_cases b : x = 9
    · exact Or.inr b
    · rw [if_neg a, if_neg b] at h; exact absurd h (by decide)
theorem ty_bl0 {x : Int32} (h : ¬ ty_bl x = true) : ¬ x = 32 ∧ ¬ x = 9 := by
  refine ⟨fun a => h (if_pos a), fun b => h ?_⟩
  by_cases a : x = 32
  · exact if_pos a
  · exact (if_neg a).trans (if_pos b)
/-- where the blanks at the line's end begin, and where the word ahead of them -/
def ty_wb (ln : TyF) (L : Nat) : Nat := ty_ws (fun j => ty_bl (ln j)) L
def ty_ww (ln : TyF) (L : Nat) : Nat := ty_ws (fun j => !ty_bl (ln j)) L
theorem ty_wbS {ln : TyF} {j : Nat} (h : ty_bl (ln j) = true) : ty_wb ln (j + 1) = ty_wb ln j := if_pos h
theorem ty_wbE {ln : TyF} {j : Nat} (h : ¬ ty_bl (ln j) = true) : ty_wb ln (j + 1) = j + 1 := if_neg h
theorem ty_wwS {ln : TyF} {j : Nat} (h : ¬ ty_bl (ln j) = true) : ty_ww ln (j + 1) = ty_ww ln j := if_pos (by simp at h; simp [h])
theorem ty_wwE {ln : TyF} {j : Nat} (h : ty_bl (ln j) = true) : ty_ww ln (j + 1) = j + 1 := if_neg (by simp [h])
theorem ty_wble (ln : TyF) (j : Nat) : ty_wb ln j ≤ j := ty_wsle _ j
theorem ty_wwle (ln : TyF) (j : Nat) : ty_ww ln j ≤ j := ty_wsle _ j
theorem xb_1 {x : Int32} (h : ty_bl x = true) (p : U 1) : wpX_isBlank U x := by
  by_cases a : x = 32
  · exact br_t a p
  · rcases ty_bl1 h with b | b
    · exact absurd b a
    · exact br_f a (br_t b p)
theorem xb_0 {x : Int32} (h : ¬ ty_bl x = true) (p : U 0) : wpX_isBlank U x := br_f (ty_bl0 h).1 (br_f (ty_bl0 h).2 p)
theorem xw_29 : ∀ (j n : Nat), j < n → j ≤ 32 → U (nI (ty_ww ln j)) → wX_lastWordStart_29 U (nI lc) (nI ic) (nI oc) (nI L) (nI hi) (nI t.1) (nI ho) (nI s.1) (nI hu) (nI y.1) (nI hs) (nI z.1) fl dr s.2.1 st fg ie pe la rm ln lw t.2.1 s.2.2.1 y.2.1 z.2.1 ct n (nI j) := by
  intro j
  induction j with
  | zero =>
    intro n hn _ h
    obtain ⟨n, rfl⟩ : ∃ k, n = k + 1 := ⟨n - 1, by omega⟩
    exact pk_le 0 0 (fun _ => h) (fun e => absurd e (by omega))
  | succ j ih =>
    intro n hn h32 h
    obtain ⟨n, rfl⟩ : ∃ k, n = k + 1 := ⟨n - 1, by omega⟩
    refine pk_le (j + 1) 0 (fun e => absurd e (by omega)) (fun _ => ?_)
    rw [nI_pred]
    refine ⟨vp_in_nI (by omega) (by omega), ?_⟩
    rw [nI_clamp (n := j) (by omega)]
    by_cases c : ty_bl (ln j) = true
    · rw [ty_wwE c] at h
      exact xb_1 c (br_f (by decide) h)
    · rw [ty_wwS c] at h
      exact xb_0 c (br_t rfl (nm_r (pk_m1 j) (ih n (by omega) (by omega) h)))
theorem xw_5 : ∀ (j n : Nat), j < n → j ≤ 32 → U (nI (ty_ww ln (ty_wb ln j))) → wX_lastWordStart_5 U (nI lc) (nI ic) (nI oc) (nI L) (nI hi) (nI t.1) (nI ho) (nI s.1) (nI hu) (nI y.1) (nI hs) (nI z.1) fl dr s.2.1 st fg ie pe la rm ln lw t.2.1 s.2.2.1 y.2.1 z.2.1 ct n (nI j) := by
  intro j
  induction j with
  | zero =>
    intro n hn _ h
    obtain ⟨n, rfl⟩ : ∃ k, n = k + 1 := ⟨n - 1, by omega⟩
    exact pk_le 0 0 (fun _ => ⟨1, xw_29 0 1 (by omega) (by omega) h⟩) (fun e => absurd e (by omega))
  | succ j ih =>
    intro n hn h32 h
    obtain ⟨n, rfl⟩ : ∃ k, n = k + 1 := ⟨n - 1, by omega⟩
    refine pk_le (j + 1) 0 (fun e => absurd e (by omega)) (fun _ => ?_)
    rw [nI_pred]
    refine ⟨vp_in_nI (by omega) (by omega), ?_⟩
    rw [nI_clamp (n := j) (by omega)]
    by_cases c : ty_bl (ln j) = true
    · rw [ty_wbS c] at h
      exact xb_1 c (br_f (by decide) (nm_r (pk_m1 j) (ih n (by omega) (by omega) h)))
    · rw [ty_wbE c] at h
      exact xb_0 c (br_t rfl ⟨j + 2, xw_29 (j + 1) (j + 2) (by omega) (by omega) h⟩)
theorem xw_start (hL : L ≤ 32) (h : U (nI (ty_ww ln (ty_wb ln L)))) : wpX_lastWordStart U (nI lc, nI ic, nI oc, nI L, nI hi, nI t.1, nI ho, nI s.1, nI hu, nI y.1, nI hs, nI z.1, fl, dr, s.2.1, st, fg, ie, pe, la, rm, ln, lw, t.2.1, s.2.2.1, y.2.1, z.2.1, ct) := ⟨L + 1, xw_5 L (L + 1) (by omega) hL h⟩
/-- the echo behind an edit: only without ECHOE -/
def ty_ee (fl : Int32) (oc ho m : Nat) (s : TyO) : TyO := if fl &&& 4 = 0 then ty_echo fl oc ho m s else s
def ty_ek (fl : Int32) (oc ho m : Nat) (s : TyO) : TyO := if fl &&& 4 = 0 then ty_echo fl oc ho 10 (ty_echo fl oc ho m s) else s
theorem ty_oEe {oc ho m : Nat} {s : TyO} {fl : Int32} (h : ty_o oc ho s) (hc : oc ≤ 64) : ty_o oc ho (ty_ee fl oc ho m s) := by
  unfold ty_ee; split
  · exact ty_oEcho h hc
  · exact h
theorem ty_oEk {oc ho m : Nat} {s : TyO} {fl : Int32} (h : ty_o oc ho s) (hc : oc ≤ 64) : ty_o oc ho (ty_ek fl oc ho m s) := by
  unfold ty_ek; split
  · exact ty_oEcho (ty_oEcho h hc) hc
  · exact h
theorem ty_oCl {len : Nat} (ok : ty_o oc ho s) (hc : oc ≤ 64) : ty_o oc ho (ty_cut (ty_rl fl oc ho ln lw) len L s) := ty_oCut (fun _ _ h => ty_oRl h hc) L s ok
theorem xe_last {l : Nat} (hm : m < 256) (hl : ty_l lw (l + 1)) (hL : l + 1 ≤ 32) (hh : ho < 64) (hc : oc ≤ 64) (ok : ty_o oc ho s) (h : P (nI lc, nI ic, nI oc, nI l, nI hi, nI t.1, nI ho, nI (ty_ee fl oc ho m (ty_cut (ty_rl fl oc ho ln lw) l (l + 1) s)).1, nI hu, nI y.1, nI hs, nI z.1, fl, dr, (ty_ee fl oc ho m (ty_cut (ty_rl fl oc ho ln lw) l (l + 1) s)).2.1, st, fg, ie, pe, la, rm, ln, lw, t.2.1, (ty_ee fl oc ho m (ty_cut (ty_rl fl oc ho ln lw) l (l + 1) s)).2.2.1, y.2.1, z.2.1, ct)) : wpX_eraseLast P (nI lc, nI ic, nI oc, nI (l + 1), nI hi, nI t.1, nI ho, nI s.1, nI hu, nI y.1, nI hs, nI z.1, fl, dr, s.2.1, st, fg, ie, pe, la, rm, ln, lw, t.2.1, s.2.2.1, y.2.1, z.2.1, ct) (nI m) := by
  refine br_f (nI_ne0 (by omega) (by omega)) ?_
  rw [nI_pred]
  refine xo_cut hl hL hh hc ok (by omega) ?_
  unfold ty_ee at h
  have ok' : ty_o oc ho (ty_cut (ty_rl fl oc ho ln lw) l (l + 1) s) := ty_oCl ok hc
  by_cases c : fl &&& 4 = 0
  · simp only [if_pos c] at h
    refine xs_0 c ?_
    refine br_t rfl ?_
    exact xo_echo hm hh ok'.1 hc h
  · simp only [if_neg c] at h
    refine xs_1 c ?_
    exact br_f (by decide) h
theorem xe_word {l : Nat} (hm : m < 256) (hl : ty_l lw (l + 1)) (hL : l + 1 ≤ 32) (hh : ho < 64) (hc : oc ≤ 64) (ok : ty_o oc ho s) (h : P (nI lc, nI ic, nI oc, nI (ty_ww ln (ty_wb ln (l + 1))), nI hi, nI t.1, nI ho, nI (ty_ee fl oc ho m (ty_cut (ty_rl fl oc ho ln lw) (ty_ww ln (ty_wb ln (l + 1))) (l + 1) s)).1, nI hu, nI y.1, nI hs, nI z.1, fl, dr, (ty_ee fl oc ho m (ty_cut (ty_rl fl oc ho ln lw) (ty_ww ln (ty_wb ln (l + 1))) (l + 1) s)).2.1, st, fg, ie, pe, la, rm, ln, lw, t.2.1, (ty_ee fl oc ho m (ty_cut (ty_rl fl oc ho ln lw) (ty_ww ln (ty_wb ln (l + 1))) (l + 1) s)).2.2.1, y.2.1, z.2.1, ct)) : wpX_eraseWord P (nI lc, nI ic, nI oc, nI (l + 1), nI hi, nI t.1, nI ho, nI s.1, nI hu, nI y.1, nI hs, nI z.1, fl, dr, s.2.1, st, fg, ie, pe, la, rm, ln, lw, t.2.1, s.2.2.1, y.2.1, z.2.1, ct) (nI m) := by
  refine br_f (nI_ne0 (by omega) (by omega)) ?_
  refine xw_start hL ?_
  refine xo_cut hl hL hh hc ok (Nat.le_trans (ty_wwle _ _) (ty_wble _ _)) ?_
  unfold ty_ee at h
  have ok' : ty_o oc ho (ty_cut (ty_rl fl oc ho ln lw) (ty_ww ln (ty_wb ln (l + 1))) (l + 1) s) := ty_oCl ok hc
  by_cases c : fl &&& 4 = 0
  · simp only [if_pos c] at h
    refine xs_0 c ?_
    refine br_t rfl ?_
    exact xo_echo hm hh ok'.1 hc h
  · simp only [if_neg c] at h
    refine xs_1 c ?_
    exact br_f (by decide) h
theorem xe_kill {l : Nat} (hm : m < 256) (hl : ty_l lw (l + 1)) (hL : l + 1 ≤ 32) (hh : ho < 64) (hc : oc ≤ 64) (ok : ty_o oc ho s) (h : P (nI lc, nI ic, nI oc, nI 0, nI hi, nI t.1, nI ho, nI (ty_ek fl oc ho m (ty_cut (ty_rl fl oc ho ln lw) 0 (l + 1) s)).1, nI hu, nI y.1, nI hs, nI z.1, fl, dr, (ty_ek fl oc ho m (ty_cut (ty_rl fl oc ho ln lw) 0 (l + 1) s)).2.1, st, fg, ie, pe, la, rm, ln, lw, t.2.1, (ty_ek fl oc ho m (ty_cut (ty_rl fl oc ho ln lw) 0 (l + 1) s)).2.2.1, y.2.1, z.2.1, ct)) : wpX_killLine P (nI lc, nI ic, nI oc, nI (l + 1), nI hi, nI t.1, nI ho, nI s.1, nI hu, nI y.1, nI hs, nI z.1, fl, dr, s.2.1, st, fg, ie, pe, la, rm, ln, lw, t.2.1, s.2.2.1, y.2.1, z.2.1, ct) (nI m) := by
  refine br_f (nI_ne0 (by omega) (by omega)) ?_
  refine xo_cut (len := 0) hl hL hh hc ok (by omega) ?_
  unfold ty_ek at h
  have ok' : ty_o oc ho (ty_cut (ty_rl fl oc ho ln lw) 0 (l + 1) s) := ty_oCl ok hc
  by_cases c : fl &&& 4 = 0
  · simp only [if_pos c] at h
    refine xs_0 c ?_
    refine br_t rfl ?_
    refine xo_echo hm hh ok'.1 hc ?_
    exact xo_echo (m := 10) (by omega) hh (ty_oEcho ok' hc).1 hc h
  · simp only [if_neg c] at h
    refine xs_1 c ?_
    exact br_f (by decide) h
theorem xi_app {x : Int32} (hh : hi < 64) (hn : t.1 ≤ 64) (h : P (nI lc, nI ic, nI oc, nI L, nI hi, nI (ty_in hi x t).1, nI ho, nI s.1, nI hu, nI y.1, nI hs, nI z.1, fl, dr, s.2.1, st, fg, ie, pe, la, rm, ln, lw, (ty_in hi x t).2.1, s.2.2.1, y.2.1, z.2.1, ct)) : wpX_appendInput P (nI lc, nI ic, nI oc, nI L, nI hi, nI t.1, nI ho, nI s.1, nI hu, nI y.1, nI hs, nI z.1, fl, dr, s.2.1, st, fg, ie, pe, la, rm, ln, lw, t.2.1, s.2.2.1, y.2.1, z.2.1, ct) x :=
  ⟨ty_ringI hh hn, nm_r (congrArg (fun i => upd t.2.1 i x) (ty_ringC hh hn)) (nm_r (nI_1 t.1) h)⟩
theorem xi_passL {x : Int32} (hh : hi < 64) (hL : L ≤ 32) : ∀ (d k n : Nat) (t : TyI), k + d = L → d < n → t.1 + d ≤ 64 → P (nI lc, nI ic, nI oc, nI 0, nI hi, nI (ty_in hi x (ty_pl hi ln d k t)).1, nI ho, nI s.1, nI hu, nI y.1, nI hs, nI z.1, fl, dr, s.2.1, st, fg, ie, pe, la, rm, ln, lw, (ty_in hi x (ty_pl hi ln d k t)).2.1, s.2.2.1, y.2.1, z.2.1, ct) → wX_passLine_2 P x n (nI k) (nI lc) (nI ic) (nI oc) (nI L) (nI hi) (nI t.1) (nI ho) (nI s.1) (nI hu) (nI y.1) (nI hs) (nI z.1) fl dr s.2.1 st fg ie pe la rm ln lw t.2.1 s.2.2.1 y.2.1 z.2.1 ct := by
  intro d
  induction d with
  | zero =>
    intro k n t hk hn ht h
    obtain ⟨n, rfl⟩ : ∃ k, n = k + 1 := ⟨n - 1, by omega⟩
    exact pk_le L k (fun _ => xi_app hh (by omega) h) (fun e => absurd e (by omega))
  | succ d ih =>
    intro k n t hk hn ht h
    obtain ⟨n, rfl⟩ : ∃ k, n = k + 1 := ⟨n - 1, by omega⟩
    refine pk_le L k (fun e => absurd e (by omega)) (fun _ => ⟨vp_in_nI (by omega) (by omega), ?_⟩)
    rw [nI_clamp (n := k) (by omega)]
    exact xi_app hh (by omega) (nm_r (nI_1 k) (ih (k + 1) n (ty_in hi (ln k) t) (by omega) (by omega) (by show t.1 + 1 + d ≤ 64; omega) h))
theorem xi_pass {x : Int32} (hh : hi < 64) (hL : L ≤ 32) (ht : t.1 + L ≤ 64) (h : P (nI lc, nI ic, nI oc, nI 0, nI hi, nI (ty_in hi x (ty_pl hi ln L 0 t)).1, nI ho, nI s.1, nI hu, nI y.1, nI hs, nI z.1, fl, dr, s.2.1, st, fg, ie, pe, la, rm, ln, lw, (ty_in hi x (ty_pl hi ln L 0 t)).2.1, s.2.2.1, y.2.1, z.2.1, ct)) : wpX_passLine P (nI lc, nI ic, nI oc, nI L, nI hi, nI t.1, nI ho, nI s.1, nI hu, nI y.1, nI hs, nI z.1, fl, dr, s.2.1, st, fg, ie, pe, la, rm, ln, lw, t.2.1, s.2.2.1, y.2.1, z.2.1, ct) x :=
  ⟨L + 1, xi_passL hh hL L 0 (L + 1) t (by omega) (by omega) ht h⟩
end TB
end
section
section TC
variable {lc ic oc L hi ho hu hs m m' : Nat} {s : TyO} {t y z : TyI} {fl dr st fg ie pe la rm : Int32} {ln lw ct : TyF} {P : SX → Prop} {Q : Int32 → SX → Prop} {U : Int32 → Prop}
theorem ty_at {i : Nat} (q : ty_i hi t) (h : i < t.1) : t.2.1 ((nI hi + nI i) &&& 63).toNatClampNeg = t.2.2 i := by
  rw [ty_ringC q.1 (by have := q.2.1; omega)]; exact q.2.2 i h
theorem ty_pred {n : Nat} (h : 0 < n) : nI n - 1 = nI (n - 1) := by
  obtain ⟨k, rfl⟩ : ∃ k, n = k + 1 := ⟨n - 1, by omega⟩
  exact nI_pred k
/-! the input's bytes counted -/
theorem xn_cntL (q : ty_i hi t) : ∀ (d i n c : Nat), i + d = t.1 → d < n → U (nI (c + ty_cn t.2.2 d i)) → wX_countInputBytes_4 U (nI lc) (nI ic) (nI oc) (nI L) (nI hi) (nI t.1) (nI ho) (nI s.1) (nI hu) (nI y.1) (nI hs) (nI z.1) fl dr s.2.1 st fg ie pe la rm ln lw t.2.1 s.2.2.1 y.2.1 z.2.1 ct n (nI c) (nI i) := by
  have q1 := q.1
  have q2 := q.2.1
  intro d
  induction d with
  | zero =>
    intro i n c hi' hn h
    obtain ⟨n, rfl⟩ : ∃ k, n = k + 1 := ⟨n - 1, by omega⟩
    exact pk_le t.1 i (fun _ => h) (fun e => absurd e (by omega))
  | succ d ih =>
    intro i n c hi' hn h
    obtain ⟨n, rfl⟩ : ∃ k, n = k + 1 := ⟨n - 1, by omega⟩
    refine pk_le t.1 i (fun e => absurd e (by omega)) (fun _ => ⟨ty_ringI q.1 (by omega), ?_⟩)
    rw [ty_at q (by omega)]
    by_cases e : t.2.2 i = 256
    · have e1 : c + ty_cn t.2.2 (d + 1) i = c + ty_cn t.2.2 d (i + 1) := by
        show c + ((if t.2.2 i = 256 then 0 else 1) + ty_cn t.2.2 d (i + 1)) = _
        rw [if_pos e]; omega
      rw [e1] at h
      exact br_t e (nm_r (nI_1 i) (ih (i + 1) n c (by omega) (by omega) h))
    · have e1 : c + ty_cn t.2.2 (d + 1) i = (c + 1) + ty_cn t.2.2 d (i + 1) := by
        show c + ((if t.2.2 i = 256 then 0 else 1) + ty_cn t.2.2 d (i + 1)) = _
        rw [if_neg e]; omega
      rw [e1] at h
      exact br_f e (nm_r (nI_1 c) (nm_r (nI_1 i) (ih (i + 1) n (c + 1) (by omega) (by omega) h)))
theorem xn_cnt (q : ty_i hi t) (h : U (nI (ty_cn t.2.2 t.1 0))) : wpX_countInputBytes U (nI lc, nI ic, nI oc, nI L, nI hi, nI t.1, nI ho, nI s.1, nI hu, nI y.1, nI hs, nI z.1, fl, dr, s.2.1, st, fg, ie, pe, la, rm, ln, lw, t.2.1, s.2.2.1, y.2.1, z.2.1, ct) :=
  ⟨t.1 + 1, xn_cntL q t.1 0 (t.1 + 1) 0 (by omega) (by omega) (by rw [Nat.zero_add]; exact h)⟩
/-! the marks taken out -/
theorem xf_rmL {N : Nat} : ∀ (d i n : Nat) (t : TyI), i + d = N → d < n → ty_f t.2.1 t.2.2 hi t.1 i N → P (nI lc, nI ic, nI oc, nI L, nI hi, nI (ty_fl hi d i t).1, nI ho, nI s.1, nI hu, nI y.1, nI hs, nI z.1, fl, dr, s.2.1, st, fg, ie, pe, la, rm, ln, lw, (ty_fl hi d i t).2.1, s.2.2.1, y.2.1, z.2.1, ct) → wX_removeEofMarks_4 P (nI lc) (nI ic) (nI oc) (nI L) (nI hi) (nI N) (nI ho) (nI s.1) (nI hu) (nI y.1) (nI hs) (nI z.1) fl dr s.2.1 st fg ie pe la rm n (nI t.1) (nI i) ln lw t.2.1 s.2.2.1 y.2.1 z.2.1 ct := by
  intro d
  induction d with
  | zero =>
    intro i n t hi' hn f h
    have f1 := f.1; have f2 := f.2.1; have f3 := f.2.2.1
    obtain ⟨n, rfl⟩ : ∃ k, n = k + 1 := ⟨n - 1, by omega⟩
    exact pk_le N i (fun _ => h) (fun e => absurd e (by omega))
  | succ d ih =>
    intro i n t hi' hn f h
    have f1 := f.1; have f2 := f.2.1; have f3 := f.2.2.1
    obtain ⟨n, rfl⟩ : ∃ k, n = k + 1 := ⟨n - 1, by omega⟩
    refine pk_le N i (fun e => absurd e (by omega)) (fun _ => ⟨ty_ringI f.1 (by omega), nm_r (e' := t.2.2 i) (by rw [ty_ringC f.1 (by omega)]; exact ty_fAt f (by omega)) ?_⟩)
    by_cases e : t.2.2 i = 256
    · have e1 : ty_fl hi (d + 1) i t = ty_fl hi d (i + 1) t := if_pos e
      rw [e1] at h
      exact br_t e (nm_r (nI_1 i) (ih (i + 1) n t (by omega) (by omega) (ty_fSkip f (by omega)) h))
    · have e1 : ty_fl hi (d + 1) i t = ty_fl hi d (i + 1) (ty_in hi (t.2.2 i) t) := if_neg e
      rw [e1] at h
      exact br_f e ⟨ty_ringI f.1 (by omega), nm_r (congrArg (fun k => upd t.2.1 k (t.2.2 i)) (ty_ringC f.1 (by omega))) (nm_r (nI_1 t.1) (nm_r (nI_1 i) (ih (i + 1) n (ty_in hi (t.2.2 i) t) (by omega) (by omega) (ty_fKeep _ f (by omega)) h)))⟩
theorem xf_rm (q : ty_i hi t) (h : P (nI lc, nI ic, nI oc, nI L, nI hi, nI (ty_fl hi t.1 0 (0, t.2)).1, nI ho, nI s.1, nI hu, nI y.1, nI hs, nI z.1, fl, dr, s.2.1, st, fg, ie, pe, la, rm, ln, lw, (ty_fl hi t.1 0 (0, t.2)).2.1, s.2.2.1, y.2.1, z.2.1, ct)) : wpX_removeEofMarks P (nI lc, nI ic, nI oc, nI L, nI hi, nI t.1, nI ho, nI s.1, nI hu, nI y.1, nI hs, nI z.1, fl, dr, s.2.1, st, fg, ie, pe, la, rm, ln, lw, t.2.1, s.2.2.1, y.2.1, z.2.1, ct) :=
  ⟨t.1 + 1, xf_rmL (N := t.1) t.1 0 (t.1 + 1) (0, t.2) (by omega) (by omega) (ty_f0 q) h⟩
theorem xf_spL (hh : hi < 64) (hL : L ≤ 32) (hc : ic ≤ 64) : ∀ (d k n : Nat) (t : TyI) (dr : Int32), k + d = L → d < n → t.1 ≤ ic → P (nI lc, nI ic, nI oc, nI 0, nI hi, nI ((ty_sp hi ic ln d k t dr).1).1, nI ho, nI s.1, nI hu, nI y.1, nI hs, nI z.1, fl, (ty_sp hi ic ln d k t dr).2, s.2.1, st, fg, ie, pe, la, rm, ln, lw, ((ty_sp hi ic ln d k t dr).1).2.1, s.2.2.1, y.2.1, z.2.1, ct) → wX_spillLine_2 P n (nI k) (nI lc) (nI ic) (nI oc) (nI L) (nI hi) (nI t.1) (nI ho) (nI s.1) (nI hu) (nI y.1) (nI hs) (nI z.1) fl dr s.2.1 st fg ie pe la rm ln lw t.2.1 s.2.2.1 y.2.1 z.2.1 ct := by
  intro d
  induction d with
  | zero =>
    intro k n t dr hk hn ht h
    obtain ⟨n, rfl⟩ : ∃ k, n = k + 1 := ⟨n - 1, by omega⟩
    exact pk_le L k (fun _ => h) (fun e => absurd e (by omega))
  | succ d ih =>
    intro k n t dr hk hn ht h
    obtain ⟨n, rfl⟩ : ∃ k, n = k + 1 := ⟨n - 1, by omega⟩
    refine pk_le L k (fun e => absurd e (by omega)) (fun _ => pk_le ic t.1 (fun c => ?_) (fun c => ⟨vp_in_nI (by omega) (by omega), ?_⟩))
    · have e1 : ty_sp hi ic ln (d + 1) k t dr = ty_sp hi ic ln d (k + 1) t (dr + 1) := if_neg (by omega)
      rw [e1] at h
      exact nm_e (nm_r (nI_1 k) (ih (k + 1) n t (dr + 1) (by omega) (by omega) ht h))
    · have e1 : ty_sp hi ic ln (d + 1) k t dr = ty_sp hi ic ln d (k + 1) (ty_in hi (ln k) t) dr := if_pos c
      rw [e1] at h
      rw [nI_clamp (n := k) (by omega)]
      exact xi_app hh (by omega) (nm_r (nI_1 k) (ih (k + 1) n (ty_in hi (ln k) t) dr (by omega) (by omega) c h))
theorem xf_sp (hh : hi < 64) (hL : L ≤ 32) (hc : ic ≤ 64) (ht : t.1 ≤ ic) (h : P (nI lc, nI ic, nI oc, nI 0, nI hi, nI ((ty_sp hi ic ln L 0 t dr).1).1, nI ho, nI s.1, nI hu, nI y.1, nI hs, nI z.1, fl, (ty_sp hi ic ln L 0 t dr).2, s.2.1, st, fg, ie, pe, la, rm, ln, lw, ((ty_sp hi ic ln L 0 t dr).1).2.1, s.2.2.1, y.2.1, z.2.1, ct)) : wpX_spillLine P (nI lc, nI ic, nI oc, nI L, nI hi, nI t.1, nI ho, nI s.1, nI hu, nI y.1, nI hs, nI z.1, fl, dr, s.2.1, st, fg, ie, pe, la, rm, ln, lw, t.2.1, s.2.2.1, y.2.1, z.2.1, ct) :=
  ⟨L + 1, xf_spL hh hL hc L 0 (L + 1) t dr (by omega) (by omega) ht h⟩
/-! the completion check -/
theorem xc_holdL (q : ty_i hi t) : ∀ (d i n : Nat), i + d = t.1 → d < n → U (if ty_an t.2.2 d i = true then 1 else 0) → wX_holdsLineEnd_2 U (nI lc) (nI ic) (nI oc) (nI L) (nI hi) (nI t.1) (nI ho) (nI s.1) (nI hu) (nI y.1) (nI hs) (nI z.1) fl dr s.2.1 st fg ie pe la rm ln lw t.2.1 s.2.2.1 y.2.1 z.2.1 ct n (nI i) := by
  have q1 := q.1
  have q2 := q.2.1
  intro d
  induction d with
  | zero =>
    intro i n hi' hn h
    obtain ⟨n, rfl⟩ : ∃ k, n = k + 1 := ⟨n - 1, by omega⟩
    exact pk_le t.1 i (fun _ => h) (fun e => absurd e (by omega))
  | succ d ih =>
    intro i n hi' hn h
    obtain ⟨n, rfl⟩ : ∃ k, n = k + 1 := ⟨n - 1, by omega⟩
    refine pk_le t.1 i (fun e => absurd e (by omega)) (fun _ => ⟨ty_ringI q.1 (by omega), nm_r (ty_at q (by omega)) ?_⟩)
    unfold ty_an at h
    by_cases e : t.2.2 i = 10
    · rw [if_pos e, if_pos rfl] at h; exact br_t e h
    · rw [if_neg e] at h
      by_cases e2 : t.2.2 i = 256
      · rw [if_pos e2, if_pos rfl] at h; exact br_f e (br_t e2 h)
      · rw [if_neg e2] at h
        exact br_f e (br_f e2 (nm_r (nI_1 i) (ih (i + 1) n (by omega) (by omega) h)))
theorem xc_hold (q : ty_i hi t) (h : U (if ty_an t.2.2 t.1 0 = true then 1 else 0)) : wpX_holdsLineEnd U (nI lc, nI ic, nI oc, nI L, nI hi, nI t.1, nI ho, nI s.1, nI hu, nI y.1, nI hs, nI z.1, fl, dr, s.2.1, st, fg, ie, pe, la, rm, ln, lw, t.2.1, s.2.2.1, y.2.1, z.2.1, ct) := ⟨t.1 + 1, xc_holdL q t.1 0 (t.1 + 1) (by omega) (by omega) h⟩
theorem xd_drop (hh : hi < 64) (hn : 0 < t.1) (h : P (nI lc, nI ic, nI oc, nI L, nI ((hi + 1) % 64), nI (ty_rm t).1, nI ho, nI s.1, nI hu, nI y.1, nI hs, nI z.1, fl, dr, s.2.1, st, fg, ie, pe, la, rm, ln, lw, (ty_rm t).2.1, s.2.2.1, y.2.1, z.2.1, ct)) : wpX_dropInputHead P (nI lc, nI ic, nI oc, nI L, nI hi, nI t.1, nI ho, nI s.1, nI hu, nI y.1, nI hs, nI z.1, fl, dr, s.2.1, st, fg, ie, pe, la, rm, ln, lw, t.2.1, s.2.2.1, y.2.1, z.2.1, ct) := nm_r (ty_ring1 hh) (nm_r (ty_pred hn) h)
theorem xd_user {x : Int32} (hh : hu < 64) (hn : y.1 ≤ 64) (h : P (nI lc, nI ic, nI oc, nI L, nI hi, nI t.1, nI ho, nI s.1, nI hu, nI (ty_in hu x y).1, nI hs, nI z.1, fl, dr, s.2.1, st, fg, ie, pe, la, rm, ln, lw, t.2.1, s.2.2.1, (ty_in hu x y).2.1, z.2.1, ct)) : wpX_appendUser P (nI lc, nI ic, nI oc, nI L, nI hi, nI t.1, nI ho, nI s.1, nI hu, nI y.1, nI hs, nI z.1, fl, dr, s.2.1, st, fg, ie, pe, la, rm, ln, lw, t.2.1, s.2.2.1, y.2.1, z.2.1, ct) x :=
  ⟨ty_ringI hh hn, nm_r (congrArg (fun i => upd y.2.1 i x) (ty_ringC hh hn)) (nm_r (nI_1 y.1) h)⟩
theorem xd_lineL {r : Nat} (hh : hu < 64) (hr : r ≤ 64) : ∀ (n c h f : Nat) (t y : TyI), t.1 = n → ty_i h t → c ≤ r → y.1 + (r - c) ≤ 64 → n < f → Q (nI (ty_dl hu r n c h t y).1) (nI lc, nI ic, nI oc, nI L, nI (ty_dl hu r n c h t y).2.1, nI ((ty_dl hu r n c h t y).2.2.1).1, nI ho, nI s.1, nI hu, nI ((ty_dl hu r n c h t y).2.2.2).1, nI hs, nI z.1, fl, dr, s.2.1, st, fg, ie, pe, la, nI r, ln, lw, ((ty_dl hu r n c h t y).2.2.1).2.1, s.2.2.1, ((ty_dl hu r n c h t y).2.2.2).2.1, z.2.1, ct) → wX_deliverLine_7 Q f (nI c) (nI n) (nI lc) (nI ic) (nI oc) (nI L) (nI h) (nI t.1) (nI ho) (nI s.1) (nI hu) (nI y.1) (nI hs) (nI z.1) fl dr s.2.1 st fg ie pe la (nI r) ln lw t.2.1 s.2.2.1 y.2.1 z.2.1 ct := by
  intro n
  induction n with
  | zero =>
    intro c h f t y ht q hc hy hf H
    obtain ⟨f, rfl⟩ : ∃ k, f = k + 1 := ⟨f - 1, by omega⟩
    exact pk_le 0 0 (fun _ => H) (fun e => absurd e (by omega))
  | succ n ih =>
    intro c h f t y ht q hc hy hf H
    have q1 := q.1; have q2 := q.2.1
    obtain ⟨f, rfl⟩ : ∃ k, f = k + 1 := ⟨f - 1, by omega⟩
    refine pk_le (n + 1) 0 (fun e => absurd e (by omega)) (fun _ => ⟨vp_in_nI q1 (by omega), nm_r (e' := t.2.2 0) (by rw [nI_clamp (by omega)]; exact ty_iHd q (by omega)) ?_⟩)
    unfold ty_dl at H
    by_cases c1 : t.2.2 0 = 256
    · simp only [if_pos c1] at H
      refine br_t c1 ?_
      exact xd_drop q1 (by omega) H
    · simp only [if_neg c1] at H
      refine br_f c1 (pk_eq c r (fun e => ?_) (fun e => ?_))
      · simp only [if_pos e] at H
        exact H
      · simp only [if_neg e] at H
        refine xd_drop q1 (by omega) ?_
        refine xd_user hh (by omega) ?_
        refine nm_r (nI_1 c) ?_
        by_cases c3 : t.2.2 0 = 10
        · simp only [if_pos c3] at H
          rw [c3] at H ⊢
          exact br_t rfl H
        · simp only [if_neg c3] at H
          exact br_f c3 (nm_r (pk_m1 n) (ih (c + 1) _ f (ty_rm t) (ty_in hu (t.2.2 0) y) (by show t.1 - 1 = n; omega) (ty_iRm q (by omega)) (by omega) (by show y.1 + 1 + (r - (c + 1)) ≤ 64; omega) (by omega) H))
theorem xd_line {r : Nat} (hh : hu < 64) (q : ty_i hi t) (hy : y.1 + r ≤ 64) (h : Q (nI (ty_dl hu r t.1 0 hi t y).1) (nI lc, nI ic, nI oc, nI L, nI (ty_dl hu r t.1 0 hi t y).2.1, nI ((ty_dl hu r t.1 0 hi t y).2.2.1).1, nI ho, nI s.1, nI hu, nI ((ty_dl hu r t.1 0 hi t y).2.2.2).1, nI hs, nI z.1, fl, dr, s.2.1, st, fg, ie, pe, la, nI r, ln, lw, ((ty_dl hu r t.1 0 hi t y).2.2.1).2.1, s.2.2.1, ((ty_dl hu r t.1 0 hi t y).2.2.2).2.1, z.2.1, ct)) : wpX_deliverLine Q (nI lc, nI ic, nI oc, nI L, nI hi, nI t.1, nI ho, nI s.1, nI hu, nI y.1, nI hs, nI z.1, fl, dr, s.2.1, st, fg, ie, pe, la, nI r, ln, lw, t.2.1, s.2.2.1, y.2.1, z.2.1, ct) :=
  ⟨t.1 + 1, xd_lineL hh (by omega) t.1 0 hi (t.1 + 1) t y rfl q (by omega) (by omega) (by omega) h⟩
theorem xd_rawL {d0 : Nat} (hh : hu < 64) (hd : d0 ≤ 64) : ∀ (d c h f : Nat) (t y : TyI), c + d = d0 → ty_i h t → d ≤ t.1 → y.1 + d ≤ 64 → d < f → Q (nI d0) (nI lc, nI ic, nI oc, nI L, nI (ty_dr hu d c h t y).2.1, nI ((ty_dr hu d c h t y).2.2.1).1, nI ho, nI s.1, nI hu, nI ((ty_dr hu d c h t y).2.2.2).1, nI hs, nI z.1, fl, dr, s.2.1, st, fg, ie, pe, la, rm, ln, lw, ((ty_dr hu d c h t y).2.2.1).2.1, s.2.2.1, ((ty_dr hu d c h t y).2.2.2).2.1, z.2.1, ct) → wX_deliverRaw_25 Q (nI d0) f (nI c) (nI lc) (nI ic) (nI oc) (nI L) (nI h) (nI t.1) (nI ho) (nI s.1) (nI hu) (nI y.1) (nI hs) (nI z.1) fl dr s.2.1 st fg ie pe la rm ln lw t.2.1 s.2.2.1 y.2.1 z.2.1 ct := by
  intro d
  induction d with
  | zero =>
    intro c h f t y hc q ht hy hf H
    obtain ⟨f, rfl⟩ : ∃ k, f = k + 1 := ⟨f - 1, by omega⟩
    exact pk_le d0 c (fun _ => H) (fun e => absurd e (by omega))
  | succ d ih =>
    intro c h f t y hc q ht hy hf H
    have q1 := q.1; have q2 := q.2.1
    obtain ⟨f, rfl⟩ : ∃ k, f = k + 1 := ⟨f - 1, by omega⟩
    refine pk_le d0 c (fun e => absurd e (by omega)) (fun _ => ⟨vp_in_nI q1 (by omega), nm_r (e' := t.2.2 0) (by rw [nI_clamp (by omega)]; exact ty_iHd q (by omega)) ?_⟩)
    refine xd_drop q1 (by omega) ?_
    refine xd_user hh (by omega) ?_
    exact nm_r (nI_1 c) (ih (c + 1) _ f (ty_rm t) (ty_in hu (t.2.2 0) y) (by omega) (ty_iRm q (by omega)) (by show d ≤ t.1 - 1; omega) (by show y.1 + 1 + d ≤ 64; omega) (by omega) H)
theorem xd_raw {r : Nat} (hh : hu < 64) (q : ty_i hi t) (hy : y.1 + r ≤ 64) (h : Q (nI (ty_dr hu (ty_mi r t.1) 0 hi t y).1) (nI lc, nI ic, nI oc, nI L, nI (ty_dr hu (ty_mi r t.1) 0 hi t y).2.1, nI ((ty_dr hu (ty_mi r t.1) 0 hi t y).2.2.1).1, nI ho, nI s.1, nI hu, nI ((ty_dr hu (ty_mi r t.1) 0 hi t y).2.2.2).1, nI hs, nI z.1, fl, dr, s.2.1, st, fg, ie, pe, la, nI r, ln, lw, ((ty_dr hu (ty_mi r t.1) 0 hi t y).2.2.1).2.1, s.2.2.1, ((ty_dr hu (ty_mi r t.1) 0 hi t y).2.2.2).2.1, z.2.1, ct)) (ok : ty_i hu y) : wpX_deliverRaw Q (nI lc, nI ic, nI oc, nI L, nI hi, nI t.1, nI ho, nI s.1, nI hu, nI y.1, nI hs, nI z.1, fl, dr, s.2.1, st, fg, ie, pe, la, nI r, ln, lw, t.2.1, s.2.2.1, y.2.1, z.2.1, ct) := by
  have q2 := q.2.1
  have le : ty_mi r t.1 ≤ t.1 ∧ ty_mi r t.1 ≤ r := by unfold ty_mi; split <;> omega
  rw [(ty_drOk (ty_mi r t.1) 0 hi t y q ok le.1 (by omega)).2, Nat.zero_add] at h
  refine pk_le r t.1 (fun c => ?_) (fun c => ?_)
  · have e : ty_mi r t.1 = r := if_pos c
    rw [e] at h
    exact ⟨r + 1, xd_rawL hh (by omega) r 0 hi (r + 1) t y (by omega) q c (by omega) (by omega) h⟩
  · have e : ty_mi r t.1 = t.1 := if_neg (by omega)
    rw [e] at h
    exact ⟨t.1 + 1, xd_rawL hh (by omega) t.1 0 hi (t.1 + 1) t y (by omega) q (Nat.le_refl _) (by omega) (by omega) h⟩
theorem xc_due32 {x1 x2 z0 : Int32} (h : U (ty_du x1 x2 z0 (nI t.1) ie)) : wX_rawReadIsDue_32 U x1 x2 z0 (nI lc) (nI ic) (nI oc) (nI L) (nI hi) (nI t.1) (nI ho) (nI s.1) (nI hu) (nI y.1) (nI hs) (nI z.1) fl dr s.2.1 st fg ie pe la rm ln lw t.2.1 s.2.2.1 y.2.1 z.2.1 ct := by
  unfold ty_du at h
  by_cases a : x1 = 0
  · rw [if_pos a] at h
    by_cases b : x2 = 0
    · rw [if_pos b] at h; exact br_t a (br_t b h)
    · rw [if_neg b] at h
      refine br_t a (br_f b (br_f b (br_t a ?_)))
      by_cases c : 1 ≤ nI t.1
      · rw [if_pos c] at h; exact br_t c h
      · rw [if_neg c] at h
        by_cases d : ie < x2
        · rw [if_pos d] at h; exact br_f c (br_t d h)
        · rw [if_neg d] at h; exact br_f c (br_f d h)
  · rw [if_neg a] at h
    refine br_f a ?_
    by_cases b : x2 = 0
    · rw [if_pos b] at h
      by_cases c : nI t.1 < z0
      · rw [if_pos c] at h; exact br_t b (br_t c h)
      · rw [if_neg c] at h; exact br_t b (br_f c h)
    · rw [if_neg b] at h
      refine br_f b (br_f a ?_)
      by_cases c : z0 ≤ nI t.1
      · rw [if_pos c] at h; exact br_t c h
      · rw [if_neg c] at h
        by_cases e : nI t.1 < 1
        · rw [if_pos e] at h; exact br_f c (br_t e h)
        · rw [if_neg e] at h
          by_cases d : ie < x2
          · rw [if_pos d] at h; exact br_f c (br_f e (br_t d h))
          · rw [if_neg d] at h; exact br_f c (br_f e (br_f d h))
theorem xc_due (h : U (ty_du (ct 8) (ct 9) (ty_nd (ct 8) rm) (nI t.1) ie)) : wpX_rawReadIsDue U (nI lc, nI ic, nI oc, nI L, nI hi, nI t.1, nI ho, nI s.1, nI hu, nI y.1, nI hs, nI z.1, fl, dr, s.2.1, st, fg, ie, pe, la, rm, ln, lw, t.2.1, s.2.2.1, y.2.1, z.2.1, ct) := by
  unfold ty_nd at h
  by_cases c : rm ≤ ct 8
  · rw [if_pos c] at h; exact nm_e (nm_e (br_t c (xc_due32 h)))
  · rw [if_neg c] at h; exact nm_e (nm_e (br_f c (xc_due32 h)))
theorem xc_check (q : ty_i hi t) (p : ty_i hu y) (hp : ty_p pe rm y) (h : P (nI lc, nI ic, nI oc, nI L, nI (ty_ck fl pe la rm ie ct hi hu t y).1, nI ((ty_ck fl pe la rm ie ct hi hu t y).2.1).1, nI ho, nI s.1, nI hu, nI ((ty_ck fl pe la rm ie ct hi hu t y).2.2.1).1, nI hs, nI z.1, fl, dr, s.2.1, st, fg, ie, (ty_ck fl pe la rm ie ct hi hu t y).2.2.2.1, (ty_ck fl pe la rm ie ct hi hu t y).2.2.2.2, rm, ln, lw, ((ty_ck fl pe la rm ie ct hi hu t y).2.1).2.1, s.2.2.1, ((ty_ck fl pe la rm ie ct hi hu t y).2.2.1).2.1, z.2.1, ct)) : wpX_checkCompletion P (nI lc, nI ic, nI oc, nI L, nI hi, nI t.1, nI ho, nI s.1, nI hu, nI y.1, nI hs, nI z.1, fl, dr, s.2.1, st, fg, ie, pe, la, rm, ln, lw, t.2.1, s.2.2.1, y.2.1, z.2.1, ct) := by
  unfold ty_ck at h
  by_cases a : pe = 0
  · simp only [if_pos a] at h; exact br_t a h
  · obtain ⟨r, hr1, hr2, rfl⟩ := hp a
    simp only [if_neg a, nI_clamp (show r < 2 ^ 31 by omega)] at h
    refine br_f a ?_
    by_cases b : fl &&& 1 = 0
    · simp only [if_pos b] at h
      refine xs_0 b ?_
      refine br_t rfl ?_
      refine xc_due ?_
      by_cases c : ty_du (ct 8) (ct 9) (ty_nd (ct 8) (nI r)) (nI t.1) ie = 0
      · simp only [if_pos c] at h
        exact br_t c h
      · simp only [if_neg c] at h
        refine br_f c ?_
        exact xd_raw p.1 q hr2 h p
    · simp only [if_neg b] at h
      refine xs_1 b ?_
      refine br_f (by decide) ?_
      refine xc_hold q ?_
      by_cases c : ty_an t.2.2 t.1 0 = true
      · simp only [if_pos c] at h
        rw [if_pos c]
        refine br_f (by decide) ?_
        exact xd_line p.1 q hr2 h
      · simp only [if_neg c] at h
        rw [if_neg c]
        exact br_t rfl h
end TC
end
section
section TD
variable {lc ic oc L hi ho hu hs m m' : Nat} {s : TyO} {t y z : TyI} {fl dr st fg ie pe la rm : Int32} {ln lw ct : TyF} {P : SX → Prop} {Q : Int32 → SX → Prop} {U : Int32 → Prop}
theorem xr_128 {a : Int32} (q : ty_i hi t) (p : ty_i hu y) (hp : ty_p pe rm y) (h : Q a (nI lc, nI ic, nI oc, nI L, nI (ty_ck fl pe la rm ie ct hi hu t y).1, nI (ty_ck fl pe la rm ie ct hi hu t y).2.1.1, nI ho, nI s.1, nI hu, nI (ty_ck fl pe la rm ie ct hi hu t y).2.2.1.1, nI hs, nI z.1, fl, dr, s.2.1, st, fg, ie, (ty_ck fl pe la rm ie ct hi hu t y).2.2.2.1, (ty_ck fl pe la rm ie ct hi hu t y).2.2.2.2, rm, ln, lw, (ty_ck fl pe la rm ie ct hi hu t y).2.1.2.1, s.2.2.1, (ty_ck fl pe la rm ie ct hi hu t y).2.2.1.2.1, z.2.1, ct)) : wX_receive_128 Q a (nI lc) (nI ic) (nI oc) (nI L) (nI hi) (nI t.1) (nI ho) (nI s.1) (nI hu) (nI y.1) (nI hs) (nI z.1) fl dr s.2.1 st fg ie pe la rm ln lw t.2.1 s.2.2.1 y.2.1 z.2.1 ct := xc_check q p hp h
theorem xr_er0 (b : ¬ fl &&& 1 = 0) (e2 : nI m = ct 2) (h : wX_receive_128 Q 4 (nI lc) (nI ic) (nI oc) (nI 0) (nI hi) (nI t.1) (nI ho) (nI s.1) (nI hu) (nI y.1) (nI hs) (nI z.1) fl dr s.2.1 st fg ie pe la rm ln lw t.2.1 s.2.2.1 y.2.1 z.2.1 ct) : wX_receive_105 Q (nI m) (nI lc) (nI ic) (nI oc) (nI 0) (nI hi) (nI t.1) (nI ho) (nI s.1) (nI hu) (nI y.1) (nI hs) (nI z.1) fl dr s.2.1 st fg ie pe la rm ln lw t.2.1 s.2.2.1 y.2.1 z.2.1 ct := by
  unfold wX_receive_105
  refine xs_1 b ?_
  refine br_f (by decide) ?_
  exact br_t e2 (br_t rfl h)
theorem xr_er1 {l : Nat} (b : ¬ fl &&& 1 = 0) (e2 : nI m = ct 2) (hm : m < 256) (hl : ty_l lw (l + 1)) (hL : l + 1 ≤ 32) (hh : ho < 64) (hc : oc ≤ 64) (ok : ty_o oc ho s) (h : wX_receive_128 Q 4 (nI lc) (nI ic) (nI oc) (nI l) (nI hi) (nI t.1) (nI ho) (nI (ty_ee fl oc ho m (ty_cut (ty_rl fl oc ho ln lw) l (l + 1) s)).1) (nI hu) (nI y.1) (nI hs) (nI z.1) fl dr ((ty_ee fl oc ho m (ty_cut (ty_rl fl oc ho ln lw) l (l + 1) s)).2.1) st fg ie pe la rm ln lw t.2.1 ((ty_ee fl oc ho m (ty_cut (ty_rl fl oc ho ln lw) l (l + 1) s)).2.2.1) y.2.1 z.2.1 ct) : wX_receive_105 Q (nI m) (nI lc) (nI ic) (nI oc) (nI (l + 1)) (nI hi) (nI t.1) (nI ho) (nI s.1) (nI hu) (nI y.1) (nI hs) (nI z.1) fl dr s.2.1 st fg ie pe la rm ln lw t.2.1 s.2.2.1 y.2.1 z.2.1 ct := by
  unfold wX_receive_105
  refine xs_1 b ?_
  refine br_f (by decide) ?_
  refine br_t e2 ?_
  exact xe_last hm hl hL hh hc ok h
theorem xr_we0 (b : ¬ fl &&& 1 = 0) (e2 : ¬ nI m = ct 2) (e3 : nI m = ct 3) (h : wX_receive_128 Q 4 (nI lc) (nI ic) (nI oc) (nI 0) (nI hi) (nI t.1) (nI ho) (nI s.1) (nI hu) (nI y.1) (nI hs) (nI z.1) fl dr s.2.1 st fg ie pe la rm ln lw t.2.1 s.2.2.1 y.2.1 z.2.1 ct) : wX_receive_105 Q (nI m) (nI lc) (nI ic) (nI oc) (nI 0) (nI hi) (nI t.1) (nI ho) (nI s.1) (nI hu) (nI y.1) (nI hs) (nI z.1) fl dr s.2.1 st fg ie pe la rm ln lw t.2.1 s.2.2.1 y.2.1 z.2.1 ct := by
  unfold wX_receive_105
  refine xs_1 b ?_
  refine br_f (by decide) ?_
  exact br_f e2 (br_t e3 (br_t rfl h))
theorem xr_we1 {l : Nat} (b : ¬ fl &&& 1 = 0) (e2 : ¬ nI m = ct 2) (e3 : nI m = ct 3) (hm : m < 256) (hl : ty_l lw (l + 1)) (hL : l + 1 ≤ 32) (hh : ho < 64) (hc : oc ≤ 64) (ok : ty_o oc ho s) (h : wX_receive_128 Q 4 (nI lc) (nI ic) (nI oc) (nI (ty_ww ln (ty_wb ln (l + 1)))) (nI hi) (nI t.1) (nI ho) (nI (ty_ee fl oc ho m (ty_cut (ty_rl fl oc ho ln lw) (ty_ww ln (ty_wb ln (l + 1))) (l + 1) s)).1) (nI hu) (nI y.1) (nI hs) (nI z.1) fl dr ((ty_ee fl oc ho m (ty_cut (ty_rl fl oc ho ln lw) (ty_ww ln (ty_wb ln (l + 1))) (l + 1) s)).2.1) st fg ie pe la rm ln lw t.2.1 ((ty_ee fl oc ho m (ty_cut (ty_rl fl oc ho ln lw) (ty_ww ln (ty_wb ln (l + 1))) (l + 1) s)).2.2.1) y.2.1 z.2.1 ct) : wX_receive_105 Q (nI m) (nI lc) (nI ic) (nI oc) (nI (l + 1)) (nI hi) (nI t.1) (nI ho) (nI s.1) (nI hu) (nI y.1) (nI hs) (nI z.1) fl dr s.2.1 st fg ie pe la rm ln lw t.2.1 s.2.2.1 y.2.1 z.2.1 ct := by
  unfold wX_receive_105
  refine xs_1 b ?_
  refine br_f (by decide) ?_
  refine br_f e2 (br_t e3 ?_)
  exact xe_word hm hl hL hh hc ok h
theorem xr_ki0 (b : ¬ fl &&& 1 = 0) (e2 : ¬ nI m = ct 2) (e3 : ¬ nI m = ct 3) (e4 : nI m = ct 4) (h : wX_receive_128 Q 4 (nI lc) (nI ic) (nI oc) (nI 0) (nI hi) (nI t.1) (nI ho) (nI s.1) (nI hu) (nI y.1) (nI hs) (nI z.1) fl dr s.2.1 st fg ie pe la rm ln lw t.2.1 s.2.2.1 y.2.1 z.2.1 ct) : wX_receive_105 Q (nI m) (nI lc) (nI ic) (nI oc) (nI 0) (nI hi) (nI t.1) (nI ho) (nI s.1) (nI hu) (nI y.1) (nI hs) (nI z.1) fl dr s.2.1 st fg ie pe la rm ln lw t.2.1 s.2.2.1 y.2.1 z.2.1 ct := by
  unfold wX_receive_105
  refine xs_1 b ?_
  refine br_f (by decide) ?_
  exact br_f e2 (br_f e3 (br_t e4 (br_t rfl h)))
theorem xr_ki1 {l : Nat} (b : ¬ fl &&& 1 = 0) (e2 : ¬ nI m = ct 2) (e3 : ¬ nI m = ct 3) (e4 : nI m = ct 4) (hm : m < 256) (hl : ty_l lw (l + 1)) (hL : l + 1 ≤ 32) (hh : ho < 64) (hc : oc ≤ 64) (ok : ty_o oc ho s) (h : wX_receive_128 Q 4 (nI lc) (nI ic) (nI oc) (nI 0) (nI hi) (nI t.1) (nI ho) (nI (ty_ek fl oc ho m (ty_cut (ty_rl fl oc ho ln lw) 0 (l + 1) s)).1) (nI hu) (nI y.1) (nI hs) (nI z.1) fl dr ((ty_ek fl oc ho m (ty_cut (ty_rl fl oc ho ln lw) 0 (l + 1) s)).2.1) st fg ie pe la rm ln lw t.2.1 ((ty_ek fl oc ho m (ty_cut (ty_rl fl oc ho ln lw) 0 (l + 1) s)).2.2.1) y.2.1 z.2.1 ct) : wX_receive_105 Q (nI m) (nI lc) (nI ic) (nI oc) (nI (l + 1)) (nI hi) (nI t.1) (nI ho) (nI s.1) (nI hu) (nI y.1) (nI hs) (nI z.1) fl dr s.2.1 st fg ie pe la rm ln lw t.2.1 s.2.2.1 y.2.1 z.2.1 ct := by
  unfold wX_receive_105
  refine xs_1 b ?_
  refine br_f (by decide) ?_
  refine br_f e2 (br_f e3 (br_t e4 ?_))
  exact xe_kill hm hl hL hh hc ok h
theorem xr_ef1 (b : ¬ fl &&& 1 = 0) (e2 : ¬ nI m = ct 2) (e3 : ¬ nI m = ct 3) (e4 : ¬ nI m = ct 4) (e5 : nI m = ct 5) (hL : L ≤ 32) (hc : ic ≤ 64) (hh : hi < 64) (hr : t.1 + L + 1 ≤ ic) (h : wX_receive_128 Q 5 (nI lc) (nI ic) (nI oc) (nI 0) (nI hi) (nI (ty_in hi 256 (ty_pl hi ln L 0 t)).1) (nI ho) (nI s.1) (nI hu) (nI y.1) (nI hs) (nI z.1) fl dr s.2.1 st fg ie pe la rm ln lw ((ty_in hi 256 (ty_pl hi ln L 0 t)).2.1) s.2.2.1 y.2.1 z.2.1 ct) : wX_receive_105 Q (nI m) (nI lc) (nI ic) (nI oc) (nI L) (nI hi) (nI t.1) (nI ho) (nI s.1) (nI hu) (nI y.1) (nI hs) (nI z.1) fl dr s.2.1 st fg ie pe la rm ln lw t.2.1 s.2.2.1 y.2.1 z.2.1 ct := by
  unfold wX_receive_105
  refine xs_1 b ?_
  refine br_f (by decide) ?_
  refine br_f e2 (br_f e3 (br_f e4 (br_t e5 ?_)))
  exact pk_le (L + 1) (ic - t.1) (fun _ => xi_pass hh hL (by omega) h) (fun e => absurd e (by omega)) (hx := nI_1 L) (hy := pk_sub (by omega))
theorem xr_ef0 (b : ¬ fl &&& 1 = 0) (e2 : ¬ nI m = ct 2) (e3 : ¬ nI m = ct 3) (e4 : ¬ nI m = ct 4) (e5 : nI m = ct 5) (hL : L ≤ 32) (hc : ic ≤ 64) (ht : t.1 ≤ ic) (hr : ic < t.1 + L + 1) (h : wX_receive_128 Q 7 (nI lc) (nI ic) (nI oc) (nI 0) (nI hi) (nI t.1) (nI ho) (nI s.1) (nI hu) (nI y.1) (nI hs) (nI z.1) fl (dr + nI L) s.2.1 st fg ie pe la rm ln lw t.2.1 s.2.2.1 y.2.1 z.2.1 ct) : wX_receive_105 Q (nI m) (nI lc) (nI ic) (nI oc) (nI L) (nI hi) (nI t.1) (nI ho) (nI s.1) (nI hu) (nI y.1) (nI hs) (nI z.1) fl dr s.2.1 st fg ie pe la rm ln lw t.2.1 s.2.2.1 y.2.1 z.2.1 ct := by
  unfold wX_receive_105
  refine xs_1 b ?_
  refine br_f (by decide) ?_
  refine br_f e2 (br_f e3 (br_f e4 (br_t e5 ?_)))
  exact pk_le (L + 1) (ic - t.1) (fun e => absurd e (by omega)) (fun _ => nm_e h) (hx := nI_1 L) (hy := pk_sub (by omega))
theorem xr_nl1 (b : ¬ fl &&& 1 = 0) (e2 : ¬ nI m = ct 2) (e3 : ¬ nI m = ct 3) (e4 : ¬ nI m = ct 4) (e5 : ¬ nI m = ct 5) (e10 : nI m = 10) (hL : L ≤ 32) (hc : ic ≤ 64) (hh : hi < 64) (hr : t.1 + L + 1 ≤ ic) (hh' : ho < 64) (hc' : oc ≤ 64) (ok : ty_o oc ho s) (h : wX_receive_128 Q 5 (nI lc) (nI ic) (nI oc) (nI 0) (nI hi) (nI (ty_in hi 10 (ty_pl hi ln L 0 t)).1) (nI ho) (nI (ty_echo fl oc ho 10 s).1) (nI hu) (nI y.1) (nI hs) (nI z.1) fl dr ((ty_echo fl oc ho 10 s).2.1) st fg ie pe la rm ln lw ((ty_in hi 10 (ty_pl hi ln L 0 t)).2.1) ((ty_echo fl oc ho 10 s).2.2.1) y.2.1 z.2.1 ct) : wX_receive_105 Q (nI m) (nI lc) (nI ic) (nI oc) (nI L) (nI hi) (nI t.1) (nI ho) (nI s.1) (nI hu) (nI y.1) (nI hs) (nI z.1) fl dr s.2.1 st fg ie pe la rm ln lw t.2.1 s.2.2.1 y.2.1 z.2.1 ct := by
  unfold wX_receive_105
  refine xs_1 b ?_
  refine br_f (by decide) ?_
  refine br_f e2 (br_f e3 (br_f e4 (br_f e5 (br_t e10 ?_))))
  refine pk_le (L + 1) (ic - t.1) (fun _ => ?_) (fun e => absurd e (by omega)) (hx := nI_1 L) (hy := pk_sub (by omega))
  refine xi_pass hh hL (by omega) ?_
  exact xo_echo (m := 10) (by omega) hh' ok.1 hc' h
theorem xr_nl0 (b : ¬ fl &&& 1 = 0) (e2 : ¬ nI m = ct 2) (e3 : ¬ nI m = ct 3) (e4 : ¬ nI m = ct 4) (e5 : ¬ nI m = ct 5) (e10 : nI m = 10) (hL : L ≤ 32) (hc : ic ≤ 64) (ht : t.1 ≤ ic) (hr : ic < t.1 + L + 1) (h : wX_receive_128 Q 7 (nI lc) (nI ic) (nI oc) (nI 0) (nI hi) (nI t.1) (nI ho) (nI s.1) (nI hu) (nI y.1) (nI hs) (nI z.1) fl (dr + (nI L + 1)) s.2.1 st fg ie pe la rm ln lw t.2.1 s.2.2.1 y.2.1 z.2.1 ct) : wX_receive_105 Q (nI m) (nI lc) (nI ic) (nI oc) (nI L) (nI hi) (nI t.1) (nI ho) (nI s.1) (nI hu) (nI y.1) (nI hs) (nI z.1) fl dr s.2.1 st fg ie pe la rm ln lw t.2.1 s.2.2.1 y.2.1 z.2.1 ct := by
  unfold wX_receive_105
  refine xs_1 b ?_
  refine br_f (by decide) ?_
  refine br_f e2 (br_f e3 (br_f e4 (br_f e5 (br_t e10 ?_))))
  exact pk_le (L + 1) (ic - t.1) (fun e => absurd e (by omega)) (fun _ => nm_e h) (hx := nI_1 L) (hy := pk_sub (by omega))
theorem xr_st1 (b : ¬ fl &&& 1 = 0) (e2 : ¬ nI m = ct 2) (e3 : ¬ nI m = ct 3) (e4 : ¬ nI m = ct 4) (e5 : ¬ nI m = ct 5) (e10 : ¬ nI m = 10) (hm : m < 256) (hL : L < lc) (hlc : lc ≤ 32) (hh' : ho < 64) (hc' : oc ≤ 64) (ok : ty_o oc ho s) (h : wX_receive_128 Q 6 (nI lc) (nI ic) (nI oc) (nI (L + 1)) (nI hi) (nI t.1) (nI ho) (nI (ty_echo fl oc ho m s).1) (nI hu) (nI y.1) (nI hs) (nI z.1) fl dr ((ty_echo fl oc ho m s).2.1) st fg ie pe la rm (upd ln L (nI m)) (upd lw L ((ty_echo fl oc ho m s).2.1 - s.2.1)) t.2.1 ((ty_echo fl oc ho m s).2.2.1) y.2.1 z.2.1 ct) : wX_receive_105 Q (nI m) (nI lc) (nI ic) (nI oc) (nI L) (nI hi) (nI t.1) (nI ho) (nI s.1) (nI hu) (nI y.1) (nI hs) (nI z.1) fl dr s.2.1 st fg ie pe la rm ln lw t.2.1 s.2.2.1 y.2.1 z.2.1 ct := by
  unfold wX_receive_105
  refine xs_1 b ?_
  refine br_f (by decide) ?_
  refine br_f e2 (br_f e3 (br_f e4 (br_f e5 (br_f e10 ?_))))
  refine pk_lt L lc (fun _ => ?_) (fun e => absurd e (by omega))
  refine xo_echo hm hh' ok.1 hc' ?_
  exact ⟨vp_in_nI (by omega) (by omega), nm_r (congrArg (fun i => upd ln i (nI m)) (nI_clamp (by omega))) ⟨vp_in_nI (by omega) (by omega), nm_r (congrArg (fun i => upd lw i ((ty_echo fl oc ho m s).2.1 - s.2.1)) (nI_clamp (by omega))) (nm_r (nI_1 L) h)⟩⟩
theorem xr_st0 (b : ¬ fl &&& 1 = 0) (e2 : ¬ nI m = ct 2) (e3 : ¬ nI m = ct 3) (e4 : ¬ nI m = ct 4) (e5 : ¬ nI m = ct 5) (e10 : ¬ nI m = 10) (hL : lc ≤ L) (hlc : L ≤ 32) (h : wX_receive_128 Q 7 (nI lc) (nI ic) (nI oc) (nI L) (nI hi) (nI t.1) (nI ho) (nI s.1) (nI hu) (nI y.1) (nI hs) (nI z.1) fl (dr + 1) s.2.1 st fg ie pe la rm ln lw t.2.1 s.2.2.1 y.2.1 z.2.1 ct) : wX_receive_105 Q (nI m) (nI lc) (nI ic) (nI oc) (nI L) (nI hi) (nI t.1) (nI ho) (nI s.1) (nI hu) (nI y.1) (nI hs) (nI z.1) fl dr s.2.1 st fg ie pe la rm ln lw t.2.1 s.2.2.1 y.2.1 z.2.1 ct := by
  unfold wX_receive_105
  refine xs_1 b ?_
  refine br_f (by decide) ?_
  refine br_f e2 (br_f e3 (br_f e4 (br_f e5 (br_f e10 ?_))))
  exact pk_lt L lc (fun e => absurd e (by omega)) (fun _ => nm_e h)
theorem xr_ra1 (b : fl &&& 1 = 0) (hm : m < 256) (ht : t.1 < ic) (hc : ic ≤ 64) (hh : hi < 64) (hh' : ho < 64) (hc' : oc ≤ 64) (ok : ty_o oc ho s) (h : wX_receive_128 Q 6 (nI lc) (nI ic) (nI oc) (nI L) (nI hi) (nI (ty_in hi (nI m) t).1) (nI ho) (nI (ty_echo fl oc ho m s).1) (nI hu) (nI y.1) (nI hs) (nI z.1) fl dr ((ty_echo fl oc ho m s).2.1) st fg 0 pe la rm ln lw ((ty_in hi (nI m) t).2.1) ((ty_echo fl oc ho m s).2.2.1) y.2.1 z.2.1 ct) : wX_receive_105 Q (nI m) (nI lc) (nI ic) (nI oc) (nI L) (nI hi) (nI t.1) (nI ho) (nI s.1) (nI hu) (nI y.1) (nI hs) (nI z.1) fl dr s.2.1 st fg ie pe la rm ln lw t.2.1 s.2.2.1 y.2.1 z.2.1 ct := by
  unfold wX_receive_105
  refine xs_0 b ?_
  refine br_t rfl ?_
  refine pk_lt t.1 ic (fun _ => ?_) (fun e => absurd e (by omega))
  refine xi_app hh (by omega) ?_
  exact xo_echo hm hh' ok.1 hc' h
theorem xr_ra0 (b : fl &&& 1 = 0) (ht : ic ≤ t.1) (hc : t.1 ≤ 64) (h : wX_receive_128 Q 7 (nI lc) (nI ic) (nI oc) (nI L) (nI hi) (nI t.1) (nI ho) (nI s.1) (nI hu) (nI y.1) (nI hs) (nI z.1) fl (dr + 1) s.2.1 st fg ie pe la rm ln lw t.2.1 s.2.2.1 y.2.1 z.2.1 ct) : wX_receive_105 Q (nI m) (nI lc) (nI ic) (nI oc) (nI L) (nI hi) (nI t.1) (nI ho) (nI s.1) (nI hu) (nI y.1) (nI hs) (nI z.1) fl dr s.2.1 st fg ie pe la rm ln lw t.2.1 s.2.2.1 y.2.1 z.2.1 ct := by
  unfold wX_receive_105
  refine xs_0 b ?_
  refine br_t rfl ?_
  exact pk_lt t.1 ic (fun e => absurd e (by omega)) (fun _ => nm_e h)
/-! a signal -/
def ty_zs (hs : Nat) (x : Int32) (z : TyI) : TyI := if z.1 < 8 then (z.1 + 1, upd z.2.1 ((hs + z.1) % 8) x, upd z.2.2 z.1 x) else z
theorem ty_zOk {hs : Nat} {x : Int32} {z : TyI} (q : ty_q 8 z.2.1 z.2.2 hs z.1) : ty_q 8 (ty_zs hs x z).2.1 (ty_zs hs x z).2.2 hs (ty_zs hs x z).1 := by
  unfold ty_zs
  by_cases c : z.1 < 8
  · simp only [if_pos c]; exact ty_qPush x q c
  · simp only [if_neg c]; exact q
theorem xg_post {x : Int32} (q : ty_q 8 z.2.1 z.2.2 hs z.1) (h : P (nI lc, nI ic, nI oc, nI L, nI hi, nI t.1, nI ho, nI s.1, nI hu, nI y.1, nI hs, nI (ty_zs hs (fg * 32 + x) z).1, fl, dr, s.2.1, st, fg, ie, pe, la, rm, ln, lw, t.2.1, s.2.2.1, y.2.1, (ty_zs hs (fg * 32 + x) z).2.1, ct)) : wpX_postSignal P (nI lc, nI ic, nI oc, nI L, nI hi, nI t.1, nI ho, nI s.1, nI hu, nI y.1, nI hs, nI z.1, fl, dr, s.2.1, st, fg, ie, pe, la, rm, ln, lw, t.2.1, s.2.2.1, y.2.1, z.2.1, ct) x := by
  have q1 := q.1; have q2 := q.2.1
  unfold ty_zs at h
  by_cases c : z.1 < 8
  · simp only [if_pos c] at h
    exact pk_le 8 z.1 (fun e => absurd e (by omega)) (fun _ => ⟨ty_rungI q1 q2, nm_r (congrArg (fun i => upd z.2.1 i (fg * 32 + x)) (ty_rungC q1 q2)) (nm_r (nI_1 z.1) h)⟩)
  · simp only [if_neg c] at h
    exact pk_le 8 z.1 (fun _ => h) (fun e => absurd e (by omega))
/-- what a signal leaves of pending and last result -/
def ty_sp1 (pe : Int32) : Int32 := if pe = 0 then pe else 0
def ty_sp2 (pe la : Int32) : Int32 := if pe = 0 then la else -2
theorem xg_16 {x : Int32} (hm : m < 256) (qz : ty_q 8 z.2.1 z.2.2 hs z.1) (q : ty_i hi t) (hh : ho < 64) (hc : oc ≤ 64) (h : P (nI lc, nI ic, nI oc, nI 0, nI hi, nI ((0, t.2)).1, nI ho, nI (ty_echo fl oc ho m (0, s.2)).1, nI hu, nI y.1, nI hs, nI (ty_zs hs (fg * 32 + x) z).1, fl, dr + (nI L + nI (ty_cn t.2.2 t.1 0)), (ty_echo fl oc ho m (0, s.2)).2.1, 0, fg, ie, ty_sp1 pe, ty_sp2 pe la, rm, ln, lw, ((0, t.2)).2.1, (ty_echo fl oc ho m (0, s.2)).2.2.1, y.2.1, (ty_zs hs (fg * 32 + x) z).2.1, ct)) : wX_raiseSignal_16 P (nI m) x (nI lc) (nI ic) (nI oc) (nI L) (nI hi) (nI t.1) (nI ho) (nI s.1) (nI hu) (nI y.1) (nI hs) (nI z.1) fl dr s.2.1 st fg ie pe la rm ln lw t.2.1 s.2.2.1 y.2.1 z.2.1 ct := by
  unfold wX_raiseSignal_16
  refine xg_post qz ?_
  refine xn_cnt (z := ty_zs hs (fg * 32 + x) z) q ?_
  refine nm_e ?_
  unfold ty_sp1 ty_sp2 at h
  by_cases c : pe = 0
  · simp only [if_pos c] at h
    exact br_t c (xo_echo (L := 0) (t := (0, t.2)) (s := (0, s.2)) (z := ty_zs hs (fg * 32 + x) z) hm hh (Nat.zero_le _) hc h)
  · simp only [if_neg c] at h
    refine br_f c ?_
    unfold wpX_endRead
    exact (xo_echo (L := 0) (t := (0, t.2)) (s := (0, s.2)) (z := ty_zs hs (fg * 32 + x) z) hm hh (Nat.zero_le _) hc h)
theorem xr_sig (hm : m < 256) (qz : ty_q 8 z.2.1 z.2.2 hs z.1) (q : ty_i hi t) (hh : ho < 64) (hc : oc ≤ 64) (h : wX_receive_128 Q 3 (nI lc) (nI ic) (nI oc) (nI 0) (nI hi) (nI ((0, t.2)).1) (nI ho) (nI (ty_echo fl oc ho m (0, s.2)).1) (nI hu) (nI y.1) (nI hs) (nI (ty_zs hs (fg * 32 + (if nI m = ct 0 then 2 else 20)) z).1) fl (dr + (nI L + nI (ty_cn t.2.2 t.1 0))) ((ty_echo fl oc ho m (0, s.2)).2.1) 0 fg ie (ty_sp1 pe) (ty_sp2 pe la) rm ln lw (((0, t.2)).2.1) ((ty_echo fl oc ho m (0, s.2)).2.2.1) y.2.1 ((ty_zs hs (fg * 32 + (if nI m = ct 0 then 2 else 20)) z).2.1) ct) : wX_receive_95 Q (nI m) (nI lc) (nI ic) (nI oc) (nI L) (nI hi) (nI t.1) (nI ho) (nI s.1) (nI hu) (nI y.1) (nI hs) (nI z.1) fl dr s.2.1 st fg ie pe la rm ln lw t.2.1 s.2.2.1 y.2.1 z.2.1 ct := by
  unfold wX_receive_95
  by_cases c : nI m = ct 0
  · simp only [if_pos c] at h
    exact br_t c (xg_16 hm qz q hh hc h)
  · simp only [if_neg c] at h
    exact br_f c (xg_16 hm qz q hh hc h)
/-! the ways into receive -/
theorem xr_66 {v1 : Int32} (hv : v1 &&& 255 = nI m) (c : fl &&& 16 = 0 ∨ (¬ nI m = ct 7 ∧ ¬ nI m = ct 6)) (h : wX_receive_66 Q (nI m) (nI lc) (nI ic) (nI oc) (nI L) (nI hi) (nI t.1) (nI ho) (nI s.1) (nI hu) (nI y.1) (nI hs) (nI z.1) fl dr s.2.1 st fg ie pe la rm ln lw t.2.1 s.2.2.1 y.2.1 z.2.1 ct) : wpX_receive Q (nI lc, nI ic, nI oc, nI L, nI hi, nI t.1, nI ho, nI s.1, nI hu, nI y.1, nI hs, nI z.1, fl, dr, s.2.1, st, fg, ie, pe, la, rm, ln, lw, t.2.1, s.2.2.1, y.2.1, z.2.1, ct) v1 := by
  refine nm_r hv ?_
  by_cases f : fl &&& 16 = 0
  · refine xs_0 f ?_
    refine br_t rfl ?_
    unfold wX_receive_36
    refine xs_0 f ?_
    exact br_t rfl h
  · rcases c with c | ⟨c7, c6⟩
    · exact absurd c f
    · refine xs_1 f ?_
      refine br_f (by decide) (br_f c7 ?_)
      unfold wX_receive_36
      refine xs_1 f ?_
      exact br_f (by decide) (br_f c6 h)
theorem xr_stop {v1 : Int32} (hv : v1 &&& 255 = nI m) (f : ¬ fl &&& 16 = 0) (c : nI m = ct 7) (h : wX_receive_128 Q 1 (nI lc) (nI ic) (nI oc) (nI L) (nI hi) (nI t.1) (nI ho) (nI s.1) (nI hu) (nI y.1) (nI hs) (nI z.1) fl dr s.2.1 1 fg ie pe la rm ln lw t.2.1 s.2.2.1 y.2.1 z.2.1 ct) : wpX_receive Q (nI lc, nI ic, nI oc, nI L, nI hi, nI t.1, nI ho, nI s.1, nI hu, nI y.1, nI hs, nI z.1, fl, dr, s.2.1, st, fg, ie, pe, la, rm, ln, lw, t.2.1, s.2.2.1, y.2.1, z.2.1, ct) v1 := by
  refine nm_r hv ?_
  refine xs_1 f ?_
  exact br_f (by decide) (br_t c h)
theorem xr_start {v1 : Int32} (hv : v1 &&& 255 = nI m) (f : ¬ fl &&& 16 = 0) (c7 : ¬ nI m = ct 7) (c : nI m = ct 6) (h : wX_receive_128 Q 2 (nI lc) (nI ic) (nI oc) (nI L) (nI hi) (nI t.1) (nI ho) (nI s.1) (nI hu) (nI y.1) (nI hs) (nI z.1) fl dr s.2.1 0 fg ie pe la rm ln lw t.2.1 s.2.2.1 y.2.1 z.2.1 ct) : wpX_receive Q (nI lc, nI ic, nI oc, nI L, nI hi, nI t.1, nI ho, nI s.1, nI hu, nI y.1, nI hs, nI z.1, fl, dr, s.2.1, st, fg, ie, pe, la, rm, ln, lw, t.2.1, s.2.2.1, y.2.1, z.2.1, ct) v1 := by
  refine nm_r hv ?_
  refine xs_1 f ?_
  refine br_f (by decide) (br_f c7 ?_)
  unfold wX_receive_36
  refine xs_1 f ?_
  exact br_f (by decide) (br_t c h)
theorem xr_95 (f : ¬ fl &&& 8 = 0) (c : nI m = ct 0 ∨ nI m = ct 1) (h : wX_receive_95 Q (nI m) (nI lc) (nI ic) (nI oc) (nI L) (nI hi) (nI t.1) (nI ho) (nI s.1) (nI hu) (nI y.1) (nI hs) (nI z.1) fl dr s.2.1 st fg ie pe la rm ln lw t.2.1 s.2.2.1 y.2.1 z.2.1 ct) : wX_receive_66 Q (nI m) (nI lc) (nI ic) (nI oc) (nI L) (nI hi) (nI t.1) (nI ho) (nI s.1) (nI hu) (nI y.1) (nI hs) (nI z.1) fl dr s.2.1 st fg ie pe la rm ln lw t.2.1 s.2.2.1 y.2.1 z.2.1 ct := by
  unfold wX_receive_66
  refine xs_1 f ?_
  refine br_f (by decide) ?_
  by_cases d : nI m = ct 0
  · exact br_t d h
  · rcases c with c | c
    · exact absurd c d
    · exact br_f d (br_t c h)
theorem xr_105 (c : fl &&& 8 = 0 ∨ (¬ nI m = ct 0 ∧ ¬ nI m = ct 1)) (h : wX_receive_105 Q (nI m) (nI lc) (nI ic) (nI oc) (nI L) (nI hi) (nI t.1) (nI ho) (nI s.1) (nI hu) (nI y.1) (nI hs) (nI z.1) fl dr s.2.1 st fg ie pe la rm ln lw t.2.1 s.2.2.1 y.2.1 z.2.1 ct) : wX_receive_66 Q (nI m) (nI lc) (nI ic) (nI oc) (nI L) (nI hi) (nI t.1) (nI ho) (nI s.1) (nI hu) (nI y.1) (nI hs) (nI z.1) fl dr s.2.1 st fg ie pe la rm ln lw t.2.1 s.2.2.1 y.2.1 z.2.1 ct := by
  unfold wX_receive_66
  by_cases f : fl &&& 8 = 0
  · refine xs_0 f ?_
    exact br_t rfl h
  · rcases c with c | ⟨c0, c1⟩
    · exact absurd c f
    · refine xs_1 f ?_
      exact br_f (by decide) (br_f c0 (br_f c1 h))
end TD
end
section
section TE
variable {lc ic oc L hi ho hu hs m m' : Nat} {s : TyO} {t y z : TyI} {fl dr st fg ie pe la rm : Int32} {ln lw ct : TyF} {P : SY → Prop} {Q : Int32 → SY → Prop} {U : Int32 → Prop}
theorem ty_cf9 (c r : Int32) : c + (8 - r) = c + 8 - r := by rw [Int32.sub_eq_add_neg, Int32.sub_eq_add_neg, Int32.add_assoc]
theorem yo_put (ho : Nat) (hm : m < 256) (hc : s.1 < 64) (h : P (nI lc, nI ic, nI oc, nI L, nI t.1, nI (ty_put ho m s).1, nI y.1, nI z.1, fl, dr, (ty_put ho m s).2.1, fg, ie, rm, st, pe, la, ln, lw, t.2.2, (ty_put ho m s).2.2.2, y.2.2, z.2.2, ct)) : wpY_put P (nI lc, nI ic, nI oc, nI L, nI t.1, nI s.1, nI y.1, nI z.1, fl, dr, s.2.1, fg, ie, rm, st, pe, la, ln, lw, t.2.2, s.2.2.2, y.2.2, z.2.2, ct) (nI m) := by
  have K : ∀ c', ty_cf m s.2.1 = c' → P (nI lc, nI ic, nI oc, nI L, nI t.1, nI (s.1 + 1), nI y.1, nI z.1, fl, dr, c', fg, ie, rm, st, pe, la, ln, lw, t.2.2, upd s.2.2.2 s.1 (nI m), y.2.2, z.2.2, ct) := fun c' e => by subst e; exact h
  refine pk_le 64 s.1 (fun e => absurd e (by omega)) (fun _ => ⟨vp_in_nI hc (by omega), nm_r (congrArg (fun i => upd s.2.2.2 i (nI m)) (nI_clamp (by omega))) (nm_r (nI_1 s.1) ?_)⟩)
  refine pk_eq m 8 (fun e => br_c (fun d => K _ ?_) (fun d => nm_e (K _ ?_))) (fun n8 => pk_eq m 9 (fun e => ⟨by decide, nm_e (K _ ?_)⟩) (fun n9 => pk_eq m 10 (fun e => K _ ?_) (fun n10 => pk_eq m 13 (fun e => K _ ?_) (fun n13 => pk_lt m 32 (fun e => pk_lt m 128 (fun _ => K _ ?_) (fun k => absurd k (by omega))) (fun n32 => pk_le m 126 (fun e => nm_e (K _ ?_)) (fun k => pk_lt m 128 (fun l => K _ ?_) (fun l => pk_lt 255 m (fun k => absurd k (by omega)) (fun _ => nm_e (K _ ?_)))))))))
  · subst e; exact (if_pos rfl).trans (if_pos d)
  · subst e; exact (if_pos rfl).trans (if_neg d)
  · subst e; exact ((if_neg (by decide)).trans (if_pos rfl)).trans (ty_cf9 _ _)
  · subst e; exact (if_neg (by decide)).trans ((if_neg (by decide)).trans (if_pos rfl))
  · subst e; exact (if_neg (by decide)).trans ((if_neg (by decide)).trans ((if_neg (by decide)).trans (if_pos rfl)))
  · exact (if_neg n8).trans ((if_neg n9).trans ((if_neg n10).trans ((if_neg n13).trans (if_neg (by omega)))))
  · exact ty_cfp _ n32 (by omega)
  · exact (if_neg n8).trans ((if_neg n9).trans ((if_neg n10).trans ((if_neg n13).trans ((if_pos n32).trans (if_pos (by omega))))))
  · exact ty_cfp _ n32 (by omega)
theorem yo_1 {x : Int32} (ho : Nat) (hm : m < 256) (hq : s.1 ≤ oc) (hc : oc ≤ 64) (h : Q (ty_b1 oc s) (nI lc, nI ic, nI oc, nI L, nI t.1, nI (ty_1 oc ho m s).1, nI y.1, nI z.1, fl, dr, (ty_1 oc ho m s).2.1, fg, ie, rm, st, pe, la, ln, lw, t.2.2, (ty_1 oc ho m s).2.2.2, y.2.2, z.2.2, ct)) : wpY_unit Q (nI lc, nI ic, nI oc, nI L, nI t.1, nI s.1, nI y.1, nI z.1, fl, dr, s.2.1, fg, ie, rm, st, pe, la, ln, lw, t.2.2, s.2.2.2, y.2.2, z.2.2, ct) 1 (nI m) x := by
  unfold ty_b1 ty_1 at h
  by_cases c : s.1 + 1 ≤ oc
  · simp only [if_pos c] at h
    refine pk_le 1 (oc - s.1) (fun _ => ?_) (fun e => absurd e (by omega)) (hy := pk_sub hq)
    refine yo_put ho hm (by omega) ?_
    exact br_f (by decide) h
  · simp only [if_neg c] at h
    exact pk_le 1 (oc - s.1) (fun e => absurd e (by omega)) (fun _ => h) (hy := pk_sub hq)
theorem yo_2 (ho : Nat) (hm : m < 256) (hm' : m' < 256) (hq : s.1 ≤ oc) (hc : oc ≤ 64) (h : Q (ty_b2 oc s) (nI lc, nI ic, nI oc, nI L, nI t.1, nI (ty_2 oc ho m m' s).1, nI y.1, nI z.1, fl, dr, (ty_2 oc ho m m' s).2.1, fg, ie, rm, st, pe, la, ln, lw, t.2.2, (ty_2 oc ho m m' s).2.2.2, y.2.2, z.2.2, ct)) : wpY_unit Q (nI lc, nI ic, nI oc, nI L, nI t.1, nI s.1, nI y.1, nI z.1, fl, dr, s.2.1, fg, ie, rm, st, pe, la, ln, lw, t.2.2, s.2.2.2, y.2.2, z.2.2, ct) 2 (nI m) (nI m') := by
  unfold ty_b2 ty_2 at h
  by_cases c : s.1 + 2 ≤ oc
  · simp only [if_pos c] at h
    refine pk_le 2 (oc - s.1) (fun _ => ?_) (fun e => absurd e (by omega)) (hy := pk_sub hq)
    refine yo_put ho hm (by omega) ?_
    refine br_t rfl ?_
    exact yo_put (s := ty_put ho m s) ho hm' (by show s.1 + 1 < 64; omega) h
  · simp only [if_neg c] at h
    exact pk_le 2 (oc - s.1) (fun e => absurd e (by omega)) (fun _ => h) (hy := pk_sub hq)
theorem ty_b1z {oc ho m : Nat} {s : TyO} (h : ty_b1 oc s = 0) : (ty_1 oc ho m s).2.1 = s.2.1 := by
  unfold ty_b1 at h
  unfold ty_1
  by_cases c : s.1 + 1 ≤ oc
  · rw [if_pos c] at h; exact absurd h (by decide)
  · rw [if_neg c]
theorem ty_b2z {oc ho m m' : Nat} {s : TyO} (h : ty_b2 oc s = 0) : (ty_2 oc ho m m' s).2.1 = s.2.1 := by
  unfold ty_b2 at h
  unfold ty_2
  by_cases c : s.1 + 2 ≤ oc
  · rw [if_pos c] at h; exact absurd h (by decide)
  · rw [if_neg c]
theorem yo_102 {b c : Int32} (hb : b = 0 → s.2.1 = c) (h : Q (s.2.1 - c) (nI lc, nI ic, nI oc, nI L, nI t.1, nI s.1, nI y.1, nI z.1, fl, dr, s.2.1, fg, ie, rm, st, pe, la, ln, lw, t.2.2, s.2.2.2, y.2.2, z.2.2, ct)) : wY_echo_102 Q c b (nI lc) (nI ic) (nI oc) (nI L) (nI t.1) (nI s.1) (nI y.1) (nI z.1) fl dr s.2.1 fg ie rm st pe la ln lw t.2.2 s.2.2.2 y.2.2 z.2.2 ct := by
  by_cases e : b = 0
  · have k : s.2.1 - c = 0 := by rw [hb e]; exact Int32.sub_self c
    rw [k] at h
    exact br_t e h
  · exact br_f e h
theorem yo_echo (ho : Nat) (hm : m < 256) (hq : s.1 ≤ oc) (hc : oc ≤ 64) (h : Q ((ty_echo fl oc ho m s).2.1 - s.2.1) (nI lc, nI ic, nI oc, nI L, nI t.1, nI (ty_echo fl oc ho m s).1, nI y.1, nI z.1, fl, dr, (ty_echo fl oc ho m s).2.1, fg, ie, rm, st, pe, la, ln, lw, t.2.2, (ty_echo fl oc ho m s).2.2.2, y.2.2, z.2.2, ct)) : wpY_echo Q (nI lc, nI ic, nI oc, nI L, nI t.1, nI s.1, nI y.1, nI z.1, fl, dr, s.2.1, fg, ie, rm, st, pe, la, ln, lw, t.2.2, s.2.2.2, y.2.2, z.2.2, ct) (nI m) := by
  unfold ty_echo at h
  by_cases c : fl &&& 2 = 0
  · simp only [if_pos c, Int32.sub_self] at h
    exact br_t c h
  · simp only [if_neg c] at h
    refine br_f c ?_
    have single : m = 9 ∨ (32 ≤ m ∧ m ≠ 127) → wY_echo_79 Q (nI m) s.2.1 (nI lc) (nI ic) (nI oc) (nI L) (nI t.1) (nI s.1) (nI y.1) (nI z.1) fl dr s.2.1 fg ie rm st pe la ln lw t.2.2 s.2.2.2 y.2.2 z.2.2 ct := fun k => by
      unfold wY_echo_79
      refine yo_1 ho hm hq hc ?_
      refine yo_102 ty_b1z ?_
      rcases k with k | ⟨k, l⟩
      · subst k; rw [ty_e9] at h; exact h
      · rw [ty_eP k l] at h; exact h
    have ctl : m ≠ 10 → m ≠ 9 → (m < 32 ∨ m = 127) → wY_echo_90 Q (nI m) s.2.1 (nI lc) (nI ic) (nI oc) (nI L) (nI t.1) (nI s.1) (nI y.1) (nI z.1) fl dr s.2.1 fg ie rm st pe la ln lw t.2.2 s.2.2.2 y.2.2 z.2.2 ct := fun n10 n9 k => by
      have x := ty_xr m (by omega) k
      have e : ty_e oc ho m s = ty_2 oc ho 94 (m ^^^ 64) s := by
        rcases k with k | k
        · exact ty_eC n10 n9 k
        · exact ty_eD k
      rw [e] at h
      unfold wY_echo_90
      rw [ty_xor]
      refine yo_2 (m := 94) (m' := m ^^^ 64) ho (by omega) (by omega) hq hc ?_
      exact yo_102 ty_b2z h
    refine pk_eq m 10 (fun e => ?_) (fun n10 => pk_eq m 9 (fun e => ?_) (fun n9 => pk_lt m 32 (fun e => pk_lt m 128 (fun _ => ctl n10 n9 (Or.inl e)) (fun k => absurd k (by omega))) (fun n32 => pk_le m 126 (fun e => single (Or.inr ⟨n32, by omega⟩)) (fun k => pk_lt m 128 (fun l => ctl n10 n9 (Or.inr (by omega))) (fun l => pk_lt 255 m (fun k => absurd k (by omega)) (fun _ => single (Or.inr ⟨n32, by omega⟩)))))))
    · subst e; rw [ty_e10] at h
      refine yo_2 (m := 13) (m' := 10) ho (by omega) (by omega) hq hc ?_
      exact yo_102 ty_b2z h
    · subst e; rw [ty_e9] at h
      refine yo_1 (m := 9) ho (by omega) hq hc ?_
      exact yo_102 ty_b1z h
theorem yo_bs {e : Int32} {w0 : Nat} (ho : Nat) (hc : oc ≤ 64) (hw : w0 ≤ 15) : ∀ (w i n : Nat) (s : TyO), i + w = w0 → w < n → (if e = 9 then w else w * 3) + s.1 ≤ oc → P (nI lc, nI ic, nI oc, nI L, nI t.1, nI (ty_bs ho e w s).1, nI y.1, nI z.1, fl, dr, (ty_bs ho e w s).2.1, fg, ie, rm, st, pe, la, ln, lw, t.2.2, (ty_bs ho e w s).2.2.2, y.2.2, z.2.2, ct) → wY_rubOut_61 P e (nI w0) n (nI i) (nI lc) (nI ic) (nI oc) (nI L) (nI t.1) (nI s.1) (nI y.1) (nI z.1) fl dr s.2.1 fg ie rm st pe la ln lw t.2.2 s.2.2.2 y.2.2 z.2.2 ct := by
  intro w
  induction w with
  | zero =>
    intro i n s hi hn hr h
    obtain ⟨n, rfl⟩ : ∃ k, n = k + 1 := ⟨n - 1, by omega⟩
    exact pk_le w0 i (fun _ => h) (fun e => absurd e (by omega))
  | succ w ih =>
    intro i n s hi hn hr h
    obtain ⟨n, rfl⟩ : ∃ k, n = k + 1 := ⟨n - 1, by omega⟩
    refine pk_le w0 i (fun e => absurd e (by omega)) (fun _ => pk_le 64 i (fun e => absurd e (by omega)) (fun _ => ?_))
    by_cases c : e = 9
    · rw [if_pos c] at hr
      have e1 : ty_bs ho e (w + 1) s = ty_bs ho e w (ty_put ho 8 s) := congrArg (ty_bs ho e w) (if_pos c)
      rw [e1] at h
      exact br_t c (yo_put (m := 8) ho (by omega) (by omega) (nm_r (nI_1 i) (ih (i + 1) n (ty_put ho 8 s) (by omega) (by omega) (by rw [if_pos c]; show w + (s.1 + 1) ≤ oc; omega) h)))
    · rw [if_neg c] at hr
      have e1 : ty_bs ho e (w + 1) s = ty_bs ho e w (ty_put ho 8 (ty_put ho 32 (ty_put ho 8 s))) := congrArg (ty_bs ho e w) (if_neg c)
      rw [e1] at h
      exact br_f c (yo_put (m := 8) ho (by omega) (by omega) (yo_put (m := 32) (s := ty_put ho 8 s) ho (by omega) (by show s.1 + 1 < 64; omega) (yo_put (m := 8) (s := ty_put ho 32 (ty_put ho 8 s)) ho (by omega) (by show s.1 + 1 + 1 < 64; omega) (nm_r (nI_1 i) (ih (i + 1) n _ (by omega) (by omega) (by rw [if_neg c]; show w * 3 + (s.1 + 1 + 1 + 1) ≤ oc; omega) h)))))
theorem ty_lle {x1 x2 : Int64} {A B : Prop} (a b : Nat) (f : a ≤ b → A) (g : b < a → B) (hx : x1 = lN a) (hy : x2 = lN b) (ha : a < 2 ^ 31) (hb : b < 2 ^ 31) : (x1 ≤ x2 → A) ∧ (¬ x1 ≤ x2 → B) := by
  subst hx hy
  rw [lN_le ha hb]
  exact ⟨f, fun k => g (by omega)⟩
theorem ty_rub0 (fl : Int32) (oc ho : Nat) (e : Int32) (s : TyO) : ty_rub fl oc ho e 0 s = s := by
  unfold ty_rub
  split
  · rfl
  · split
    · rfl
    · split <;> split <;> rfl
theorem yo_rub {e : Int32} {w : Nat} (ho : Nat) (hw : w ≤ 15) (hq : s.1 ≤ oc) (hc : oc ≤ 64) (h : P (nI lc, nI ic, nI oc, nI L, nI t.1, nI (ty_rub fl oc ho e w s).1, nI y.1, nI z.1, fl, dr, (ty_rub fl oc ho e w s).2.1, fg, ie, rm, st, pe, la, ln, lw, t.2.2, (ty_rub fl oc ho e w s).2.2.2, y.2.2, z.2.2, ct)) : wpY_rubOut P (nI lc, nI ic, nI oc, nI L, nI t.1, nI s.1, nI y.1, nI z.1, fl, dr, s.2.1, fg, ie, rm, st, pe, la, ln, lw, t.2.2, s.2.2.2, y.2.2, z.2.2, ct) e (nI w) := by
  have l1 : (nI oc - nI s.1).toInt64 = lN (oc - s.1) := by rw [pk_sub hq]; exact nI_l (by omega)
  by_cases c : fl &&& 2 = 0
  · unfold ty_rub at h
    simp only [if_pos c] at h
    exact br_t c h
  · by_cases d : fl &&& 4 = 0
    · unfold ty_rub at h
      simp only [if_neg c, if_pos d] at h
      exact br_f c (br_t d h)
    · refine br_f c (br_f d (pk_lt 0 w (fun w1 => ?_) (fun w1 => ?_)))
      · unfold ty_rub at h
        simp only [if_neg c, if_neg d] at h
        by_cases e9 : e = 9
        · simp only [if_pos e9] at h
          refine br_t e9 ?_
          by_cases r : w + s.1 ≤ oc
          · simp only [if_pos r] at h
            exact ty_lle w (oc - s.1) (fun _ => ⟨w + 1, yo_bs ho hc hw w 0 (w + 1) s (by omega) (by omega) (by rw [if_pos e9]; exact r) h⟩) (fun e => absurd e (by omega)) (nI_l (by omega)) l1 (by omega) (by omega)
          · simp only [if_neg r] at h
            exact ty_lle w (oc - s.1) (fun e => absurd e (by omega)) (fun _ => h) (nI_l (by omega)) l1 (by omega) (by omega)
        · simp only [if_neg e9] at h
          have l3 : 3 * (nI w).toInt64 = lN (3 * w) := by rw [nI_l (by omega)]; exact lN_mul 3 w
          refine br_f e9 ?_
          by_cases r : w * 3 + s.1 ≤ oc
          · simp only [if_pos r] at h
            exact ty_lle (3 * w) (oc - s.1) (fun _ => ⟨w + 1, yo_bs ho hc hw w 0 (w + 1) s (by omega) (by omega) (by rw [if_neg e9]; exact r) h⟩) (fun e => absurd e (by omega)) l3 l1 (by omega) (by omega)
          · simp only [if_neg r] at h
            exact ty_lle (3 * w) (oc - s.1) (fun e => absurd e (by omega)) (fun _ => h) l3 l1 (by omega) (by omega)
      · obtain rfl : w = 0 := by omega
        rw [ty_rub0] at h
        exact h
/-! the input's head shifted away -/
theorem ty_shE {b : TyF} {k : Nat} (hk : k < 64) : upd (ty_sh b (k + 1)) (nI (k + 1) - 1).toNatClampNeg (ty_sh b (k + 1) (nI (k + 1)).toNatClampNeg) = ty_sh b (k + 2) := by
  rw [nI_pred, nI_clamp (n := k) (by omega), nI_clamp (n := k + 1) (by omega), ty_shk]
  exact ty_shs b k
theorem yd_rmL {x : Int32} (h64 : t.1 ≤ 64) : ∀ (d k n : Nat), k + 1 + d = t.1 → d < n → Q x (nI lc, nI ic, nI oc, nI L, nI (ty_rm t).1, nI s.1, nI y.1, nI z.1, fl, dr, s.2.1, fg, ie, rm, st, pe, la, ln, lw, (ty_rm t).2.2, s.2.2.2, y.2.2, z.2.2, ct) → wY_removeInHead_9 Q x (nI lc) (nI ic) (nI oc) (nI L) (nI t.1) (nI s.1) (nI y.1) (nI z.1) fl dr s.2.1 fg ie rm st pe la n (nI (k + 1)) ln lw (ty_sh t.2.2 (k + 1)) s.2.2.2 y.2.2 z.2.2 ct := by
  intro d
  induction d with
  | zero =>
    intro k n hk hn h
    obtain ⟨n, rfl⟩ : ∃ k, n = k + 1 := ⟨n - 1, by omega⟩
    refine pk_le t.1 (k + 1) (fun _ => ?_) (fun e => absurd e (by omega))
    rw [show k + 1 = t.1 by omega]
    exact nm_r (ty_pred (by omega)) h
  | succ d ih =>
    intro k n hk hn h
    obtain ⟨n, rfl⟩ : ∃ k, n = k + 1 := ⟨n - 1, by omega⟩
    refine pk_le t.1 (k + 1) (fun e => absurd e (by omega)) (fun _ => pk_le 64 (k + 1) (fun e => absurd e (by omega)) (fun _ => ⟨vp_in_nI (by omega) (by omega), ?_, nm_r (ty_shE (by omega)) (nm_r (nI_1 (k + 1)) (ih (k + 1) n (by omega) (by omega) h))⟩))
    rw [nI_pred]; exact vp_in_nI (by omega) (by omega)
theorem yd_rm (h1 : 0 < t.1) (h64 : t.1 ≤ 64) (h : Q (t.2.2 0) (nI lc, nI ic, nI oc, nI L, nI (ty_rm t).1, nI s.1, nI y.1, nI z.1, fl, dr, s.2.1, fg, ie, rm, st, pe, la, ln, lw, (ty_rm t).2.2, s.2.2.2, y.2.2, z.2.2, ct)) : wpY_removeInHead Q (nI lc, nI ic, nI oc, nI L, nI t.1, nI s.1, nI y.1, nI z.1, fl, dr, s.2.1, fg, ie, rm, st, pe, la, ln, lw, t.2.2, s.2.2.2, y.2.2, z.2.2, ct) := by
  have k := yd_rmL (x := t.2.2 0) h64 (t.1 - 1) 0 (t.1 + 1) (by omega) (by omega) h
  rw [ty_sh1] at k
  exact nm_e ⟨t.1 + 1, k⟩
end TE
end
section
section TF
variable {lc ic oc L hi ho hu hs m m' : Nat} {s : TyO} {t y z : TyI} {fl dr st fg ie pe la rm : Int32} {ln lw ct : TyF} {P : SY → Prop} {Q : Int32 → SY → Prop} {U : Int32 → Prop}
theorem yc_221 {x1 x3 x4 z0 : Int32} (h : wY_check_314 P x1 (nI t.1) (ty_du x3 x4 z0 (nI t.1) ie) (nI lc) (nI ic) (nI oc) (nI L) (nI t.1) (nI s.1) (nI y.1) (nI z.1) fl dr s.2.1 fg ie rm st pe la ln lw t.2.2 s.2.2.2 y.2.2 z.2.2 ct) : wY_check_221 P x1 (nI t.1) x3 x4 z0 (nI lc) (nI ic) (nI oc) (nI L) (nI t.1) (nI s.1) (nI y.1) (nI z.1) fl dr s.2.1 fg ie rm st pe la ln lw t.2.2 s.2.2.2 y.2.2 z.2.2 ct := by
  unfold ty_du at h
  by_cases a : x3 = 0
  · rw [if_pos a] at h
    by_cases b : x4 = 0
    · rw [if_pos b] at h; exact br_t a (br_t b h)
    · rw [if_neg b] at h
      refine br_t a (br_f b (br_f b (br_t a ?_)))
      by_cases c : 1 ≤ nI t.1
      · rw [if_pos c] at h; exact br_t c h
      · rw [if_neg c] at h
        by_cases d : ie < x4
        · rw [if_pos d] at h; exact br_f c (br_t d h)
        · rw [if_neg d] at h; exact br_f c (br_f d h)
  · rw [if_neg a] at h
    refine br_f a ?_
    by_cases b : x4 = 0
    · rw [if_pos b] at h
      by_cases c : nI t.1 < z0
      · rw [if_pos c] at h; exact br_t b (br_t c h)
      · rw [if_neg c] at h; exact br_t b (br_f c h)
    · rw [if_neg b] at h
      refine br_f b (br_f a ?_)
      by_cases c : z0 ≤ nI t.1
      · rw [if_pos c] at h; exact br_t c h
      · rw [if_neg c] at h
        by_cases e : nI t.1 < 1
        · rw [if_pos e] at h; exact br_f c (br_t e h)
        · rw [if_neg e] at h
          by_cases d : ie < x4
          · rw [if_pos d] at h; exact br_f c (br_f e (br_t d h))
          · rw [if_neg d] at h; exact br_f c (br_f e (br_f d h))
theorem yc_341 {d0 : Nat} (hu : Nat) (hd : d0 ≤ 64) : ∀ (d c h f : Nat) (t y : TyI), c + d = d0 → t.1 ≤ 64 → d ≤ t.1 → y.1 + d ≤ 64 → d < f → P (nI lc, nI ic, nI oc, nI L, nI ((ty_dr hu d c h t y).2.2.1).1, nI s.1, nI ((ty_dr hu d c h t y).2.2.2).1, nI z.1, fl, dr, s.2.1, fg, ie, rm, st, 0, nI (ty_dr hu d c h t y).1, ln, lw, ((ty_dr hu d c h t y).2.2.1).2.2, s.2.2.2, ((ty_dr hu d c h t y).2.2.2).2.2, z.2.2, ct) → wY_check_341 P (nI d0) f (nI c) (nI c) (nI lc) (nI ic) (nI oc) (nI L) (nI t.1) (nI s.1) (nI y.1) (nI z.1) fl dr s.2.1 fg ie rm st pe la ln lw t.2.2 s.2.2.2 y.2.2 z.2.2 ct := by
  intro d
  induction d with
  | zero =>
    intro c h f t y hc q ht hy hf H
    obtain ⟨f, rfl⟩ : ∃ k, f = k + 1 := ⟨f - 1, by omega⟩
    exact pk_le d0 c (fun _ => H) (fun e => absurd e (by omega))
  | succ d ih =>
    intro c h f t y hc q ht hy hf H
    obtain ⟨f, rfl⟩ : ∃ k, f = k + 1 := ⟨f - 1, by omega⟩
    refine pk_le d0 c (fun e => absurd e (by omega)) (fun _ => pk_le 64 c (fun e => absurd e (by omega)) (fun _ => ?_))
    refine yd_rm (by omega) q ?_
    exact pk_le 64 y.1 (fun e => absurd e (by omega)) (fun _ => ⟨vp_in_nI (by omega) (by omega), nm_r (congrArg (fun i => upd y.2.2 i (t.2.2 0)) (nI_clamp (by omega))) (nm_r (nI_1 y.1) (nm_r (nI_1 c) (nm_r (nI_1 c) (ih (c + 1) ((h + 1) % 64) f (ty_rm t) (ty_in hu (t.2.2 0) y) (by omega) (by show t.1 - 1 ≤ 64; omega) (by show d ≤ t.1 - 1; omega) (by show y.1 + 1 + d ≤ 64; omega) (by omega) H))))⟩)
theorem yc_raw {r : Nat} (hi hu : Nat) (ht : t.1 ≤ 64) (hy : y.1 + r ≤ 64) {x6 : Int32} (h : P (nI lc, nI ic, nI oc, nI L, nI ((if x6 = 0 then (hi, t, y, pe, la) else ty_kd (ty_dr hu (ty_mi r t.1) 0 hi t y))).2.1.1, nI s.1, nI ((if x6 = 0 then (hi, t, y, pe, la) else ty_kd (ty_dr hu (ty_mi r t.1) 0 hi t y))).2.2.1.1, nI z.1, fl, dr, s.2.1, fg, ie, nI r, st, ((if x6 = 0 then (hi, t, y, pe, la) else ty_kd (ty_dr hu (ty_mi r t.1) 0 hi t y))).2.2.2.1, ((if x6 = 0 then (hi, t, y, pe, la) else ty_kd (ty_dr hu (ty_mi r t.1) 0 hi t y))).2.2.2.2, ln, lw, ((if x6 = 0 then (hi, t, y, pe, la) else ty_kd (ty_dr hu (ty_mi r t.1) 0 hi t y))).2.1.2.2, s.2.2.2, ((if x6 = 0 then (hi, t, y, pe, la) else ty_kd (ty_dr hu (ty_mi r t.1) 0 hi t y))).2.2.1.2.2, z.2.2, ct)) : wY_check_314 P 0 (nI t.1) x6 (nI lc) (nI ic) (nI oc) (nI L) (nI t.1) (nI s.1) (nI y.1) (nI z.1) fl dr s.2.1 fg ie (nI r) st pe la ln lw t.2.2 s.2.2.2 y.2.2 z.2.2 ct := by
  by_cases c : x6 = 0
  · simp only [if_pos c] at h
    exact br_t c h
  · simp only [if_neg c] at h
    refine br_f c (pk_le r t.1 (fun c => ?_) (fun c => ?_))
    · have e : ty_mi r t.1 = r := if_pos c
      rw [e] at h
      exact ⟨r + 1, yc_341 hu (by omega) r 0 hi (r + 1) t y (by omega) ht c (by omega) (by omega) h⟩
    · have e : ty_mi r t.1 = t.1 := if_neg (by omega)
      rw [e] at h
      exact ⟨t.1 + 1, yc_341 hu (by omega) t.1 0 hi (t.1 + 1) t y (by omega) ht (Nat.le_refl _) (by omega) (by omega) h⟩
theorem yc_75 {r : Nat} (hu : Nat) (hr : r ≤ 64) : ∀ (n c h i f : Nat) (t y : TyI), t.1 = n → t.1 ≤ 64 → i + n ≤ 64 → c ≤ r → y.1 + (r - c) ≤ 64 → n < f → P (nI lc, nI ic, nI oc, nI L, nI ((ty_dl hu r n c h t y).2.2.1).1, nI s.1, nI ((ty_dl hu r n c h t y).2.2.2).1, nI z.1, fl, dr, s.2.1, fg, ie, nI r, st, 0, nI (ty_dl hu r n c h t y).1, ln, lw, ((ty_dl hu r n c h t y).2.2.1).2.2, s.2.2.2, ((ty_dl hu r n c h t y).2.2.2).2.2, z.2.2, ct) → wY_check_75 P f (nI c) (nI i) (nI lc) (nI ic) (nI oc) (nI L) (nI t.1) (nI s.1) (nI y.1) (nI z.1) fl dr s.2.1 fg ie (nI r) st pe la ln lw t.2.2 s.2.2.2 y.2.2 z.2.2 ct := by
  intro n
  induction n with
  | zero =>
    intro c h i f t y ht q hi hc hy hf H
    obtain ⟨f, rfl⟩ : ∃ k, f = k + 1 := ⟨f - 1, by omega⟩
    exact pk_le 65 i (fun e => absurd e (by omega)) (fun _ => pk_eq t.1 0 (fun _ => H) (fun e => absurd ht e))
  | succ n ih =>
    intro c h i f t y ht q hi hc hy hf H
    obtain ⟨f, rfl⟩ : ∃ k, f = k + 1 := ⟨f - 1, by omega⟩
    refine pk_le 65 i (fun e => absurd e (by omega)) (fun _ => pk_eq t.1 0 (fun e => absurd e (by omega)) (fun _ => nm_e ?_))
    unfold ty_dl at H
    by_cases c1 : t.2.2 0 = 256
    · simp only [if_pos c1] at H
      refine br_t c1 ?_
      exact yd_rm (by omega) q H
    · simp only [if_neg c1] at H
      refine br_f c1 (pk_eq c r (fun e => ?_) (fun e => ?_))
      · simp only [if_pos e] at H
        exact H
      · simp only [if_neg e] at H
        refine yd_rm (by omega) q ?_
        refine pk_le 64 y.1 (fun e => absurd e (by omega)) (fun _ => ⟨vp_in_nI (by omega) (by omega), nm_r (congrArg (fun i => upd y.2.2 i (t.2.2 0)) (nI_clamp (by omega))) (nm_r (nI_1 y.1) (nm_r (nI_1 c) ?_))⟩)
        by_cases c3 : t.2.2 0 = 10
        · simp only [if_pos c3] at H
          exact br_t c3 H
        · simp only [if_neg c3] at H
          exact br_f c3 (nm_r (nI_1 i) (ih (c + 1) ((h + 1) % 64) (i + 1) f (ty_rm t) (ty_in hu (t.2.2 0) y) (by show t.1 - 1 = n; omega) (by show t.1 - 1 ≤ 64; omega) (by omega) (by omega) (by show y.1 + 1 + (r - (c + 1)) ≤ 64; omega) (by omega) H))
theorem yc_23 {x1 : Int32} (h64 : t.1 ≤ 64) : ∀ (d i n : Nat) (x2 : Int32), i + d = t.1 → d < n → wY_check_68 P x1 (if ty_an t.2.2 d i = true then 1 else x2) (nI lc) (nI ic) (nI oc) (nI L) (nI t.1) (nI s.1) (nI y.1) (nI z.1) fl dr s.2.1 fg ie rm st pe la ln lw t.2.2 s.2.2.2 y.2.2 z.2.2 ct → wY_check_23 P x1 (nI lc) (nI ic) (nI oc) (nI L) (nI t.1) (nI s.1) (nI y.1) (nI z.1) fl dr s.2.1 fg ie rm st pe la ln lw t.2.2 s.2.2.2 y.2.2 z.2.2 ct n x2 (nI i) := by
  intro d
  induction d with
  | zero =>
    intro i n x2 hi' hn h
    obtain ⟨n, rfl⟩ : ∃ k, n = k + 1 := ⟨n - 1, by omega⟩
    exact pk_le t.1 i (fun _ => h) (fun e => absurd e (by omega))
  | succ d ih =>
    intro i n x2 hi' hn h
    obtain ⟨n, rfl⟩ : ∃ k, n = k + 1 := ⟨n - 1, by omega⟩
    refine pk_le t.1 i (fun e => absurd e (by omega)) (fun _ => pk_le 64 i (fun e => absurd e (by omega)) (fun _ => ⟨vp_in_nI (by omega) (by omega), ?_⟩))
    rw [nI_clamp (n := i) (by omega)]
    unfold ty_an at h
    have one : ∀ b : Bool, (if b = true then (1 : Int32) else 1) = 1 := fun b => by cases b <;> rfl
    by_cases e : t.2.2 i = 10
    · rw [if_pos e, if_pos rfl] at h
      exact br_t e (nm_r (nI_1 i) (ih (i + 1) n 1 (by omega) (by omega) (by rw [one]; exact h)))
    · rw [if_neg e] at h
      by_cases e2 : t.2.2 i = 256
      · rw [if_pos e2, if_pos rfl] at h
        exact br_f e ⟨vp_in_nI (by omega) (by omega), br_t e2 (nm_r (nI_1 i) (ih (i + 1) n 1 (by omega) (by omega) (by rw [one]; exact h)))⟩
      · rw [if_neg e2] at h
        exact br_f e ⟨vp_in_nI (by omega) (by omega), br_f e2 (nm_r (nI_1 i) (ih (i + 1) n x2 (by omega) (by omega) h))⟩
theorem yc_check (hi hu : Nat) (h64 : t.1 ≤ 64) (hp : ty_p pe rm y) (h : P (nI lc, nI ic, nI oc, nI L, nI (ty_ck fl pe la rm ie ct hi hu t y).2.1.1, nI s.1, nI (ty_ck fl pe la rm ie ct hi hu t y).2.2.1.1, nI z.1, fl, dr, s.2.1, fg, ie, rm, st, (ty_ck fl pe la rm ie ct hi hu t y).2.2.2.1, (ty_ck fl pe la rm ie ct hi hu t y).2.2.2.2, ln, lw, (ty_ck fl pe la rm ie ct hi hu t y).2.1.2.2, s.2.2.2, (ty_ck fl pe la rm ie ct hi hu t y).2.2.1.2.2, z.2.2, ct)) : wpY_check P (nI lc, nI ic, nI oc, nI L, nI t.1, nI s.1, nI y.1, nI z.1, fl, dr, s.2.1, fg, ie, rm, st, pe, la, ln, lw, t.2.2, s.2.2.2, y.2.2, z.2.2, ct) := by
  unfold ty_ck at h
  by_cases a : pe = 0
  · simp only [if_pos a] at h; exact br_t a h
  · obtain ⟨r, hr1, hr2, rfl⟩ := hp a
    simp only [if_neg a, nI_clamp (show r < 2 ^ 31 by omega)] at h
    refine br_f a ?_
    by_cases b : fl &&& 1 = 0
    · simp only [if_pos b] at h
      unfold ty_nd at h
      refine br_t b (nm_e (nm_e ?_))
      by_cases c : nI r ≤ ct 8
      · simp only [if_pos c] at h
        exact br_t c (yc_221 (yc_raw hi hu h64 hr2 h))
      · simp only [if_neg c] at h
        exact br_f c (yc_221 (yc_raw hi hu h64 hr2 h))
    · simp only [if_neg b] at h
      refine br_f b ⟨t.1 + 1, yc_23 h64 t.1 0 (t.1 + 1) 0 (by omega) (by omega) ?_⟩
      by_cases c : ty_an t.2.2 t.1 0 = true
      · simp only [if_pos c] at h
        rw [if_pos c]
        exact br_f (by decide) ⟨t.1 + 1, yc_75 hu (by omega) t.1 0 hi 0 (t.1 + 1) t y rfl h64 (by omega) (by omega) (by omega) (by omega) h⟩
      · simp only [if_neg c] at h
        rw [if_neg c]
        exact br_t rfl h
end TF
end
section
section TG
variable {lc ic oc L hi ho hu hs m m' : Nat} {s : TyO} {t y z : TyI} {fl dr st fg ie pe la rm : Int32} {ln lw ct : TyF} {P : SY → Prop} {Q : Int32 → SY → Prop} {x4 : Int32}
theorem yr_987 {a : Int32} (hi hu : Nat) (h64 : t.1 ≤ 64) (hp : ty_p pe rm y) (h : Q a (nI lc, nI ic, nI oc, nI L, nI (ty_ck fl pe la rm ie ct hi hu t y).2.1.1, nI s.1, nI (ty_ck fl pe la rm ie ct hi hu t y).2.2.1.1, nI z.1, fl, dr, s.2.1, fg, ie, rm, st, (ty_ck fl pe la rm ie ct hi hu t y).2.2.2.1, (ty_ck fl pe la rm ie ct hi hu t y).2.2.2.2, ln, lw, (ty_ck fl pe la rm ie ct hi hu t y).2.1.2.2, s.2.2.2, (ty_ck fl pe la rm ie ct hi hu t y).2.2.1.2.2, z.2.2, ct)) : wY_receive_987 Q a (nI lc) (nI ic) (nI oc) (nI L) (nI t.1) (nI s.1) (nI y.1) (nI z.1) fl dr s.2.1 fg ie rm st pe la ln lw t.2.2 s.2.2.2 y.2.2 z.2.2 ct := yc_check hi hu h64 hp h
theorem yr_ra1 (hi ho : Nat) (b : fl &&& 1 = 0) (hm : m < 256) (ht : t.1 < ic) (hc : ic ≤ 64) (hc' : oc ≤ 64) (hq : s.1 ≤ oc) (h : wY_receive_987 Q 6 (nI lc) (nI ic) (nI oc) (nI L) (nI (ty_in hi (nI m) t).1) (nI (ty_echo fl oc ho m s).1) (nI y.1) (nI z.1) fl dr ((ty_echo fl oc ho m s).2.1) fg 0 rm st pe la ln lw ((ty_in hi (nI m) t).2.2) ((ty_echo fl oc ho m s).2.2.2) y.2.2 z.2.2 ct) : wY_receive_279 Q (nI m) x4 (nI lc) (nI ic) (nI oc) (nI L) (nI t.1) (nI s.1) (nI y.1) (nI z.1) fl dr s.2.1 fg ie rm st pe la ln lw t.2.2 s.2.2.2 y.2.2 z.2.2 ct := by
  refine br_t b (pk_lt t.1 ic (fun _ => ⟨vp_in_nI (by omega) (by omega), nm_r (congrArg (fun i => upd t.2.2 i (nI m)) (nI_clamp (by omega))) (nm_r (nI_1 t.1) ?_)⟩) (fun e => absurd e (by omega)))
  exact yo_echo (t := ty_in hi (nI m) t) ho hm hq hc' h
theorem yr_ra0 (b : fl &&& 1 = 0) (ht : ic ≤ t.1) (hc : t.1 ≤ 64) (h : wY_receive_987 Q 7 (nI lc) (nI ic) (nI oc) (nI L) (nI t.1) (nI s.1) (nI y.1) (nI z.1) fl (dr + 1) s.2.1 fg ie rm st pe la ln lw t.2.2 s.2.2.2 y.2.2 z.2.2 ct) : wY_receive_279 Q (nI m) x4 (nI lc) (nI ic) (nI oc) (nI L) (nI t.1) (nI s.1) (nI y.1) (nI z.1) fl dr s.2.1 fg ie rm st pe la ln lw t.2.2 s.2.2.2 y.2.2 z.2.2 ct :=
  br_t b (pk_lt t.1 ic (fun e => absurd e (by omega)) (fun _ => nm_e h))
theorem ty_rl4 {j : Nat} (c : fl &&& 4 = 0) : ty_rl fl oc ho ln lw j s = s := by
  unfold ty_rl ty_rub
  by_cases d : fl &&& 2 = 0
  · rw [if_pos d]
  · rw [if_neg d, if_pos c]
theorem ty_cut1 {l : Nat} : ty_cut (ty_rl fl oc ho ln lw) l (l + 1) s = ty_rl fl oc ho ln lw l s := by
  rw [ty_cutS _ _ (Nat.le_refl l), ty_cutE]
theorem yr_er0 (b : ¬ fl &&& 1 = 0) (e2 : nI m = ct 2) (h : wY_receive_987 Q 4 (nI lc) (nI ic) (nI oc) (nI 0) (nI t.1) (nI s.1) (nI y.1) (nI z.1) fl dr s.2.1 fg ie rm st pe la ln lw t.2.2 s.2.2.2 y.2.2 z.2.2 ct) : wY_receive_279 Q (nI m) x4 (nI lc) (nI ic) (nI oc) (nI 0) (nI t.1) (nI s.1) (nI y.1) (nI z.1) fl dr s.2.1 fg ie rm st pe la ln lw t.2.2 s.2.2.2 y.2.2 z.2.2 ct :=
  br_f b (br_t e2 (pk_le 0 0 (fun _ => h) (fun e => absurd e (by omega))))
theorem yr_er1 {l : Nat} (ho : Nat) (hx : x4 = 0 ↔ fl &&& 4 = 0) (b : ¬ fl &&& 1 = 0) (e2 : nI m = ct 2) (hm : m < 256) (hl : ty_l lw (l + 1)) (hL : l + 1 ≤ 32) (hc : oc ≤ 64) (ok : ty_o oc ho s) (h : wY_receive_987 Q 4 (nI lc) (nI ic) (nI oc) (nI l) (nI t.1) (nI (ty_ee fl oc ho m (ty_cut (ty_rl fl oc ho ln lw) l (l + 1) s)).1) (nI y.1) (nI z.1) fl dr ((ty_ee fl oc ho m (ty_cut (ty_rl fl oc ho ln lw) l (l + 1) s)).2.1) fg ie rm st pe la ln lw t.2.2 ((ty_ee fl oc ho m (ty_cut (ty_rl fl oc ho ln lw) l (l + 1) s)).2.2.2) y.2.2 z.2.2 ct) : wY_receive_279 Q (nI m) x4 (nI lc) (nI ic) (nI oc) (nI (l + 1)) (nI t.1) (nI s.1) (nI y.1) (nI z.1) fl dr s.2.1 fg ie rm st pe la ln lw t.2.2 s.2.2.2 y.2.2 z.2.2 ct := by
  rw [ty_cut1] at h
  refine br_f b (br_t e2 (pk_le (l + 1) 0 (fun e => absurd e (by omega)) (fun _ => nm_r (nI_pred l) ?_)))
  unfold ty_ee at h
  by_cases c : fl &&& 4 = 0
  · rw [ty_rl4 c] at h
    simp only [if_pos c] at h
    refine br_t (hx.mpr c) ?_
    exact yo_echo ho hm ok.1 hc h
  · obtain ⟨w, hw, ew⟩ := hl l (by omega)
    rw [ty_rlE ew hw] at h
    simp only [if_neg c] at h
    refine br_f (fun k => c (hx.mp k)) ⟨vp_in_nI (by omega) (by omega), vp_in_nI (by omega) (by omega), ?_⟩
    rw [nI_clamp (n := l) (by omega), ew]
    exact yo_rub ho hw ok.1 hc h
theorem yr_we0 (b : ¬ fl &&& 1 = 0) (e2 : ¬ nI m = ct 2) (e3 : nI m = ct 3) (h : wY_receive_987 Q 4 (nI lc) (nI ic) (nI oc) (nI 0) (nI t.1) (nI s.1) (nI y.1) (nI z.1) fl dr s.2.1 fg ie rm st pe la ln lw t.2.2 s.2.2.2 y.2.2 z.2.2 ct) : wY_receive_279 Q (nI m) x4 (nI lc) (nI ic) (nI oc) (nI 0) (nI t.1) (nI s.1) (nI y.1) (nI z.1) fl dr s.2.1 fg ie rm st pe la ln lw t.2.2 s.2.2.2 y.2.2 z.2.2 ct :=
  br_f b (br_f e2 (br_t e3 (pk_le 0 0 (fun _ => h) (fun e => absurd e (by omega)))))
theorem yr_553 (ho : Nat) (hx : x4 = 0 ↔ fl &&& 4 = 0) (hm : m < 256) (hc : oc ≤ 64) (hq : s.1 ≤ oc) (h : wY_receive_987 Q 4 (nI lc) (nI ic) (nI oc) (nI L) (nI t.1) (nI (ty_ee fl oc ho m s).1) (nI y.1) (nI z.1) fl dr ((ty_ee fl oc ho m s).2.1) fg ie rm st pe la ln lw t.2.2 ((ty_ee fl oc ho m s).2.2.2) y.2.2 z.2.2 ct) : wY_receive_553 Q (nI m) x4 (nI lc) (nI ic) (nI oc) (nI L) (nI t.1) (nI s.1) (nI y.1) (nI z.1) fl dr s.2.1 fg ie rm st pe la ln lw t.2.2 s.2.2.2 y.2.2 z.2.2 ct := by
  unfold ty_ee at h
  by_cases c : fl &&& 4 = 0
  · simp only [if_pos c] at h
    refine br_t (hx.mpr c) ?_
    exact yo_echo ho hm hq hc h
  · simp only [if_neg c] at h
    exact br_f (fun k => c (hx.mp k)) h
theorem yr_466 {L0 : Nat} {x2 : Int32} (ho : Nat) (hl : ty_l lw L0) (hL : L0 ≤ 32) (hc : oc ≤ 64) : ∀ (j i n : Nat) (s : TyO), j + i ≤ 32 → j ≤ L0 → j < n → ty_o oc ho s → wY_receive_553 Q x2 x4 (nI lc) (nI ic) (nI oc) (nI (ty_ww ln j)) (nI t.1) (nI (ty_cut (ty_rl fl oc ho ln lw) (ty_ww ln j) j s).1) (nI y.1) (nI z.1) fl dr ((ty_cut (ty_rl fl oc ho ln lw) (ty_ww ln j) j s).2.1) fg ie rm st pe la ln lw t.2.2 ((ty_cut (ty_rl fl oc ho ln lw) (ty_ww ln j) j s).2.2.2) y.2.2 z.2.2 ct → wY_receive_466 Q x2 x4 n (nI i) (nI lc) (nI ic) (nI oc) (nI j) (nI t.1) (nI s.1) (nI y.1) (nI z.1) fl dr s.2.1 fg ie rm st pe la ln lw t.2.2 s.2.2.2 y.2.2 z.2.2 ct := by
  intro j
  induction j with
  | zero =>
    intro i n s hi' hj hn ok h
    obtain ⟨n, rfl⟩ : ∃ k, n = k + 1 := ⟨n - 1, by omega⟩
    exact pk_le 32 i (fun _ => h) (fun _ => pk_eq 0 0 (fun _ => h) (fun e => absurd rfl e))
  | succ j ih =>
    intro i n s hi' hj hn ok h
    obtain ⟨n, rfl⟩ : ∃ k, n = k + 1 := ⟨n - 1, by omega⟩
    refine pk_le 32 i (fun e => absurd e (by omega)) (fun _ => pk_eq (j + 1) 0 (fun e => absurd e (by omega)) (fun _ => ?_))
    rw [nI_pred]
    refine ⟨vp_in_nI (by omega) (by omega), ?_⟩
    rw [nI_clamp (n := j) (by omega)]
    by_cases c : ty_bl (ln j) = true
    · rw [ty_wwE c, ty_cutE] at h
      by_cases d : ln j = 32
      · exact br_t d h
      · rcases ty_bl1 c with k | k
        · exact absurd k d
        · exact br_f d ⟨vp_in_nI (by omega) (by omega), br_t k h⟩
    · obtain ⟨w, hw, ew⟩ := hl j (by omega)
      rw [ty_wwS c, ty_cutS _ _ (ty_wwle ln j), ty_rlE ew hw] at h
      refine br_f (ty_bl0 c).1 ⟨vp_in_nI (by omega) (by omega), br_f (ty_bl0 c).2 (nm_e ⟨vp_in_nI (by omega) (by omega), vp_in_nI (by omega) (by omega), ?_⟩)⟩
      rw [nI_clamp (n := j) (by omega), ew]
      exact yo_rub ho hw ok.1 hc (nm_r (nI_1 i) (ih (i + 1) n _ (by omega) (by omega) (by omega) (ty_oRub ok hc) h))
theorem yr_376 {L0 : Nat} {x2 : Int32} (ho : Nat) (hl : ty_l lw L0) (hL : L0 ≤ 32) (hc : oc ≤ 64) : ∀ (j i n : Nat) (s : TyO), j + i ≤ 32 → j ≤ L0 → j < n → ty_o oc ho s → wY_receive_553 Q x2 x4 (nI lc) (nI ic) (nI oc) (nI (ty_ww ln (ty_wb ln j))) (nI t.1) (nI (ty_cut (ty_rl fl oc ho ln lw) (ty_ww ln (ty_wb ln j)) (ty_wb ln j) (ty_cut (ty_rl fl oc ho ln lw) (ty_wb ln j) j s)).1) (nI y.1) (nI z.1) fl dr ((ty_cut (ty_rl fl oc ho ln lw) (ty_ww ln (ty_wb ln j)) (ty_wb ln j) (ty_cut (ty_rl fl oc ho ln lw) (ty_wb ln j) j s)).2.1) fg ie rm st pe la ln lw t.2.2 ((ty_cut (ty_rl fl oc ho ln lw) (ty_ww ln (ty_wb ln j)) (ty_wb ln j) (ty_cut (ty_rl fl oc ho ln lw) (ty_wb ln j) j s)).2.2.2) y.2.2 z.2.2 ct → wY_receive_376 Q x2 x4 n (nI i) (nI lc) (nI ic) (nI oc) (nI j) (nI t.1) (nI s.1) (nI y.1) (nI z.1) fl dr s.2.1 fg ie rm st pe la ln lw t.2.2 s.2.2.2 y.2.2 z.2.2 ct := by
  intro j
  induction j with
  | zero =>
    intro i n s hi' hj hn ok h
    obtain ⟨n, rfl⟩ : ∃ k, n = k + 1 := ⟨n - 1, by omega⟩
    have k : wY_receive_466 Q x2 x4 1 (nI 0) (nI lc) (nI ic) (nI oc) (nI 0) (nI t.1) (nI s.1) (nI y.1) (nI z.1) fl dr s.2.1 fg ie rm st pe la ln lw t.2.2 s.2.2.2 y.2.2 z.2.2 ct := yr_466 ho hl hL hc 0 0 1 s (by omega) (by omega) (by omega) ok h
    exact pk_le 32 i (fun _ => ⟨1, k⟩) (fun _ => pk_eq 0 0 (fun _ => ⟨1, k⟩) (fun e => absurd rfl e))
  | succ j ih =>
    intro i n s hi' hj hn ok h
    obtain ⟨n, rfl⟩ : ∃ k, n = k + 1 := ⟨n - 1, by omega⟩
    refine pk_le 32 i (fun e => absurd e (by omega)) (fun _ => pk_eq (j + 1) 0 (fun e => absurd e (by omega)) (fun _ => ?_))
    by_cases c : ty_bl (ln j) = true
    · obtain ⟨w, hw, ew⟩ := hl j (by omega)
      rw [ty_wbS c, ty_cutS _ _ (ty_wble ln j), ty_rlE ew hw] at h
      have k : wY_receive_425 Q (wY_receive_376 Q x2 x4 n) x2 x4 (nI i) (nI lc) (nI ic) (nI oc) (nI (j + 1)) (nI t.1) (nI s.1) (nI y.1) (nI z.1) fl dr s.2.1 fg ie rm st pe la ln lw t.2.2 s.2.2.2 y.2.2 z.2.2 ct := by
        refine nm_r (nI_pred j) ⟨vp_in_nI (by omega) (by omega), vp_in_nI (by omega) (by omega), ?_⟩
        rw [nI_clamp (n := j) (by omega), ew]
        exact yo_rub ho hw ok.1 hc (nm_r (nI_1 i) (ih (i + 1) n _ (by omega) (by omega) (by omega) (ty_oRub ok hc) h))
      rw [nI_pred]
      refine ⟨vp_in_nI (by omega) (by omega), ?_⟩
      rw [nI_clamp (n := j) (by omega)]
      by_cases d : ln j = 32
      · exact br_t d k
      · rcases ty_bl1 c with l | l
        · exact absurd l d
        · exact br_f d ⟨vp_in_nI (by omega) (by omega), br_t l k⟩
    · rw [ty_wbE c, ty_cutE] at h
      have k : wY_receive_466 Q x2 x4 (j + 2) (nI 0) (nI lc) (nI ic) (nI oc) (nI (j + 1)) (nI t.1) (nI s.1) (nI y.1) (nI z.1) fl dr s.2.1 fg ie rm st pe la ln lw t.2.2 s.2.2.2 y.2.2 z.2.2 ct := yr_466 ho hl hL hc (j + 1) 0 (j + 2) s (by omega) (by omega) (by omega) ok h
      rw [nI_pred]
      refine ⟨vp_in_nI (by omega) (by omega), ?_⟩
      rw [nI_clamp (n := j) (by omega)]
      exact br_f (ty_bl0 c).1 ⟨vp_in_nI (by omega) (by omega), br_f (ty_bl0 c).2 ⟨j + 2, k⟩⟩
theorem yr_we1 {l : Nat} (ho : Nat) (hx : x4 = 0 ↔ fl &&& 4 = 0) (b : ¬ fl &&& 1 = 0) (e2 : ¬ nI m = ct 2) (e3 : nI m = ct 3) (hm : m < 256) (hl : ty_l lw (l + 1)) (hL : l + 1 ≤ 32) (hc : oc ≤ 64) (ok : ty_o oc ho s) (h : wY_receive_987 Q 4 (nI lc) (nI ic) (nI oc) (nI (ty_ww ln (ty_wb ln (l + 1)))) (nI t.1) (nI (ty_ee fl oc ho m (ty_cut (ty_rl fl oc ho ln lw) (ty_ww ln (ty_wb ln (l + 1))) (l + 1) s)).1) (nI y.1) (nI z.1) fl dr ((ty_ee fl oc ho m (ty_cut (ty_rl fl oc ho ln lw) (ty_ww ln (ty_wb ln (l + 1))) (l + 1) s)).2.1) fg ie rm st pe la ln lw t.2.2 ((ty_ee fl oc ho m (ty_cut (ty_rl fl oc ho ln lw) (ty_ww ln (ty_wb ln (l + 1))) (l + 1) s)).2.2.2) y.2.2 z.2.2 ct) : wY_receive_279 Q (nI m) x4 (nI lc) (nI ic) (nI oc) (nI (l + 1)) (nI t.1) (nI s.1) (nI y.1) (nI z.1) fl dr s.2.1 fg ie rm st pe la ln lw t.2.2 s.2.2.2 y.2.2 z.2.2 ct := by
  rw [ty_cutM _ (ty_wwle ln (ty_wb ln (l + 1))) (l + 1) s (ty_wble ln (l + 1))] at h
  refine br_f b (br_f e2 (br_t e3 (pk_le (l + 1) 0 (fun e => absurd e (by omega)) (fun _ => ⟨l + 2, yr_376 ho hl hL hc (l + 1) 0 (l + 2) s (by omega) (by omega) (by omega) ok ?_⟩))))
  exact yr_553 ho hx hm hc (ty_oCut (fun _ _ k => ty_oRl k hc) _ _ (ty_oCut (fun _ _ k => ty_oRl k hc) _ _ ok)).1 h
theorem yr_ki0 (b : ¬ fl &&& 1 = 0) (e2 : ¬ nI m = ct 2) (e3 : ¬ nI m = ct 3) (e4 : nI m = ct 4) (h : wY_receive_987 Q 4 (nI lc) (nI ic) (nI oc) (nI 0) (nI t.1) (nI s.1) (nI y.1) (nI z.1) fl dr s.2.1 fg ie rm st pe la ln lw t.2.2 s.2.2.2 y.2.2 z.2.2 ct) : wY_receive_279 Q (nI m) x4 (nI lc) (nI ic) (nI oc) (nI 0) (nI t.1) (nI s.1) (nI y.1) (nI z.1) fl dr s.2.1 fg ie rm st pe la ln lw t.2.2 s.2.2.2 y.2.2 z.2.2 ct :=
  br_f b (br_f e2 (br_f e3 (br_t e4 (pk_le 0 0 (fun _ => h) (fun e => absurd e (by omega))))))
theorem yr_641 (ho : Nat) (hx : x4 = 0 ↔ fl &&& 4 = 0) (hm : m < 256) (hc : oc ≤ 64) (ok : ty_o oc ho s) (h : wY_receive_987 Q 4 (nI lc) (nI ic) (nI oc) (nI L) (nI t.1) (nI (ty_ek fl oc ho m s).1) (nI y.1) (nI z.1) fl dr ((ty_ek fl oc ho m s).2.1) fg ie rm st pe la ln lw t.2.2 ((ty_ek fl oc ho m s).2.2.2) y.2.2 z.2.2 ct) : wY_receive_641 Q (nI m) x4 (nI lc) (nI ic) (nI oc) (nI L) (nI t.1) (nI s.1) (nI y.1) (nI z.1) fl dr s.2.1 fg ie rm st pe la ln lw t.2.2 s.2.2.2 y.2.2 z.2.2 ct := by
  unfold ty_ek at h
  by_cases c : fl &&& 4 = 0
  · simp only [if_pos c] at h
    refine br_t (hx.mpr c) ?_
    refine yo_echo ho hm ok.1 hc ?_
    exact yo_echo (m := 10) ho (by omega) (ty_oEcho ok hc).1 hc h
  · simp only [if_neg c] at h
    exact br_f (fun k => c (hx.mp k)) h
theorem yr_589 {L0 : Nat} {x2 : Int32} (ho : Nat) (hl : ty_l lw L0) (hL : L0 ≤ 32) (hc : oc ≤ 64) : ∀ (j i n : Nat) (s : TyO), j + i ≤ 32 → j ≤ L0 → j < n → ty_o oc ho s → wY_receive_641 Q x2 x4 (nI lc) (nI ic) (nI oc) (nI 0) (nI t.1) (nI (ty_cut (ty_rl fl oc ho ln lw) 0 j s).1) (nI y.1) (nI z.1) fl dr ((ty_cut (ty_rl fl oc ho ln lw) 0 j s).2.1) fg ie rm st pe la ln lw t.2.2 ((ty_cut (ty_rl fl oc ho ln lw) 0 j s).2.2.2) y.2.2 z.2.2 ct → wY_receive_589 Q x2 x4 n (nI i) (nI lc) (nI ic) (nI oc) (nI j) (nI t.1) (nI s.1) (nI y.1) (nI z.1) fl dr s.2.1 fg ie rm st pe la ln lw t.2.2 s.2.2.2 y.2.2 z.2.2 ct := by
  intro j
  induction j with
  | zero =>
    intro i n s hi' hj hn ok h
    obtain ⟨n, rfl⟩ : ∃ k, n = k + 1 := ⟨n - 1, by omega⟩
    exact pk_le 32 i (fun _ => h) (fun _ => pk_le 0 0 (fun _ => h) (fun e => absurd e (by omega)))
  | succ j ih =>
    intro i n s hi' hj hn ok h
    obtain ⟨n, rfl⟩ : ∃ k, n = k + 1 := ⟨n - 1, by omega⟩
    obtain ⟨w, hw, ew⟩ := hl j (by omega)
    rw [ty_cutS _ _ (Nat.zero_le j), ty_rlE ew hw] at h
    refine pk_le 32 i (fun e => absurd e (by omega)) (fun _ => pk_le (j + 1) 0 (fun e => absurd e (by omega)) (fun _ => nm_r (nI_pred j) ⟨vp_in_nI (by omega) (by omega), vp_in_nI (by omega) (by omega), ?_⟩))
    rw [nI_clamp (n := j) (by omega), ew]
    exact yo_rub ho hw ok.1 hc (nm_r (nI_1 i) (ih (i + 1) n _ (by omega) (by omega) (by omega) (ty_oRub ok hc) h))
theorem yr_ki1 {l : Nat} (ho : Nat) (hx : x4 = 0 ↔ fl &&& 4 = 0) (b : ¬ fl &&& 1 = 0) (e2 : ¬ nI m = ct 2) (e3 : ¬ nI m = ct 3) (e4 : nI m = ct 4) (hm : m < 256) (hl : ty_l lw (l + 1)) (hL : l + 1 ≤ 32) (hc : oc ≤ 64) (ok : ty_o oc ho s) (h : wY_receive_987 Q 4 (nI lc) (nI ic) (nI oc) (nI 0) (nI t.1) (nI (ty_ek fl oc ho m (ty_cut (ty_rl fl oc ho ln lw) 0 (l + 1) s)).1) (nI y.1) (nI z.1) fl dr ((ty_ek fl oc ho m (ty_cut (ty_rl fl oc ho ln lw) 0 (l + 1) s)).2.1) fg ie rm st pe la ln lw t.2.2 ((ty_ek fl oc ho m (ty_cut (ty_rl fl oc ho ln lw) 0 (l + 1) s)).2.2.2) y.2.2 z.2.2 ct) : wY_receive_279 Q (nI m) x4 (nI lc) (nI ic) (nI oc) (nI (l + 1)) (nI t.1) (nI s.1) (nI y.1) (nI z.1) fl dr s.2.1 fg ie rm st pe la ln lw t.2.2 s.2.2.2 y.2.2 z.2.2 ct := by
  refine br_f b (br_f e2 (br_f e3 (br_t e4 (pk_le (l + 1) 0 (fun e => absurd e (by omega)) (fun _ => ⟨l + 2, yr_589 ho hl hL hc (l + 1) 0 (l + 2) s (by omega) (by omega) (by omega) ok ?_⟩)))))
  exact yr_641 ho hx hm hc (ty_oCut (fun _ _ k => ty_oRl k hc) _ _ ok) h
theorem yr_705 {x2 : Int32} (hi : Nat) (hL : L ≤ 32) : ∀ (d k n : Nat) (t : TyI), k + d = L → d < n → t.1 + d ≤ 64 → wY_receive_751 Q x2 (nI lc) (nI ic) (nI oc) (nI L) (nI (ty_pl hi ln d k t).1) (nI s.1) (nI y.1) (nI z.1) fl dr s.2.1 fg ie rm st pe la ln lw ((ty_pl hi ln d k t).2.2) s.2.2.2 y.2.2 z.2.2 ct → wY_receive_705 Q x2 (nI L) (nI lc) (nI ic) (nI oc) (nI L) (nI s.1) (nI y.1) (nI z.1) fl dr s.2.1 fg ie rm st pe la n (nI k) (nI t.1) ln lw t.2.2 s.2.2.2 y.2.2 z.2.2 ct := by
  intro d
  induction d with
  | zero =>
    intro k n t hk hn ht h
    obtain ⟨n, rfl⟩ : ∃ k, n = k + 1 := ⟨n - 1, by omega⟩
    exact pk_le L k (fun _ => h) (fun e => absurd e (by omega))
  | succ d ih =>
    intro k n t hk hn ht h
    obtain ⟨n, rfl⟩ : ∃ k, n = k + 1 := ⟨n - 1, by omega⟩
    refine pk_le L k (fun e => absurd e (by omega)) (fun _ => pk_le 32 k (fun e => absurd e (by omega)) (fun _ => ⟨vp_in_nI (by omega) (by omega), vp_in_nI (by omega) (by omega), ?_⟩))
    rw [nI_clamp (n := k) (by omega), nI_clamp (n := t.1) (by omega)]
    exact nm_e (nm_r (nI_1 t.1) (nm_r (nI_1 k) (ih (k + 1) n (ty_in hi (ln k) t) (by omega) (by omega) (by show t.1 + 1 + d ≤ 64; omega) h)))
theorem yr_783f {x : Int32} (hi : Nat) (e5 : nI m = ct 5) (ht : t.1 < 64) (h : wY_receive_987 Q 5 (nI lc) (nI ic) (nI oc) (nI 0) (nI (ty_in hi x t).1) (nI s.1) (nI y.1) (nI z.1) fl dr s.2.1 fg ie rm st pe la ln lw ((ty_in hi x t).2.2) s.2.2.2 y.2.2 z.2.2 ct) : wY_receive_783 Q (nI m) x (nI t.1) (nI lc) (nI ic) (nI oc) (nI L) (nI t.1) (nI s.1) (nI y.1) (nI z.1) fl dr s.2.1 fg ie rm st pe la ln lw t.2.2 s.2.2.2 y.2.2 z.2.2 ct :=
  ⟨vp_in_nI ht (by omega), nm_r (congrArg (fun i => upd t.2.2 i x) (nI_clamp (by omega))) (nm_r (nI_1 t.1) (br_t e5 h))⟩
theorem yr_783l {x : Int32} (hi ho : Nat) (e5 : ¬ nI m = ct 5) (ht : t.1 < 64) (hc : oc ≤ 64) (hq : s.1 ≤ oc) (h : wY_receive_987 Q 5 (nI lc) (nI ic) (nI oc) (nI 0) (nI (ty_in hi x t).1) (nI (ty_echo fl oc ho 10 s).1) (nI y.1) (nI z.1) fl dr ((ty_echo fl oc ho 10 s).2.1) fg ie rm st pe la ln lw ((ty_in hi x t).2.2) ((ty_echo fl oc ho 10 s).2.2.2) y.2.2 z.2.2 ct) : wY_receive_783 Q (nI m) x (nI t.1) (nI lc) (nI ic) (nI oc) (nI L) (nI t.1) (nI s.1) (nI y.1) (nI z.1) fl dr s.2.1 fg ie rm st pe la ln lw t.2.2 s.2.2.2 y.2.2 z.2.2 ct := by
  refine ⟨vp_in_nI ht (by omega), nm_r (congrArg (fun i => upd t.2.2 i x) (nI_clamp (by omega))) (nm_r (nI_1 t.1) (br_f e5 ?_))⟩
  exact yo_echo (m := 10) (t := ty_in hi x t) ho (by omega) hq hc h
theorem yr_ef1 (hi : Nat) (b : ¬ fl &&& 1 = 0) (e2 : ¬ nI m = ct 2) (e3 : ¬ nI m = ct 3) (e4 : ¬ nI m = ct 4) (e5 : nI m = ct 5) (hL : L ≤ 32) (hc : ic ≤ 64) (hr : t.1 + L + 1 ≤ ic) (h : wY_receive_987 Q 5 (nI lc) (nI ic) (nI oc) (nI 0) (nI (ty_in hi 256 (ty_pl hi ln L 0 t)).1) (nI s.1) (nI y.1) (nI z.1) fl dr s.2.1 fg ie rm st pe la ln lw ((ty_in hi 256 (ty_pl hi ln L 0 t)).2.2) s.2.2.2 y.2.2 z.2.2 ct) : wY_receive_279 Q (nI m) x4 (nI lc) (nI ic) (nI oc) (nI L) (nI t.1) (nI s.1) (nI y.1) (nI z.1) fl dr s.2.1 fg ie rm st pe la ln lw t.2.2 s.2.2.2 y.2.2 z.2.2 ct := by
  refine br_f b (br_f e2 (br_f e3 (br_f e4 (br_t e5 (pk_lt (ic - t.1) (L + 1) (fun e => absurd e (by omega)) (fun _ => ⟨L + 1, yr_705 hi hL L 0 (L + 1) t (by omega) (by omega) (by omega) ?_⟩) (hx := pk_sub (by omega)) (hy := nI_1 L))))))
  have k : wY_receive_783 Q (nI m) 256 (nI (ty_pl hi ln L 0 t).1) (nI lc) (nI ic) (nI oc) (nI L) (nI (ty_pl hi ln L 0 t).1) (nI s.1) (nI y.1) (nI z.1) fl dr s.2.1 fg ie rm st pe la ln lw ((ty_pl hi ln L 0 t).2.2) s.2.2.2 y.2.2 z.2.2 ct := yr_783f hi e5 (by rw [ty_pl1]; omega) h
  exact br_c (fun _ => br_t e5 k) (fun _ => k)
theorem yr_ef0 (b : ¬ fl &&& 1 = 0) (e2 : ¬ nI m = ct 2) (e3 : ¬ nI m = ct 3) (e4 : ¬ nI m = ct 4) (e5 : nI m = ct 5) (hL : L ≤ 32) (hc : ic ≤ 64) (ht : t.1 ≤ ic) (hr : ic < t.1 + L + 1) (h : wY_receive_987 Q 7 (nI lc) (nI ic) (nI oc) (nI 0) (nI t.1) (nI s.1) (nI y.1) (nI z.1) fl (dr + nI L) s.2.1 fg ie rm st pe la ln lw t.2.2 s.2.2.2 y.2.2 z.2.2 ct) : wY_receive_279 Q (nI m) x4 (nI lc) (nI ic) (nI oc) (nI L) (nI t.1) (nI s.1) (nI y.1) (nI z.1) fl dr s.2.1 fg ie rm st pe la ln lw t.2.2 s.2.2.2 y.2.2 z.2.2 ct :=
  br_f b (br_f e2 (br_f e3 (br_f e4 (br_t e5 (pk_lt (ic - t.1) (L + 1) (fun _ => br_t e5 (nm_e h)) (fun e => absurd e (by omega)) (hx := pk_sub (by omega)) (hy := nI_1 L))))))
theorem yr_nl1 (hi ho : Nat) (b : ¬ fl &&& 1 = 0) (e2 : ¬ nI m = ct 2) (e3 : ¬ nI m = ct 3) (e4 : ¬ nI m = ct 4) (e5 : ¬ nI m = ct 5) (e10 : nI m = 10) (hL : L ≤ 32) (hc : ic ≤ 64) (hr : t.1 + L + 1 ≤ ic) (hc' : oc ≤ 64) (hq : s.1 ≤ oc) (h : wY_receive_987 Q 5 (nI lc) (nI ic) (nI oc) (nI 0) (nI (ty_in hi 10 (ty_pl hi ln L 0 t)).1) (nI (ty_echo fl oc ho 10 s).1) (nI y.1) (nI z.1) fl dr ((ty_echo fl oc ho 10 s).2.1) fg ie rm st pe la ln lw ((ty_in hi 10 (ty_pl hi ln L 0 t)).2.2) ((ty_echo fl oc ho 10 s).2.2.2) y.2.2 z.2.2 ct) : wY_receive_279 Q (nI m) x4 (nI lc) (nI ic) (nI oc) (nI L) (nI t.1) (nI s.1) (nI y.1) (nI z.1) fl dr s.2.1 fg ie rm st pe la ln lw t.2.2 s.2.2.2 y.2.2 z.2.2 ct := by
  refine br_f b (br_f e2 (br_f e3 (br_f e4 (br_f e5 (br_t e10 (pk_lt (ic - t.1) (L + 1) (fun e => absurd e (by omega)) (fun _ => ⟨L + 1, yr_705 hi hL L 0 (L + 1) t (by omega) (by omega) (by omega) ?_⟩) (hx := pk_sub (by omega)) (hy := nI_1 L)))))))
  have k : wY_receive_783 Q (nI m) 10 (nI (ty_pl hi ln L 0 t).1) (nI lc) (nI ic) (nI oc) (nI L) (nI (ty_pl hi ln L 0 t).1) (nI s.1) (nI y.1) (nI z.1) fl dr s.2.1 fg ie rm st pe la ln lw ((ty_pl hi ln L 0 t).2.2) s.2.2.2 y.2.2 z.2.2 ct := yr_783l hi ho e5 (by rw [ty_pl1]; omega) hc' hq h
  exact br_t e10 (br_f e5 k)
theorem yr_nl0 (b : ¬ fl &&& 1 = 0) (e2 : ¬ nI m = ct 2) (e3 : ¬ nI m = ct 3) (e4 : ¬ nI m = ct 4) (e5 : ¬ nI m = ct 5) (e10 : nI m = 10) (hL : L ≤ 32) (hc : ic ≤ 64) (ht : t.1 ≤ ic) (hr : ic < t.1 + L + 1) (h : wY_receive_987 Q 7 (nI lc) (nI ic) (nI oc) (nI 0) (nI t.1) (nI s.1) (nI y.1) (nI z.1) fl (dr + (nI L + 1)) s.2.1 fg ie rm st pe la ln lw t.2.2 s.2.2.2 y.2.2 z.2.2 ct) : wY_receive_279 Q (nI m) x4 (nI lc) (nI ic) (nI oc) (nI L) (nI t.1) (nI s.1) (nI y.1) (nI z.1) fl dr s.2.1 fg ie rm st pe la ln lw t.2.2 s.2.2.2 y.2.2 z.2.2 ct :=
  br_f b (br_f e2 (br_f e3 (br_f e4 (br_f e5 (br_t e10 (pk_lt (ic - t.1) (L + 1) (fun _ => br_f e5 (nm_e h)) (fun e => absurd e (by omega)) (hx := pk_sub (by omega)) (hy := nI_1 L)))))))
theorem yr_st1 (ho : Nat) (b : ¬ fl &&& 1 = 0) (e2 : ¬ nI m = ct 2) (e3 : ¬ nI m = ct 3) (e4 : ¬ nI m = ct 4) (e5 : ¬ nI m = ct 5) (e10 : ¬ nI m = 10) (hm : m < 256) (hL : L < lc) (hlc : lc ≤ 32) (hc' : oc ≤ 64) (hq : s.1 ≤ oc) (h : wY_receive_987 Q 6 (nI lc) (nI ic) (nI oc) (nI (L + 1)) (nI t.1) (nI (ty_echo fl oc ho m s).1) (nI y.1) (nI z.1) fl dr ((ty_echo fl oc ho m s).2.1) fg ie rm st pe la (upd ln L (nI m)) (upd lw L ((ty_echo fl oc ho m s).2.1 - s.2.1)) t.2.2 ((ty_echo fl oc ho m s).2.2.2) y.2.2 z.2.2 ct) : wY_receive_279 Q (nI m) x4 (nI lc) (nI ic) (nI oc) (nI L) (nI t.1) (nI s.1) (nI y.1) (nI z.1) fl dr s.2.1 fg ie rm st pe la ln lw t.2.2 s.2.2.2 y.2.2 z.2.2 ct := by
  refine br_f b (br_f e2 (br_f e3 (br_f e4 (br_f e5 (br_f e10 (pk_lt L lc (fun _ => ?_) (fun e => absurd e (by omega))))))))
  refine yo_echo ho hm hq hc' ?_
  exact ⟨vp_in_nI (by omega) (by omega), nm_r (congrArg (fun i => upd ln i (nI m)) (nI_clamp (by omega))) ⟨vp_in_nI (by omega) (by omega), nm_r (congrArg (fun i => upd lw i ((ty_echo fl oc ho m s).2.1 - s.2.1)) (nI_clamp (by omega))) (nm_r (nI_1 L) h)⟩⟩
theorem yr_st0 (b : ¬ fl &&& 1 = 0) (e2 : ¬ nI m = ct 2) (e3 : ¬ nI m = ct 3) (e4 : ¬ nI m = ct 4) (e5 : ¬ nI m = ct 5) (e10 : ¬ nI m = 10) (hL : lc ≤ L) (hlc : L ≤ 32) (h : wY_receive_987 Q 7 (nI lc) (nI ic) (nI oc) (nI L) (nI t.1) (nI s.1) (nI y.1) (nI z.1) fl (dr + 1) s.2.1 fg ie rm st pe la ln lw t.2.2 s.2.2.2 y.2.2 z.2.2 ct) : wY_receive_279 Q (nI m) x4 (nI lc) (nI ic) (nI oc) (nI L) (nI t.1) (nI s.1) (nI y.1) (nI z.1) fl dr s.2.1 fg ie rm st pe la ln lw t.2.2 s.2.2.2 y.2.2 z.2.2 ct :=
  br_f b (br_f e2 (br_f e3 (br_f e4 (br_f e5 (br_f e10 (pk_lt L lc (fun e => absurd e (by omega)) (fun _ => nm_e h)))))))
/-! a signal -/
theorem yg_176 {x2 : Int32} (h64 : t.1 ≤ 64) : ∀ (d i n c : Nat), i + d = t.1 → d < n → wY_receive_214 Q x2 (nI (c + ty_cn t.2.2 d i)) (nI lc) (nI ic) (nI oc) (nI L) (nI t.1) (nI s.1) (nI y.1) (nI z.1) fl dr s.2.1 fg ie rm st pe la ln lw t.2.2 s.2.2.2 y.2.2 z.2.2 ct → wY_receive_176 Q x2 (nI lc) (nI ic) (nI oc) (nI L) (nI t.1) (nI s.1) (nI y.1) (nI z.1) fl dr s.2.1 fg ie rm st pe la ln lw t.2.2 s.2.2.2 y.2.2 z.2.2 ct n (nI c) (nI i) := by
  intro d
  induction d with
  | zero =>
    intro i n c hi' hn h
    obtain ⟨n, rfl⟩ : ∃ k, n = k + 1 := ⟨n - 1, by omega⟩
    exact pk_le t.1 i (fun _ => h) (fun e => absurd e (by omega))
  | succ d ih =>
    intro i n c hi' hn h
    obtain ⟨n, rfl⟩ : ∃ k, n = k + 1 := ⟨n - 1, by omega⟩
    refine pk_le t.1 i (fun e => absurd e (by omega)) (fun _ => pk_le 64 i (fun e => absurd e (by omega)) (fun _ => ⟨vp_in_nI (by omega) (by omega), ?_⟩))
    rw [nI_clamp (n := i) (by omega)]
    by_cases e : t.2.2 i = 256
    · have e1 : c + ty_cn t.2.2 (d + 1) i = c + ty_cn t.2.2 d (i + 1) := by
        show c + ((if t.2.2 i = 256 then 0 else 1) + ty_cn t.2.2 d (i + 1)) = _
        rw [if_pos e]; omega
      rw [e1] at h
      exact br_t e (nm_r (nI_1 i) (ih (i + 1) n c (by omega) (by omega) h))
    · have e1 : c + ty_cn t.2.2 (d + 1) i = (c + 1) + ty_cn t.2.2 d (i + 1) := by
        show c + ((if t.2.2 i = 256 then 0 else 1) + ty_cn t.2.2 d (i + 1)) = _
        rw [if_neg e]; omega
      rw [e1] at h
      exact br_f e (nm_r (nI_1 c) (nm_r (nI_1 i) (ih (i + 1) n (c + 1) (by omega) (by omega) h)))
theorem yg_cnt {x2 : Int32} (h64 : t.1 ≤ 64) (h : wY_receive_214 Q x2 (nI (ty_cn t.2.2 t.1 0)) (nI lc) (nI ic) (nI oc) (nI L) (nI t.1) (nI s.1) (nI y.1) (nI z.1) fl dr s.2.1 fg ie rm st pe la ln lw t.2.2 s.2.2.2 y.2.2 z.2.2 ct) : ∃ n, wY_receive_176 Q x2 (nI lc) (nI ic) (nI oc) (nI L) (nI t.1) (nI s.1) (nI y.1) (nI z.1) fl dr s.2.1 fg ie rm st pe la ln lw t.2.2 s.2.2.2 y.2.2 z.2.2 ct n 0 0 :=
  ⟨t.1 + 1, yg_176 h64 t.1 0 (t.1 + 1) 0 (by omega) (by omega) (by rw [Nat.zero_add]; exact h)⟩
theorem yg_214 (ho : Nat) {c : Int32} (hm : m < 256) (hc : oc ≤ 64) (h : wY_receive_987 Q 3 (nI lc) (nI ic) (nI oc) (nI 0) (nI ((0, t.2)).1) (nI (ty_echo fl oc ho m (0, s.2)).1) (nI y.1) (nI z.1) fl (dr + (nI L + c)) ((ty_echo fl oc ho m (0, s.2)).2.1) fg ie rm 0 (ty_sp1 pe) (ty_sp2 pe la) ln lw (((0, t.2)).2.2) ((ty_echo fl oc ho m (0, s.2)).2.2.2) y.2.2 z.2.2 ct) : wY_receive_214 Q (nI m) c (nI lc) (nI ic) (nI oc) (nI L) (nI t.1) (nI s.1) (nI y.1) (nI z.1) fl dr s.2.1 fg ie rm st pe la ln lw t.2.2 s.2.2.2 y.2.2 z.2.2 ct := by
  refine nm_e ?_
  unfold ty_sp1 ty_sp2 at h
  by_cases k : pe = 0
  · simp only [if_pos k] at h
    exact br_t k (yo_echo (L := 0) (t := (0, t.2)) (s := (0, s.2)) ho hm (Nat.zero_le _) hc h)
  · simp only [if_neg k] at h
    exact br_f k (yo_echo (L := 0) (t := (0, t.2)) (s := (0, s.2)) ho hm (Nat.zero_le _) hc h)
theorem yg_130 (hs ho : Nat) {x : Int32} (hm : m < 256) (h64 : t.1 ≤ 64) (hz : z.1 ≤ 8) (hc : oc ≤ 64) (h : wY_receive_987 Q 3 (nI lc) (nI ic) (nI oc) (nI 0) (nI ((0, t.2)).1) (nI (ty_echo fl oc ho m (0, s.2)).1) (nI y.1) (nI (ty_zs hs (fg * 32 + x) z).1) fl (dr + (nI L + nI (ty_cn t.2.2 t.1 0))) ((ty_echo fl oc ho m (0, s.2)).2.1) fg ie rm 0 (ty_sp1 pe) (ty_sp2 pe la) ln lw (((0, t.2)).2.2) ((ty_echo fl oc ho m (0, s.2)).2.2.2) y.2.2 ((ty_zs hs (fg * 32 + x) z).2.2) ct) : wY_receive_130 Q (nI m) x (nI lc) (nI ic) (nI oc) (nI L) (nI t.1) (nI s.1) (nI y.1) (nI z.1) fl dr s.2.1 fg ie rm st pe la ln lw t.2.2 s.2.2.2 y.2.2 z.2.2 ct := by
  unfold ty_zs at h
  by_cases c : z.1 < 8
  · simp only [if_pos c] at h
    refine pk_le 8 z.1 (fun e => absurd e (by omega)) (fun _ => ⟨vp_in_nI c (by omega), nm_r (congrArg (fun i => upd z.2.2 i (fg * 32 + x)) (nI_clamp (by omega))) (nm_r (nI_1 z.1) (yg_cnt (z := (z.1 + 1, upd z.2.1 ((hs + z.1) % 8) (fg * 32 + x), upd z.2.2 z.1 (fg * 32 + x))) h64 ?_))⟩)
    exact yg_214 (z := (z.1 + 1, upd z.2.1 ((hs + z.1) % 8) (fg * 32 + x), upd z.2.2 z.1 (fg * 32 + x))) ho hm hc h
  · simp only [if_neg c] at h
    refine pk_le 8 z.1 (fun _ => yg_cnt h64 ?_) (fun e => absurd e (by omega))
    exact yg_214 ho hm hc h
theorem yr_sig (hs ho : Nat) (hm : m < 256) (h64 : t.1 ≤ 64) (hz : z.1 ≤ 8) (hc : oc ≤ 64) (h : wY_receive_987 Q 3 (nI lc) (nI ic) (nI oc) (nI 0) (nI ((0, t.2)).1) (nI (ty_echo fl oc ho m (0, s.2)).1) (nI y.1) (nI (ty_zs hs (fg * 32 + (if nI m = ct 0 then 2 else 20)) z).1) fl (dr + (nI L + nI (ty_cn t.2.2 t.1 0))) ((ty_echo fl oc ho m (0, s.2)).2.1) fg ie rm 0 (ty_sp1 pe) (ty_sp2 pe la) ln lw (((0, t.2)).2.2) ((ty_echo fl oc ho m (0, s.2)).2.2.2) y.2.2 ((ty_zs hs (fg * 32 + (if nI m = ct 0 then 2 else 20)) z).2.2) ct) : wY_receive_114 Q (nI m) (nI lc) (nI ic) (nI oc) (nI L) (nI t.1) (nI s.1) (nI y.1) (nI z.1) fl dr s.2.1 fg ie rm st pe la ln lw t.2.2 s.2.2.2 y.2.2 z.2.2 ct := by
  by_cases c : nI m = ct 0
  · simp only [if_pos c] at h
    exact br_t c (yg_130 hs ho hm h64 hz hc h)
  · simp only [if_neg c] at h
    exact br_f c (yg_130 hs ho hm h64 hz hc h)
/-! the ways into receive -/
def ty_x4 (fl : Int32) : Int32 := if fl &&& 4 = 0 then 0 else 1
theorem ty_x4i (fl : Int32) : ty_x4 fl = 0 ↔ fl &&& 4 = 0 := by
  unfold ty_x4
  by_cases c : fl &&& 4 = 0
  · rw [if_pos c]; exact ⟨fun _ => c, fun _ => rfl⟩
  · rw [if_neg c]; exact ⟨fun k => absurd k (by decide), fun k => absurd k c⟩
theorem yr_20 {v1 : Int32} (hv : v1 &&& 255 = nI m) (h : wY_receive_20 Q (nI m) (ty_x4 fl) (nI lc) (nI ic) (nI oc) (nI L) (nI t.1) (nI s.1) (nI y.1) (nI z.1) fl dr s.2.1 fg ie rm st pe la ln lw t.2.2 s.2.2.2 y.2.2 z.2.2 ct) : wpY_receive Q (nI lc, nI ic, nI oc, nI L, nI t.1, nI s.1, nI y.1, nI z.1, fl, dr, s.2.1, fg, ie, rm, st, pe, la, ln, lw, t.2.2, s.2.2.2, y.2.2, z.2.2, ct) v1 := by
  refine nm_r hv ?_
  unfold ty_x4 at h
  by_cases c : fl &&& 4 = 0
  · rw [if_pos c] at h; exact br_t c h
  · rw [if_neg c] at h; exact br_f c h
theorem yr_84 {v1 : Int32} (hv : v1 &&& 255 = nI m) (c : fl &&& 16 = 0 ∨ (¬ nI m = ct 7 ∧ ¬ nI m = ct 6)) (h : wY_receive_84 Q (nI m) (ty_x4 fl) (nI lc) (nI ic) (nI oc) (nI L) (nI t.1) (nI s.1) (nI y.1) (nI z.1) fl dr s.2.1 fg ie rm st pe la ln lw t.2.2 s.2.2.2 y.2.2 z.2.2 ct) : wpY_receive Q (nI lc, nI ic, nI oc, nI L, nI t.1, nI s.1, nI y.1, nI z.1, fl, dr, s.2.1, fg, ie, rm, st, pe, la, ln, lw, t.2.2, s.2.2.2, y.2.2, z.2.2, ct) v1 := by
  refine yr_20 hv ?_
  by_cases f : fl &&& 16 = 0
  · exact br_t f (br_t f h)
  · rcases c with c | ⟨c7, c6⟩
    · exact absurd c f
    · exact br_f f (br_f c7 (br_f f (br_f c6 h)))
theorem yr_stop {v1 : Int32} (hv : v1 &&& 255 = nI m) (f : ¬ fl &&& 16 = 0) (c : nI m = ct 7) (h : wY_receive_987 Q 1 (nI lc) (nI ic) (nI oc) (nI L) (nI t.1) (nI s.1) (nI y.1) (nI z.1) fl dr s.2.1 fg ie rm 1 pe la ln lw t.2.2 s.2.2.2 y.2.2 z.2.2 ct) : wpY_receive Q (nI lc, nI ic, nI oc, nI L, nI t.1, nI s.1, nI y.1, nI z.1, fl, dr, s.2.1, fg, ie, rm, st, pe, la, ln, lw, t.2.2, s.2.2.2, y.2.2, z.2.2, ct) v1 := by
  refine yr_20 hv ?_
  exact br_f f (br_t c h)
theorem yr_start {v1 : Int32} (hv : v1 &&& 255 = nI m) (f : ¬ fl &&& 16 = 0) (c7 : ¬ nI m = ct 7) (c : nI m = ct 6) (h : wY_receive_987 Q 2 (nI lc) (nI ic) (nI oc) (nI L) (nI t.1) (nI s.1) (nI y.1) (nI z.1) fl dr s.2.1 fg ie rm 0 pe la ln lw t.2.2 s.2.2.2 y.2.2 z.2.2 ct) : wpY_receive Q (nI lc, nI ic, nI oc, nI L, nI t.1, nI s.1, nI y.1, nI z.1, fl, dr, s.2.1, fg, ie, rm, st, pe, la, ln, lw, t.2.2, s.2.2.2, y.2.2, z.2.2, ct) v1 := by
  refine yr_20 hv ?_
  exact br_f f (br_f c7 (br_f f (br_t c h)))
theorem yr_114 (f : ¬ fl &&& 8 = 0) (c : nI m = ct 0 ∨ nI m = ct 1) (h : wY_receive_114 Q (nI m) (nI lc) (nI ic) (nI oc) (nI L) (nI t.1) (nI s.1) (nI y.1) (nI z.1) fl dr s.2.1 fg ie rm st pe la ln lw t.2.2 s.2.2.2 y.2.2 z.2.2 ct) : wY_receive_84 Q (nI m) x4 (nI lc) (nI ic) (nI oc) (nI L) (nI t.1) (nI s.1) (nI y.1) (nI z.1) fl dr s.2.1 fg ie rm st pe la ln lw t.2.2 s.2.2.2 y.2.2 z.2.2 ct := by
  refine br_f f ?_
  by_cases d : nI m = ct 0
  · exact br_t d h
  · rcases c with c | c
    · exact absurd c d
    · exact br_f d (br_t c h)
theorem yr_279 (c : fl &&& 8 = 0 ∨ (¬ nI m = ct 0 ∧ ¬ nI m = ct 1)) (h : wY_receive_279 Q (nI m) x4 (nI lc) (nI ic) (nI oc) (nI L) (nI t.1) (nI s.1) (nI y.1) (nI z.1) fl dr s.2.1 fg ie rm st pe la ln lw t.2.2 s.2.2.2 y.2.2 z.2.2 ct) : wY_receive_84 Q (nI m) x4 (nI lc) (nI ic) (nI oc) (nI L) (nI t.1) (nI s.1) (nI y.1) (nI z.1) fl dr s.2.1 fg ie rm st pe la ln lw t.2.2 s.2.2.2 y.2.2 z.2.2 ct := by
  by_cases f : fl &&& 8 = 0
  · exact br_t f h
  · rcases c with c | ⟨c0, c1⟩
    · exact absurd c f
    · exact br_f f (br_f c0 (br_f c1 h))
end TG
end
section
section TR
variable {lc ic oc L hi ho hu hs m : Nat} {s : TyO} {t y z : TyI} {fl dr st fg ie pe la rm : Int32} {ln lw ct : TyF}
def ty_R (u : SX) (v : SY) : Prop :=
  ∃ (lc ic oc L hi ho hu hs : Nat) (s : TyO) (t y z : TyI) (fl dr st fg ie pe la rm : Int32) (ln lw ct : TyF),
    u = (nI lc, nI ic, nI oc, nI L, nI hi, nI t.1, nI ho, nI s.1, nI hu, nI y.1, nI hs, nI z.1, fl, dr, s.2.1, st, fg, ie, pe, la, rm, ln, lw, t.2.1, s.2.2.1, y.2.1, z.2.1, ct) ∧ v = (nI lc, nI ic, nI oc, nI L, nI t.1, nI s.1, nI y.1, nI z.1, fl, dr, s.2.1, fg, ie, rm, st, pe, la, ln, lw, t.2.2, s.2.2.2, y.2.2, z.2.2, ct) ∧ ty_C lc ic oc L hi ho hu hs s t y z pe rm lw
theorem ty_mk (h : ty_C lc ic oc L hi ho hu hs s t y z pe rm lw) : ty_R (nI lc, nI ic, nI oc, nI L, nI hi, nI t.1, nI ho, nI s.1, nI hu, nI y.1, nI hs, nI z.1, fl, dr, s.2.1, st, fg, ie, pe, la, rm, ln, lw, t.2.1, s.2.2.1, y.2.1, z.2.1, ct) (nI lc, nI ic, nI oc, nI L, nI t.1, nI s.1, nI y.1, nI z.1, fl, dr, s.2.1, fg, ie, rm, st, pe, la, ln, lw, t.2.2, s.2.2.2, y.2.2, z.2.2, ct) :=
  ⟨lc, ic, oc, L, hi, ho, hu, hs, s, t, y, z, fl, dr, st, fg, ie, pe, la, rm, ln, lw, ct, rfl, rfl, h⟩
def i_Rel (_ : Nat) (u : SX) (v : SY) : Prop := ty_R u v
theorem i_up {k : Nat} {u : SX} {v : SY} (h : i_Rel k u v) : i_Rel (k + 3) u v := h
theorem ty_p0 (rm : Int32) (y : TyI) : ty_p 0 rm y := fun k => absurd rfl k
theorem ty_kdOk {n : Nat} {D : TyD} (C : ty_C lc ic oc L hi ho hu hs s t y z pe rm lw) (ok : ty_dOk hu n D) (hn : n = t.1) : ty_C lc ic oc L (ty_kd D).1 ho hu hs s (ty_kd D).2.1 (ty_kd D).2.2.1 z (ty_kd D).2.2.2.1 rm lw := by
  obtain ⟨⟨c1, c2, c3, c4, c5, c6, c7, c8⟩, o, q, p, qz, hl, hp⟩ := C
  have k := ok.2.2
  exact ⟨⟨c1, c2, c3, c4, c5, c6, c7, by show D.2.2.1.1 ≤ ic; omega⟩, o, ok.1, ok.2.1, qz, hl, ty_p0 _ _⟩
theorem ty_ckC (C : ty_C lc ic oc L hi ho hu hs s t y z pe rm lw) : ty_C lc ic oc L (ty_ck fl pe la rm ie ct hi hu t y).1 ho hu hs s (ty_ck fl pe la rm ie ct hi hu t y).2.1 (ty_ck fl pe la rm ie ct hi hu t y).2.2.1 z (ty_ck fl pe la rm ie ct hi hu t y).2.2.2.1 rm lw := by
  have C' := C
  obtain ⟨⟨c1, c2, c3, c4, c5, c6, c7, c8⟩, o, q, p, qz, hl, hp⟩ := C'
  unfold ty_ck
  by_cases a : pe = 0
  · simp only [if_pos a]; exact C
  · obtain ⟨r, hr1, hr2, rfl⟩ := hp a
    simp only [if_neg a, nI_clamp (show r < 2 ^ 31 by omega)]
    have le : ty_mi r t.1 ≤ t.1 ∧ ty_mi r t.1 ≤ r := by unfold ty_mi; split <;> omega
    by_cases b : fl &&& 1 = 0
    · simp only [if_pos b]
      by_cases c : ty_du (ct 8) (ct 9) (ty_nd (ct 8) (nI r)) (nI t.1) ie = 0
      · simp only [if_pos c]; exact C
      · simp only [if_neg c]
        exact ty_kdOk C (ty_drOk _ 0 hi t y q p le.1 (by omega)).1 rfl
    · simp only [if_neg b]
      by_cases c : ty_an t.2.2 t.1 0 = true
      · simp only [if_pos c]
        exact ty_kdOk C (ty_dlOk t.1 0 hi t y rfl q p (by omega) (by omega)) rfl
      · simp only [if_neg c]; exact C
theorem ty_mkK (C : ty_C lc ic oc L hi ho hu hs s t y z pe rm lw) : ty_R (nI lc, nI ic, nI oc, nI L, nI (ty_ck fl pe la rm ie ct hi hu t y).1, nI (ty_ck fl pe la rm ie ct hi hu t y).2.1.1, nI ho, nI s.1, nI hu, nI (ty_ck fl pe la rm ie ct hi hu t y).2.2.1.1, nI hs, nI z.1, fl, dr, s.2.1, st, fg, ie, (ty_ck fl pe la rm ie ct hi hu t y).2.2.2.1, (ty_ck fl pe la rm ie ct hi hu t y).2.2.2.2, rm, ln, lw, (ty_ck fl pe la rm ie ct hi hu t y).2.1.2.1, s.2.2.1, (ty_ck fl pe la rm ie ct hi hu t y).2.2.1.2.1, z.2.1, ct) (nI lc, nI ic, nI oc, nI L, nI (ty_ck fl pe la rm ie ct hi hu t y).2.1.1, nI s.1, nI (ty_ck fl pe la rm ie ct hi hu t y).2.2.1.1, nI z.1, fl, dr, s.2.1, fg, ie, rm, st, (ty_ck fl pe la rm ie ct hi hu t y).2.2.2.1, (ty_ck fl pe la rm ie ct hi hu t y).2.2.2.2, ln, lw, (ty_ck fl pe la rm ie ct hi hu t y).2.1.2.2, s.2.2.2, (ty_ck fl pe la rm ie ct hi hu t y).2.2.1.2.2, z.2.2, ct) :=
  ty_mk (hi := (ty_ck fl pe la rm ie ct hi hu t y).1) (t := (ty_ck fl pe la rm ie ct hi hu t y).2.1) (y := (ty_ck fl pe la rm ie ct hi hu t y).2.2.1) (pe := (ty_ck fl pe la rm ie ct hi hu t y).2.2.2.1) (la := (ty_ck fl pe la rm ie ct hi hu t y).2.2.2.2) (ty_ckC C)
theorem ty_lLess {l : Nat} (hl : ty_l lw L) (h : l ≤ L) : ty_l lw l := fun j hj => hl j (by omega)
theorem ty_lPush {x : Int32} (hl : ty_l lw L) (hw : ∃ w : Nat, w ≤ 15 ∧ x = nI w) : ty_l (upd lw L x) (L + 1) := by
  intro j hj
  by_cases e : j = L
  · subst e; rw [pk_us]; exact hw
  · rw [pk_un e]; exact hl j (by omega)
end TR
end
section
section TL
variable {lc ic oc L hi ho hu hs m : Nat} {s : TyO} {t y z : TyI} {fl dr st fg ie pe la rm : Int32} {ln lw ct : TyF}
theorem ql_ne {v : Int32} (k : Int32) (h : v < 0 ∨ 10 < v) (hk : ¬ k < 0 ∧ ¬ 10 < k) : ¬ v = k := by
  intro e
  subst e
  rcases h with h | h
  · exact hk.1 h
  · exact hk.2 h
theorem ql_out {V : Int32 → Prop} {v : Int32} (h : v < 0 ∨ 10 < v) (p : V (-1)) : wpY_query V (nI lc, nI ic, nI oc, nI L, nI t.1, nI s.1, nI y.1, nI z.1, fl, dr, s.2.1, fg, ie, rm, st, pe, la, ln, lw, t.2.2, s.2.2.2, y.2.2, z.2.2, ct) v :=
  br_f (ql_ne 0 h (by decide)) (br_f (ql_ne 1 h (by decide)) (br_f (ql_ne 2 h (by decide)) (br_f (ql_ne 3 h (by decide)) (br_f (ql_ne 4 h (by decide)) (br_f (ql_ne 5 h (by decide)) (br_f (ql_ne 6 h (by decide)) (br_f (ql_ne 7 h (by decide)) (br_f (ql_ne 8 h (by decide)) (br_f (ql_ne 9 h (by decide)) (br_f (ql_ne 10 h (by decide)) (p)))))))))))
theorem i_vc_query {k : Nat} {u : SX} {v : SY} (I : i_Rel k u v) (hk : k + 3 ≤ 1539) (v1 : Int32) : wpX_query (fun r => wpY_query (fun r' => r' = r ∧ i_Rel (k + 3) u v) v v1) u v1 := by
  have I' := I
  obtain ⟨lc, ic, oc, L, hi, ho, hu, hs, s, t, y, z, fl, dr, st, fg, ie, pe, la, rm, ln, lw, ct, rfl, rfl, C⟩ := I'
  by_cases a : v1 < 0
  · exact br_t a (ql_out (Or.inl a) ⟨rfl, I⟩)
  · by_cases b : 10 < v1
    · exact br_f a (br_t b (ql_out (Or.inr b) ⟨rfl, I⟩))
    · obtain ⟨j, hj, rfl⟩ := nI_of2 (M := 10) (n := 10) (by decide) a (Int32.not_lt.mp b)
      match j, hj with
      | 0, _ => exact br_f a (br_f b (br_t rfl (br_t rfl ⟨rfl, I⟩)))
      | 1, _ => exact br_f a (br_f b (br_f (by decide) (br_t rfl (br_f (by decide) (br_t rfl ⟨rfl, I⟩)))))
      | 2, _ => exact br_f a (br_f b (br_f (by decide) (br_f (by decide) (br_t rfl (br_f (by decide) (br_f (by decide) (br_t rfl ⟨rfl, I⟩)))))))
      | 3, _ => exact br_f a (br_f b (br_f (by decide) (br_f (by decide) (br_f (by decide) (br_t rfl (br_f (by decide) (br_f (by decide) (br_f (by decide) (br_t rfl ⟨rfl, I⟩)))))))))
      | 4, _ => exact br_f a (br_f b (br_f (by decide) (br_f (by decide) (br_f (by decide) (br_f (by decide) (br_t rfl (br_f (by decide) (br_f (by decide) (br_f (by decide) (br_f (by decide) (br_t rfl ⟨rfl, I⟩)))))))))))
      | 5, _ => exact br_f a (br_f b (br_f (by decide) (br_f (by decide) (br_f (by decide) (br_f (by decide) (br_f (by decide) (br_t rfl (br_f (by decide) (br_f (by decide) (br_f (by decide) (br_f (by decide) (br_f (by decide) (br_t rfl ⟨rfl, I⟩)))))))))))))
      | 6, _ =>
        by_cases c : st = 0
        · exact br_f a (br_f b (br_f (by decide) (br_f (by decide) (br_f (by decide) (br_f (by decide) (br_f (by decide) (br_f (by decide) (br_t rfl (br_t c (br_f (by decide) (br_f (by decide) (br_f (by decide) (br_f (by decide) (br_f (by decide) (br_f (by decide) (br_t rfl (br_t c ⟨rfl, I⟩)))))))))))))))))
        · exact br_f a (br_f b (br_f (by decide) (br_f (by decide) (br_f (by decide) (br_f (by decide) (br_f (by decide) (br_f (by decide) (br_t rfl (br_f c (br_f (by decide) (br_f (by decide) (br_f (by decide) (br_f (by decide) (br_f (by decide) (br_f (by decide) (br_t rfl (br_f c ⟨rfl, I⟩)))))))))))))))))
      | 7, _ => exact br_f a (br_f b (br_f (by decide) (br_f (by decide) (br_f (by decide) (br_f (by decide) (br_f (by decide) (br_f (by decide) (br_f (by decide) (br_t rfl (br_f (by decide) (br_f (by decide) (br_f (by decide) (br_f (by decide) (br_f (by decide) (br_f (by decide) (br_f (by decide) (br_t rfl ⟨rfl, I⟩)))))))))))))))))
      | 8, _ => exact br_f a (br_f b (br_f (by decide) (br_f (by decide) (br_f (by decide) (br_f (by decide) (br_f (by decide) (br_f (by decide) (br_f (by decide) (br_f (by decide) (br_t rfl (br_f (by decide) (br_f (by decide) (br_f (by decide) (br_f (by decide) (br_f (by decide) (br_f (by decide) (br_f (by decide) (br_f (by decide) (br_t rfl ⟨rfl, I⟩)))))))))))))))))))
      | 9, _ => exact br_f a (br_f b (br_f (by decide) (br_f (by decide) (br_f (by decide) (br_f (by decide) (br_f (by decide) (br_f (by decide) (br_f (by decide) (br_f (by decide) (br_f (by decide) (br_t rfl (br_f (by decide) (br_f (by decide) (br_f (by decide) (br_f (by decide) (br_f (by decide) (br_f (by decide) (br_f (by decide) (br_f (by decide) (br_f (by decide) (br_t rfl ⟨rfl, I⟩)))))))))))))))))))))
      | 10, _ => exact br_f a (br_f b (br_f (by decide) (br_f (by decide) (br_f (by decide) (br_f (by decide) (br_f (by decide) (br_f (by decide) (br_f (by decide) (br_f (by decide) (br_f (by decide) (br_f (by decide) (br_t rfl (br_f (by decide) (br_f (by decide) (br_f (by decide) (br_f (by decide) (br_f (by decide) (br_f (by decide) (br_f (by decide) (br_f (by decide) (br_f (by decide) (br_f (by decide) (br_t rfl ⟨rfl, I⟩)))))))))))))))))))))))
theorem i_vc_readStatus {k : Nat} {u : SX} {v : SY} (I : i_Rel k u v) (hk : k + 3 ≤ 1539) : wpX_readStatus (fun r => wpY_readStatus (fun r' => r' = r ∧ i_Rel (k + 3) u v) v) u := by
  have I' := I
  obtain ⟨lc, ic, oc, L, hi, ho, hu, hs, s, t, y, z, fl, dr, st, fg, ie, pe, la, rm, ln, lw, ct, rfl, rfl, C⟩ := I'
  by_cases a : pe = 0
  · exact br_t a (br_t a ⟨rfl, I⟩)
  · exact br_f a (br_f a ⟨rfl, I⟩)
theorem i_vc_getControl {k : Nat} {u : SX} {v : SY} (I : i_Rel k u v) (hk : k + 3 ≤ 1539) (v1 : Int32) : wpX_getControl (fun r => wpY_getControl (fun r' => r' = r ∧ i_Rel (k + 3) u v) v v1) u v1 := by
  have I' := I
  obtain ⟨lc, ic, oc, L, hi, ho, hu, hs, s, t, y, z, fl, dr, st, fg, ie, pe, la, rm, ln, lw, ct, rfl, rfl, C⟩ := I'
  by_cases a : v1 < 0
  · exact br_t a (br_t a ⟨rfl, I⟩)
  · by_cases b : v1 ≤ 9
    · obtain ⟨j, hj, rfl⟩ := nI_of2 (M := 9) (n := 9) (by decide) a b
      have i : vp_in (nI j) 10 := vp_in_nI (by omega) (by omega)
      exact br_f a (br_t b ⟨i, br_f a (br_t b ⟨i, rfl, I⟩)⟩)
    · exact br_f a (br_f b (br_f a (br_f b ⟨rfl, I⟩)))
theorem i_vc_setForeground {k : Nat} {u : SX} {v : SY} (I : i_Rel k u v) (hk : k + 3 ≤ 1539) (v1 : Int32) : wpX_setForeground (fun r u' => wpY_setForeground (fun r' v' => r' = r ∧ i_Rel (k + 3) u' v') v v1) u v1 := by
  have I' := I
  obtain ⟨lc, ic, oc, L, hi, ho, hu, hs, s, t, y, z, fl, dr, st, fg, ie, pe, la, rm, ln, lw, ct, rfl, rfl, C⟩ := I'
  by_cases a : v1 < 1
  · exact br_t a (br_t a ⟨rfl, I⟩)
  · by_cases b : v1 ≤ 30000
    · exact br_f a (br_t b (br_f a (br_t b ⟨rfl, ty_mk C⟩)))
    · exact br_f a (br_f b (br_f a (br_f b ⟨rfl, I⟩)))
theorem i_vc_lineAt {k : Nat} {u : SX} {v : SY} (I : i_Rel k u v) (hk : k + 3 ≤ 1539) (v1 : Int32) : wpX_lineAt (fun r => wpY_lineAt (fun r' => r' = r ∧ i_Rel (k + 3) u v) v v1) u v1 := by
  have I' := I
  obtain ⟨lc, ic, oc, L, hi, ho, hu, hs, s, t, y, z, fl, dr, st, fg, ie, pe, la, rm, ln, lw, ct, rfl, rfl, C⟩ := I'
  obtain ⟨⟨c1, c2, c3, c4, c5, c6, c7, c8⟩, ok, q, p, qz, hl, hp⟩ := C
  by_cases a : v1 < 0
  · exact br_t a (br_t a ⟨rfl, I⟩)
  · obtain ⟨j, hj, rfl⟩ := nI_of a
    refine br_f a (pk_lt j L (fun e => ?_) (fun e => ?_))
    · have i : vp_in (nI j) 32 := vp_in_nI (by omega) (by omega)
      exact ⟨i, br_f a (pk_le L j (fun k => absurd k (by omega)) (fun _ => pk_lt j 32 (fun _ => ⟨i, rfl, I⟩) (fun k => absurd k (by omega))))⟩
    · exact br_f a (pk_le L j (fun _ => ⟨rfl, I⟩) (fun k => absurd k (by omega)))
theorem i_vc_inputAt {k : Nat} {u : SX} {v : SY} (I : i_Rel k u v) (hk : k + 3 ≤ 1539) (v1 : Int32) : wpX_inputAt (fun r => wpY_inputAt (fun r' => r' = r ∧ i_Rel (k + 3) u v) v v1) u v1 := by
  have I' := I
  obtain ⟨lc, ic, oc, L, hi, ho, hu, hs, s, t, y, z, fl, dr, st, fg, ie, pe, la, rm, ln, lw, ct, rfl, rfl, C⟩ := I'
  obtain ⟨⟨c1, c2, c3, c4, c5, c6, c7, c8⟩, ok, q, p, qz, hl, hp⟩ := C
  have q1 := q.1
  by_cases a : v1 < 0
  · exact br_t a (br_t a ⟨rfl, I⟩)
  · obtain ⟨j, hj, rfl⟩ := nI_of a
    refine br_f a (pk_lt j t.1 (fun e => ?_) (fun e => ?_))
    · have i : vp_in (nI j) 64 := vp_in_nI (by omega) (by omega)
      refine ⟨ty_ringI q1 (by omega), br_f a (pk_le t.1 j (fun k => absurd k (by omega)) (fun _ => pk_lt j 64 (fun _ => ⟨i, ?_, I⟩) (fun k => absurd k (by omega))))⟩
      rw [ty_at q e, nI_clamp (by omega)]
    · exact br_f a (pk_le t.1 j (fun _ => ⟨rfl, I⟩) (fun k => absurd k (by omega)))
theorem i_vc_outputAt {k : Nat} {u : SX} {v : SY} (I : i_Rel k u v) (hk : k + 3 ≤ 1539) (v1 : Int32) : wpX_outputAt (fun r => wpY_outputAt (fun r' => r' = r ∧ i_Rel (k + 3) u v) v v1) u v1 := by
  have I' := I
  obtain ⟨lc, ic, oc, L, hi, ho, hu, hs, s, t, y, z, fl, dr, st, fg, ie, pe, la, rm, ln, lw, ct, rfl, rfl, C⟩ := I'
  obtain ⟨⟨c1, c2, c3, c4, c5, c6, c7, c8⟩, ok, q, p, qz, hl, hp⟩ := C
  have o1 := ok.1
  have q1 := ok.2.1
  by_cases a : v1 < 0
  · exact br_t a (br_t a ⟨rfl, I⟩)
  · obtain ⟨j, hj, rfl⟩ := nI_of a
    refine br_f a (pk_lt j s.1 (fun e => ?_) (fun e => ?_))
    · have i : vp_in (nI j) 64 := vp_in_nI (by omega) (by omega)
      refine ⟨ty_ringI q1 (by omega), br_f a (pk_le s.1 j (fun k => absurd k (by omega)) (fun _ => pk_lt j 64 (fun _ => ⟨i, ?_, I⟩) (fun k => absurd k (by omega))))⟩
      have f : s.2.2.1 ((nI ho + nI j) &&& 63).toNatClampNeg = s.2.2.2 j := by rw [ty_ringC q1 (by omega)]; exact ok.2.2.2 j e
      rw [f, nI_clamp (by omega)]
    · exact br_f a (pk_le s.1 j (fun _ => ⟨rfl, I⟩) (fun k => absurd k (by omega)))
end TL
end
section
section TQ
variable {lc ic oc L hi ho hu hs m : Nat} {s : TyO} {t y z : TyI} {fl dr st fg ie pe la rm : Int32} {ln lw ct : TyF} {Q : Int32 → SY → Prop}
/-- the output's head taken out -/
def ty_or (s : TyO) : TyO := (s.1 - 1, s.2.1, s.2.2.1, ty_sh s.2.2.2 s.1)
theorem ty_oOr (ok : ty_o oc ho s) (hn : 0 < s.1) : ty_o oc ((ho + 1) % 64) (ty_or s) := by
  have o1 := ok.1
  refine ⟨by show s.1 - 1 ≤ oc; omega, ?_⟩
  exact ty_iRm (t := (s.1, s.2.2.1, s.2.2.2)) ok.2 hn
theorem ty_zRm (q : ty_q 8 z.2.1 z.2.2 hs z.1) (hn : 0 < z.1) : ty_q 8 (ty_rm z).2.1 (ty_rm z).2.2 ((hs + 1) % 8) (ty_rm z).1 := by
  obtain ⟨n, a, b⟩ := z
  obtain ⟨m, rfl⟩ : ∃ m, n = m + 1 := ⟨n - 1, by have : 0 < n := hn; omega⟩
  exact ty_qDrop (n := m) q (fun _ hi => ty_shd hi)
theorem ty_shG {b : TyF} {k : Nat} (hk : k < 8) : upd (ty_sh b (k + 1)) (nI (k + 1) - 1).toNatClampNeg (ty_sh b (k + 1) (nI (k + 1)).toNatClampNeg) = ty_sh b (k + 2) := ty_shE (by omega)
theorem yt_outL {x : Int32} (h64 : s.1 ≤ 64) : ∀ (d k n : Nat), k + 1 + d = s.1 → d < n → Q x (nI lc, nI ic, nI oc, nI L, nI t.1, nI (ty_or s).1, nI y.1, nI z.1, fl, dr, (ty_or s).2.1, fg, ie, rm, st, pe, la, ln, lw, t.2.2, (ty_or s).2.2.2, y.2.2, z.2.2, ct) → wY_transmit_25 Q x (nI lc) (nI ic) (nI oc) (nI L) (nI t.1) (nI s.1) (nI y.1) (nI z.1) fl dr s.2.1 fg ie rm st pe la n (nI (k + 1)) ln lw t.2.2 (ty_sh s.2.2.2 (k + 1)) y.2.2 z.2.2 ct := by
  intro d
  induction d with
  | zero =>
    intro k n hk hn h
    obtain ⟨n, rfl⟩ : ∃ k, n = k + 1 := ⟨n - 1, by omega⟩
    refine pk_le s.1 (k + 1) (fun _ => ?_) (fun e => absurd e (by omega))
    rw [show k + 1 = s.1 by omega]
    exact nm_r (ty_pred (by omega)) h
  | succ d ih =>
    intro k n hk hn h
    obtain ⟨n, rfl⟩ : ∃ k, n = k + 1 := ⟨n - 1, by omega⟩
    refine pk_le s.1 (k + 1) (fun e => absurd e (by omega)) (fun _ => pk_le 64 (k + 1) (fun e => absurd e (by omega)) (fun _ => ⟨vp_in_nI (by omega) (by omega), ?_, nm_r (ty_shE (by omega)) (nm_r (nI_1 (k + 1)) (ih (k + 1) n (by omega) (by omega) h))⟩))
    rw [nI_pred]; exact vp_in_nI (by omega) (by omega)
theorem yt_out {x : Int32} (h1 : 0 < s.1) (h64 : s.1 ≤ 64) (h : Q x (nI lc, nI ic, nI oc, nI L, nI t.1, nI (ty_or s).1, nI y.1, nI z.1, fl, dr, (ty_or s).2.1, fg, ie, rm, st, pe, la, ln, lw, t.2.2, (ty_or s).2.2.2, y.2.2, z.2.2, ct)) : ∃ n, wY_transmit_25 Q x (nI lc) (nI ic) (nI oc) (nI L) (nI t.1) (nI s.1) (nI y.1) (nI z.1) fl dr s.2.1 fg ie rm st pe la n 1 ln lw t.2.2 s.2.2.2 y.2.2 z.2.2 ct := by
  have k := yt_outL (x := x) h64 (s.1 - 1) 0 (s.1 + 1) (by omega) (by omega) h
  rw [ty_sh1] at k
  exact ⟨s.1 + 1, k⟩
theorem yt_usrL {x : Int32} (h64 : y.1 ≤ 64) : ∀ (d k n : Nat), k + 1 + d = y.1 → d < n → Q x (nI lc, nI ic, nI oc, nI L, nI t.1, nI s.1, nI (ty_rm y).1, nI z.1, fl, dr, s.2.1, fg, ie, rm, st, pe, la, ln, lw, t.2.2, s.2.2.2, (ty_rm y).2.2, z.2.2, ct) → wY_takeByte_18 Q x (nI lc) (nI ic) (nI oc) (nI L) (nI t.1) (nI s.1) (nI y.1) (nI z.1) fl dr s.2.1 fg ie rm st pe la n (nI (k + 1)) ln lw t.2.2 s.2.2.2 (ty_sh y.2.2 (k + 1)) z.2.2 ct := by
  intro d
  induction d with
  | zero =>
    intro k n hk hn h
    obtain ⟨n, rfl⟩ : ∃ k, n = k + 1 := ⟨n - 1, by omega⟩
    refine pk_le y.1 (k + 1) (fun _ => ?_) (fun e => absurd e (by omega))
    rw [show k + 1 = y.1 by omega]
    exact nm_r (ty_pred (by omega)) h
  | succ d ih =>
    intro k n hk hn h
    obtain ⟨n, rfl⟩ : ∃ k, n = k + 1 := ⟨n - 1, by omega⟩
    refine pk_le y.1 (k + 1) (fun e => absurd e (by omega)) (fun _ => pk_le 64 (k + 1) (fun e => absurd e (by omega)) (fun _ => ⟨vp_in_nI (by omega) (by omega), ?_, nm_r (ty_shE (by omega)) (nm_r (nI_1 (k + 1)) (ih (k + 1) n (by omega) (by omega) h))⟩))
    rw [nI_pred]; exact vp_in_nI (by omega) (by omega)
theorem yt_usr {x : Int32} (h1 : 0 < y.1) (h64 : y.1 ≤ 64) (h : Q x (nI lc, nI ic, nI oc, nI L, nI t.1, nI s.1, nI (ty_rm y).1, nI z.1, fl, dr, s.2.1, fg, ie, rm, st, pe, la, ln, lw, t.2.2, s.2.2.2, (ty_rm y).2.2, z.2.2, ct)) : ∃ n, wY_takeByte_18 Q x (nI lc) (nI ic) (nI oc) (nI L) (nI t.1) (nI s.1) (nI y.1) (nI z.1) fl dr s.2.1 fg ie rm st pe la n 1 ln lw t.2.2 s.2.2.2 y.2.2 z.2.2 ct := by
  have k := yt_usrL (x := x) h64 (y.1 - 1) 0 (y.1 + 1) (by omega) (by omega) h
  rw [ty_sh1] at k
  exact ⟨y.1 + 1, k⟩
theorem yt_sigL {x : Int32} (h64 : z.1 ≤ 8) : ∀ (d k n : Nat), k + 1 + d = z.1 → d < n → Q x (nI lc, nI ic, nI oc, nI L, nI t.1, nI s.1, nI y.1, nI (ty_rm z).1, fl, dr, s.2.1, fg, ie, rm, st, pe, la, ln, lw, t.2.2, s.2.2.2, y.2.2, (ty_rm z).2.2, ct) → wY_takeSignal_18 Q x (nI lc) (nI ic) (nI oc) (nI L) (nI t.1) (nI s.1) (nI y.1) (nI z.1) fl dr s.2.1 fg ie rm st pe la n (nI (k + 1)) ln lw t.2.2 s.2.2.2 y.2.2 (ty_sh z.2.2 (k + 1)) ct := by
  intro d
  induction d with
  | zero =>
    intro k n hk hn h
    obtain ⟨n, rfl⟩ : ∃ k, n = k + 1 := ⟨n - 1, by omega⟩
    refine pk_le z.1 (k + 1) (fun _ => ?_) (fun e => absurd e (by omega))
    rw [show k + 1 = z.1 by omega]
    exact nm_r (ty_pred (by omega)) h
  | succ d ih =>
    intro k n hk hn h
    obtain ⟨n, rfl⟩ : ∃ k, n = k + 1 := ⟨n - 1, by omega⟩
    refine pk_le z.1 (k + 1) (fun e => absurd e (by omega)) (fun _ => pk_le 8 (k + 1) (fun e => absurd e (by omega)) (fun _ => ⟨vp_in_nI (by omega) (by omega), ?_, nm_r (ty_shE (by omega)) (nm_r (nI_1 (k + 1)) (ih (k + 1) n (by omega) (by omega) h))⟩))
    rw [nI_pred]; exact vp_in_nI (by omega) (by omega)
theorem yt_sig {x : Int32} (h1 : 0 < z.1) (h64 : z.1 ≤ 8) (h : Q x (nI lc, nI ic, nI oc, nI L, nI t.1, nI s.1, nI y.1, nI (ty_rm z).1, fl, dr, s.2.1, fg, ie, rm, st, pe, la, ln, lw, t.2.2, s.2.2.2, y.2.2, (ty_rm z).2.2, ct)) : ∃ n, wY_takeSignal_18 Q x (nI lc) (nI ic) (nI oc) (nI L) (nI t.1) (nI s.1) (nI y.1) (nI z.1) fl dr s.2.1 fg ie rm st pe la n 1 ln lw t.2.2 s.2.2.2 y.2.2 z.2.2 ct := by
  have k := yt_sigL (x := x) h64 (z.1 - 1) 0 (z.1 + 1) (by omega) (by omega) h
  rw [ty_sh1] at k
  exact ⟨z.1 + 1, k⟩
theorem i_vc_transmit {k : Nat} {u : SX} {v : SY} (I : i_Rel k u v) (hk : k + 3 ≤ 1539) : wpX_transmit (fun r u' => wpY_transmit (fun r' v' => r' = r ∧ i_Rel (k + 3) u' v') v) u := by
  have I' := I
  obtain ⟨lc, ic, oc, L, hi, ho, hu, hs, s, t, y, z, fl, dr, st, fg, ie, pe, la, rm, ln, lw, ct, rfl, rfl, C⟩ := I'
  obtain ⟨c, ok, q, p, qz, hl, hp⟩ := C
  have o1 := ok.1
  have q1 := ok.2.1
  have q2 := ok.2.2.1
  by_cases a : st = 0
  · by_cases b : s.1 = 0
    · have b' : nI s.1 = 0 := by rw [b]; rfl
      exact br_t a (br_t b' (br_t a (br_t b' ⟨rfl, I⟩)))
    · have b' : ¬ nI s.1 = 0 := nI_ne0 (by omega) (by omega)
      have hd : s.2.2.1 (nI ho).toNatClampNeg = s.2.2.2 0 := by rw [nI_clamp (by omega)]; exact ty_iHd (t := (s.1, s.2.2.1, s.2.2.2)) ok.2 (by show 0 < s.1; omega)
      have R : ty_R (nI lc, nI ic, nI oc, nI L, nI hi, nI t.1, nI ((ho + 1) % 64), nI (ty_or s).1, nI hu, nI y.1, nI hs, nI z.1, fl, dr, (ty_or s).2.1, st, fg, ie, pe, la, rm, ln, lw, t.2.1, (ty_or s).2.2.1, y.2.1, z.2.1, ct) (nI lc, nI ic, nI oc, nI L, nI t.1, nI (ty_or s).1, nI y.1, nI z.1, fl, dr, (ty_or s).2.1, fg, ie, rm, st, pe, la, ln, lw, t.2.2, (ty_or s).2.2.2, y.2.2, z.2.2, ct) := ty_mk ⟨c, ty_oOr ok (by omega), q, p, qz, hl, hp⟩
      exact br_t a (br_f b' ⟨vp_in_nI q1 (by omega), nm_r hd (nm_r (ty_ring1 q1) (nm_r (ty_pred (by omega)) (br_t a (br_f b' (nm_e (yt_out (by omega) (by omega) ⟨rfl, R⟩))))))⟩)
  · exact br_f a (br_f a ⟨rfl, I⟩)
theorem i_vc_takeByte {k : Nat} {u : SX} {v : SY} (I : i_Rel k u v) (hk : k + 3 ≤ 1539) : wpX_takeByte (fun r u' => wpY_takeByte (fun r' v' => r' = r ∧ i_Rel (k + 3) u' v') v) u := by
  have I' := I
  obtain ⟨lc, ic, oc, L, hi, ho, hu, hs, s, t, y, z, fl, dr, st, fg, ie, pe, la, rm, ln, lw, ct, rfl, rfl, C⟩ := I'
  obtain ⟨c, ok, q, p, qz, hl, hp⟩ := C
  have q1 := p.1
  have q2 := p.2.1
  by_cases b : y.1 = 0
  · have b' : nI y.1 = 0 := by rw [b]; rfl
    exact br_t b' (br_t b' ⟨rfl, I⟩)
  · have b' : ¬ nI y.1 = 0 := nI_ne0 (by omega) (by omega)
    have hd : y.2.1 (nI hu).toNatClampNeg = y.2.2 0 := by rw [nI_clamp (by omega)]; exact ty_iHd p (by omega)
    have hp' : ty_p pe rm (ty_rm y) := fun e => by
      obtain ⟨r, h1, h2, h3⟩ := hp e
      exact ⟨r, h1, by show y.1 - 1 + r ≤ 64; omega, h3⟩
    have R : ty_R (nI lc, nI ic, nI oc, nI L, nI hi, nI t.1, nI ho, nI s.1, nI ((hu + 1) % 64), nI (ty_rm y).1, nI hs, nI z.1, fl, dr, s.2.1, st, fg, ie, pe, la, rm, ln, lw, t.2.1, s.2.2.1, (ty_rm y).2.1, z.2.1, ct) (nI lc, nI ic, nI oc, nI L, nI t.1, nI s.1, nI (ty_rm y).1, nI z.1, fl, dr, s.2.1, fg, ie, rm, st, pe, la, ln, lw, t.2.2, s.2.2.2, (ty_rm y).2.2, z.2.2, ct) := ty_mk ⟨c, ok, q, ty_iRm p (by omega), qz, hl, hp'⟩
    exact br_f b' ⟨vp_in_nI q1 (by omega), nm_r hd (nm_r (ty_ring1 q1) (nm_r (ty_pred (by omega)) (br_f b' (nm_e (yt_usr (by omega) q2 ⟨rfl, R⟩)))))⟩
theorem i_vc_takeSignal {k : Nat} {u : SX} {v : SY} (I : i_Rel k u v) (hk : k + 3 ≤ 1539) : wpX_takeSignal (fun r u' => wpY_takeSignal (fun r' v' => r' = r ∧ i_Rel (k + 3) u' v') v) u := by
  have I' := I
  obtain ⟨lc, ic, oc, L, hi, ho, hu, hs, s, t, y, z, fl, dr, st, fg, ie, pe, la, rm, ln, lw, ct, rfl, rfl, C⟩ := I'
  obtain ⟨c, ok, q, p, qz, hl, hp⟩ := C
  have q1 := qz.1
  have q2 := qz.2.1
  by_cases b : z.1 = 0
  · have b' : nI z.1 = 0 := by rw [b]; rfl
    exact br_t b' (br_t b' ⟨rfl, I⟩)
  · have b' : ¬ nI z.1 = 0 := nI_ne0 (by omega) (by omega)
    have hd : z.2.1 (nI hs).toNatClampNeg = z.2.2 0 := by
      rw [nI_clamp (by omega)]
      obtain ⟨n, a, b⟩ := z
      obtain ⟨m, rfl⟩ : ∃ m, n = m + 1 := ⟨n - 1, by have : ¬ n = 0 := by assumption
                                                     omega⟩
      exact ty_qHead qz
    have R : ty_R (nI lc, nI ic, nI oc, nI L, nI hi, nI t.1, nI ho, nI s.1, nI hu, nI y.1, nI ((hs + 1) % 8), nI (ty_rm z).1, fl, dr, s.2.1, st, fg, ie, pe, la, rm, ln, lw, t.2.1, s.2.2.1, y.2.1, (ty_rm z).2.1, ct) (nI lc, nI ic, nI oc, nI L, nI t.1, nI s.1, nI y.1, nI (ty_rm z).1, fl, dr, s.2.1, fg, ie, rm, st, pe, la, ln, lw, t.2.2, s.2.2.2, y.2.2, (ty_rm z).2.2, ct) := ty_mk ⟨c, ok, q, p, ty_zRm qz (by omega), hl, hp⟩
    exact br_f b' ⟨vp_in_nI q1 (by omega), nm_r hd (nm_r (ty_rung1 q1) (nm_r (ty_pred (by omega)) (br_f b' (nm_e (yt_sig (by omega) q2 ⟨rfl, R⟩)))))⟩
/-! write -/
theorem ty_b1n (oc : Nat) (s : TyO) : narrow .boolean (.int (ty_b1 oc s)) = .int (ty_b1 oc s) := by
  unfold ty_b1; split <;> rfl
theorem ty_b2n (oc : Nat) (s : TyO) : narrow .boolean (.int (ty_b2 oc s)) = .int (ty_b2 oc s) := by
  unfold ty_b2; split <;> rfl
theorem yw_31 {b : Int32} (hb : b = 0 ∨ b = 1) (h : Q b (nI lc, nI ic, nI oc, nI L, nI t.1, nI s.1, nI y.1, nI z.1, fl, dr, s.2.1, fg, ie, rm, st, pe, la, ln, lw, t.2.2, s.2.2.2, y.2.2, z.2.2, ct)) : wY_write_31 Q b (nI lc) (nI ic) (nI oc) (nI L) (nI t.1) (nI s.1) (nI y.1) (nI z.1) fl dr s.2.1 fg ie rm st pe la ln lw t.2.2 s.2.2.2 y.2.2 z.2.2 ct := by
  rcases hb with rfl | rfl
  · exact br_f (by decide) h
  · exact br_t rfl h
theorem ty_b1o (oc : Nat) (s : TyO) : ty_b1 oc s = 0 ∨ ty_b1 oc s = 1 := by
  unfold ty_b1; split
  · exact Or.inr rfl
  · exact Or.inl rfl
theorem ty_b2o (oc : Nat) (s : TyO) : ty_b2 oc s = 0 ∨ ty_b2 oc s = 1 := by
  unfold ty_b2; split
  · exact Or.inr rfl
  · exact Or.inl rfl
theorem i_vc_write {k : Nat} {u : SX} {v : SY} (I : i_Rel k u v) (hk : k + 3 ≤ 1539) (v1 : Int32) : wpX_write (fun r u' => wpY_write (fun r' v' => r' = r ∧ i_Rel (k + 3) u' v') v v1) u v1 := by
  have I' := I
  obtain ⟨lc, ic, oc, L, hi, ho, hu, hs, s, t, y, z, fl, dr, st, fg, ie, pe, la, rm, ln, lw, ct, rfl, rfl, C⟩ := I'
  obtain ⟨c, ok, q, p, qz, hl, hp⟩ := C
  have c6 := c.2.2.2.2.2.1
  have q1 := ok.2.1
  obtain ⟨m, hm, hv⟩ := ty_byte v1
  refine nm_r hv (pk_eq m 10 (fun e => ?_) (fun e => ?_))
  · have R : ty_R (nI lc, nI ic, nI oc, nI L, nI hi, nI t.1, nI ho, nI (ty_2 oc ho 13 10 s).1, nI hu, nI y.1, nI hs, nI z.1, fl, dr, (ty_2 oc ho 13 10 s).2.1, st, fg, ie, pe, la, rm, ln, lw, t.2.1, (ty_2 oc ho 13 10 s).2.2.1, y.2.1, z.2.1, ct) (nI lc, nI ic, nI oc, nI L, nI t.1, nI (ty_2 oc ho 13 10 s).1, nI y.1, nI z.1, fl, dr, (ty_2 oc ho 13 10 s).2.1, fg, ie, rm, st, pe, la, ln, lw, t.2.2, (ty_2 oc ho 13 10 s).2.2.2, y.2.2, z.2.2, ct) := ty_mk ⟨c, ty_o2 ok c6, q, p, qz, hl, hp⟩
    refine xo_2 (m := 13) (m' := 10) (by omega) (by omega) q1 ok.1 c6 ?_
    refine ⟨ty_b2n oc s, ?_⟩
    refine nm_r hv (pk_eq m 10 (fun _ => ?_) (fun e' => absurd e e'))
    refine yo_2 (m := 13) (m' := 10) ho (by omega) (by omega) ok.1 c6 ?_
    exact yw_31 (ty_b2o oc s) ⟨rfl, R⟩
  · have R : ty_R (nI lc, nI ic, nI oc, nI L, nI hi, nI t.1, nI ho, nI (ty_1 oc ho m s).1, nI hu, nI y.1, nI hs, nI z.1, fl, dr, (ty_1 oc ho m s).2.1, st, fg, ie, pe, la, rm, ln, lw, t.2.1, (ty_1 oc ho m s).2.2.1, y.2.1, z.2.1, ct) (nI lc, nI ic, nI oc, nI L, nI t.1, nI (ty_1 oc ho m s).1, nI y.1, nI z.1, fl, dr, (ty_1 oc ho m s).2.1, fg, ie, rm, st, pe, la, ln, lw, t.2.2, (ty_1 oc ho m s).2.2.2, y.2.2, z.2.2, ct) := ty_mk ⟨c, ty_o1 ok c6, q, p, qz, hl, hp⟩
    refine xo_1 hm q1 ok.1 c6 ?_
    refine ⟨ty_b1n oc s, ?_⟩
    refine nm_r hv (pk_eq m 10 (fun e' => absurd e' e) (fun _ => ?_))
    refine yo_1 ho hm ok.1 c6 ?_
    exact yw_31 (ty_b1o oc s) ⟨rfl, R⟩
/-! tick, startRead, setControl -/
theorem i_vc_tick {k : Nat} {u : SX} {v : SY} (I : i_Rel k u v) (hk : k + 3 ≤ 1539) (v1 : Int32) : wpX_tick (fun r u' => wpY_tick (fun r' v' => r' = r ∧ i_Rel (k + 3) u' v') v v1) u v1 := by
  have I' := I
  obtain ⟨lc, ic, oc, L, hi, ho, hu, hs, s, t, y, z, fl, dr, st, fg, ie, pe, la, rm, ln, lw, ct, rfl, rfl, C⟩ := I'
  have C' := C
  obtain ⟨c, ok, q, p, qz, hl, hp⟩ := C'
  by_cases a : v1 < 1
  · exact br_t a (br_t a ⟨rfl, I⟩)
  · by_cases b : v1 ≤ 1000
    · by_cases d : pe = 0
      · exact br_f a (br_t b (br_t d (br_f a (br_t b (br_t d ⟨rfl, I⟩)))))
      · refine br_f a (br_t b (br_f d (nm_e ?_)))
        refine xc_check q p hp ?_
        refine br_f a (br_t b (br_f d (nm_e ?_)))
        exact yc_check hi hu q.2.1 hp ⟨rfl, ty_mkK C⟩
    · exact br_f a (br_f b (br_f a (br_f b ⟨rfl, I⟩)))
theorem i_vc_startRead {k : Nat} {u : SX} {v : SY} (I : i_Rel k u v) (hk : k + 3 ≤ 1539) (v1 : Int32) : wpX_startRead (fun r u' => wpY_startRead (fun r' v' => r' = r ∧ i_Rel (k + 3) u' v') v v1) u v1 := by
  have I' := I
  obtain ⟨lc, ic, oc, L, hi, ho, hu, hs, s, t, y, z, fl, dr, st, fg, ie, pe, la, rm, ln, lw, ct, rfl, rfl, C⟩ := I'
  obtain ⟨c, ok, q, p, qz, hl, hp⟩ := C
  have p2 := p.2.1
  by_cases d : pe = 0
  · by_cases a : v1 < 1
    · exact br_t d (br_t a (br_t d (br_t a ⟨rfl, I⟩)))
    · by_cases b : v1 ≤ 64 - nI y.1
      · have e : (64 : Int32) - nI y.1 = nI (64 - y.1) := pk_sub (a := 64) p2
        have n0 : ¬ v1 < 0 := fun k => a (Int32.lt_trans k (by decide))
        obtain ⟨j, hj, rfl⟩ := nI_of n0
        have b2 : j ≤ 64 - y.1 := by rw [e] at b; exact (nI_leI hj (by omega)).mp b
        have a2 : 1 ≤ j := by
          refine Nat.le_of_not_lt (fun k => a ?_)
          exact nI_lt (b := 1) k (by decide)
        have hp' : ty_p 1 (nI j) y := fun _ => ⟨j, a2, by omega, rfl⟩
        refine br_t d (br_f a (br_t b ?_))
        refine xc_check q p hp' ?_
        refine br_t d (br_f a (br_t b ?_))
        exact yc_check hi hu q.2.1 hp' ⟨rfl, ty_mkK ⟨c, ok, q, p, qz, hl, hp'⟩⟩
      · exact br_t d (br_f a (br_f b (br_t d (br_f a (br_f b ⟨rfl, I⟩)))))
  · exact br_f d (br_f d ⟨rfl, I⟩)
theorem i_vc_setControl {k : Nat} {u : SX} {v : SY} (I : i_Rel k u v) (hk : k + 3 ≤ 1539) (v1 : Int32) (v2 : Int32) : wpX_setControl (fun r u' => wpY_setControl (fun r' v' => r' = r ∧ i_Rel (k + 3) u' v') v v1 v2) u v1 v2 := by
  have I' := I
  obtain ⟨lc, ic, oc, L, hi, ho, hu, hs, s, t, y, z, fl, dr, st, fg, ie, pe, la, rm, ln, lw, ct, rfl, rfl, C⟩ := I'
  have C' := C
  obtain ⟨c, ok, q, p, qz, hl, hp⟩ := C'
  by_cases a : v1 < 0
  · exact br_t a (br_t a ⟨rfl, I⟩)
  · by_cases b : v1 ≤ 9
    · obtain ⟨j, hj, rfl⟩ := nI_of2 (M := 9) (n := 9) (by decide) a b
      have i : vp_in (nI j) 10 := vp_in_nI (by omega) (by omega)
      by_cases e : 7 < nI j
      · have e8 : ¬ nI j < 8 := fun k => by
          have k1 : j < 8 := (nI_ltI (a := j) (b := 8) (by omega) (by omega)).mp k
          have k2 : 7 < j := (nI_ltI (a := 7) (b := j) (by omega) (by omega)).mp e
          omega
        by_cases f : v2 < 0
        · exact br_f a (br_t b (br_t e (br_t f (br_f a (br_t b (br_t e (br_f e8 (br_t f ⟨rfl, I⟩))))))))
        · by_cases g : v2 ≤ 255
          · refine br_f a (br_t b (br_t e (br_f f (br_t g ⟨i, nm_e ?_⟩))))
            refine xc_check q p hp ?_
            refine br_f a (br_t b (br_t e (br_f e8 (br_f f (br_t g ⟨i, nm_e ?_⟩)))))
            exact yc_check hi hu q.2.1 hp ⟨rfl, ty_mkK C⟩
          · exact br_f a (br_t b (br_t e (br_f f (br_f g (br_f a (br_t b (br_t e (br_f e8 (br_f f (br_f g ⟨rfl, I⟩))))))))))
      · have e8 : nI j < 8 := by
          have k2 : ¬ 7 < j := fun k => e (nI_lt (a := 7) k (by omega))
          exact nI_lt (b := 8) (by omega) (by decide)
        by_cases f : v2 < -1
        · exact br_f a (br_t b (br_f e (br_t f (br_f a (br_t b (br_f e (br_t f ⟨rfl, I⟩)))))))
        · by_cases g : v2 ≤ 255
          · refine br_f a (br_t b (br_f e (br_f f (br_t g ⟨i, nm_e ?_⟩))))
            refine xc_check q p hp ?_
            refine br_f a (br_t b (br_f e (br_f f (br_t g (br_t e8 ⟨i, nm_e ?_⟩)))))
            exact yc_check hi hu q.2.1 hp ⟨rfl, ty_mkK C⟩
          · exact br_f a (br_t b (br_f e (br_f f (br_f g (br_f a (br_t b (br_f e (br_f f (br_f g ⟨rfl, I⟩)))))))))
    · exact br_f a (br_f b (br_f a (br_f b ⟨rfl, I⟩)))
end TQ
end
section
section TS
variable {lc ic oc L hi ho hu hs m : Nat} {s : TyO} {t y z : TyI} {fl dr st fg ie pe la rm : Int32} {ln lw ct : TyF} {A : SX → Prop} {P : SY → Prop} {x2 : Int32}
def ty_st (x2 st : Int32) : Int32 := if x2 &&& 16 = 0 then 0 else st
theorem xf_27 (q : ty_i hi t) (p : ty_i hu y) (hp : ty_p pe rm y) (h : A (nI lc, nI ic, nI oc, nI L, nI (ty_ck x2 pe la rm ie ct hi hu t y).1, nI (ty_ck x2 pe la rm ie ct hi hu t y).2.1.1, nI ho, nI s.1, nI hu, nI (ty_ck x2 pe la rm ie ct hi hu t y).2.2.1.1, nI hs, nI z.1, x2, dr, s.2.1, ty_st x2 st, fg, ie, (ty_ck x2 pe la rm ie ct hi hu t y).2.2.2.1, (ty_ck x2 pe la rm ie ct hi hu t y).2.2.2.2, rm, ln, lw, (ty_ck x2 pe la rm ie ct hi hu t y).2.1.2.1, s.2.2.1, (ty_ck x2 pe la rm ie ct hi hu t y).2.2.1.2.1, z.2.1, ct)) : wX_setFlags_27 A x2 (nI lc) (nI ic) (nI oc) (nI L) (nI hi) (nI t.1) (nI ho) (nI s.1) (nI hu) (nI y.1) (nI hs) (nI z.1) fl dr s.2.1 st fg ie pe la rm ln lw t.2.1 s.2.2.1 y.2.1 z.2.1 ct := by
  unfold ty_st at h
  by_cases c : x2 &&& 16 = 0
  · simp only [if_pos c] at h
    refine br_t c ?_
    exact xc_check q p hp h
  · simp only [if_neg c] at h
    refine br_f c ?_
    exact xc_check q p hp h
theorem yf_161 (hi hu : Nat) (h64 : t.1 ≤ 64) (hp : ty_p pe rm y) (h : P (nI lc, nI ic, nI oc, nI L, nI (ty_ck x2 pe la rm ie ct hi hu t y).2.1.1, nI s.1, nI (ty_ck x2 pe la rm ie ct hi hu t y).2.2.1.1, nI z.1, x2, dr, s.2.1, fg, ie, rm, ty_st x2 st, (ty_ck x2 pe la rm ie ct hi hu t y).2.2.2.1, (ty_ck x2 pe la rm ie ct hi hu t y).2.2.2.2, ln, lw, (ty_ck x2 pe la rm ie ct hi hu t y).2.1.2.2, s.2.2.2, (ty_ck x2 pe la rm ie ct hi hu t y).2.2.1.2.2, z.2.2, ct)) : wY_setFlags_161 P x2 (nI lc) (nI ic) (nI oc) (nI L) (nI t.1) (nI s.1) (nI y.1) (nI z.1) fl dr s.2.1 fg ie rm st pe la ln lw t.2.2 s.2.2.2 y.2.2 z.2.2 ct := by
  unfold ty_st at h
  by_cases c : x2 &&& 16 = 0
  · simp only [if_pos c] at h
    refine br_t c ?_
    exact yc_check hi hu h64 hp h
  · simp only [if_neg c] at h
    refine br_f c ?_
    exact yc_check hi hu h64 hp h
theorem yf_84 (hi : Nat) (hL : L ≤ 32) (hc : ic ≤ 64) : ∀ (d k n : Nat) (t : TyI) (dr : Int32), k + d = L → d < n → t.1 ≤ ic → wY_setFlags_161 P x2 (nI lc) (nI ic) (nI oc) (nI 0) (nI ((ty_sp hi ic ln d k t dr).1).1) (nI s.1) (nI y.1) (nI z.1) fl ((ty_sp hi ic ln d k t dr).2) s.2.1 fg ie rm st pe la ln lw (((ty_sp hi ic ln d k t dr).1).2.2) s.2.2.2 y.2.2 z.2.2 ct → wY_setFlags_84 P x2 (nI lc) (nI ic) (nI oc) (nI L) (nI s.1) (nI y.1) (nI z.1) fl s.2.1 fg ie rm st pe la n (nI k) (nI t.1) dr ln lw t.2.2 s.2.2.2 y.2.2 z.2.2 ct := by
  intro d
  induction d with
  | zero =>
    intro k n t dr hk hn ht h
    obtain ⟨n, rfl⟩ : ∃ k, n = k + 1 := ⟨n - 1, by omega⟩
    exact pk_le L k (fun _ => h) (fun e => absurd e (by omega))
  | succ d ih =>
    intro k n t dr hk hn ht h
    obtain ⟨n, rfl⟩ : ∃ k, n = k + 1 := ⟨n - 1, by omega⟩
    refine pk_le L k (fun e => absurd e (by omega)) (fun _ => pk_le 32 k (fun e => absurd e (by omega)) (fun _ => pk_le ic t.1 (fun c => ?_) (fun c => ⟨vp_in_nI (by omega) (by omega), vp_in_nI (by omega) (by omega), ?_⟩)))
    · have e1 : ty_sp hi ic ln (d + 1) k t dr = ty_sp hi ic ln d (k + 1) t (dr + 1) := if_neg (by omega)
      rw [e1] at h
      exact nm_e (nm_r (nI_1 k) (ih (k + 1) n t (dr + 1) (by omega) (by omega) ht h))
    · have e1 : ty_sp hi ic ln (d + 1) k t dr = ty_sp hi ic ln d (k + 1) (ty_in hi (ln k) t) dr := if_pos c
      rw [e1] at h
      rw [nI_clamp (n := k) (by omega), nI_clamp (n := t.1) (by omega)]
      exact nm_e (nm_r (nI_1 t.1) (nm_r (nI_1 k) (ih (k + 1) n (ty_in hi (ln k) t) dr (by omega) (by omega) c h)))
theorem yf_25 {N : Nat} (hi : Nat) (hN : N ≤ 64) : ∀ (d i n : Nat) (t : TyI), i + d = N → d < n → t.1 ≤ i → (∃ n84, wY_setFlags_84 P x2 (nI lc) (nI ic) (nI oc) (nI L) (nI s.1) (nI y.1) (nI z.1) fl s.2.1 fg ie rm st pe la n84 0 (nI (ty_fl hi d i t).1) dr ln lw ((ty_fl hi d i t).2.2) s.2.2.2 y.2.2 z.2.2 ct) → wY_setFlags_25 P x2 (nI lc) (nI ic) (nI oc) (nI L) (nI N) (nI s.1) (nI y.1) (nI z.1) fl dr s.2.1 fg ie rm st pe la n (nI t.1) (nI i) ln lw t.2.2 s.2.2.2 y.2.2 z.2.2 ct := by
  intro d
  induction d with
  | zero =>
    intro i n t hi' hn ht h
    obtain ⟨n, rfl⟩ : ∃ k, n = k + 1 := ⟨n - 1, by omega⟩
    exact pk_le N i (fun _ => h) (fun e => absurd e (by omega))
  | succ d ih =>
    intro i n t hi' hn ht h
    obtain ⟨n, rfl⟩ : ∃ k, n = k + 1 := ⟨n - 1, by omega⟩
    refine pk_le N i (fun e => absurd e (by omega)) (fun _ => pk_le 64 i (fun e => absurd e (by omega)) (fun _ => ⟨vp_in_nI (by omega) (by omega), ?_⟩))
    rw [nI_clamp (n := i) (by omega)]
    by_cases e : t.2.2 i = 256
    · have e1 : ty_fl hi (d + 1) i t = ty_fl hi d (i + 1) t := if_pos e
      rw [e1] at h
      exact br_t e (nm_r (nI_1 i) (ih (i + 1) n t (by omega) (by omega) (by omega) h))
    · have e1 : ty_fl hi (d + 1) i t = ty_fl hi d (i + 1) (ty_in hi (t.2.2 i) t) := if_neg e
      rw [e1] at h
      exact br_f e ⟨vp_in_nI (by omega) (by omega), vp_in_nI (by omega) (by omega), nm_r (congrArg (fun k => upd t.2.2 k (t.2.2 i)) (nI_clamp (by omega))) (nm_r (nI_1 t.1) (nm_r (nI_1 i) (ih (i + 1) n (ty_in hi (t.2.2 i) t) (by omega) (by omega) (by show t.1 + 1 ≤ i + 1; omega) h)))⟩
theorem i_vc_setFlags {k : Nat} {u : SX} {v : SY} (I : i_Rel k u v) (hk : k + 3 ≤ 1539) (v1 : Int32) : wpX_setFlags (fun u' => wpY_setFlags (fun v' => i_Rel (k + 3) u' v') v v1) u v1 := by
  have I' := I
  obtain ⟨lc, ic, oc, L, hi, ho, hu, hs, s, t, y, z, fl, dr, st, fg, ie, pe, la, rm, ln, lw, ct, rfl, rfl, C⟩ := I'
  have C' := C
  obtain ⟨⟨c1, c2, c3, c4, c5, c6, c7, c8⟩, ok, q, p, qz, hl, hp⟩ := C'
  have h64 := q.2.1
  refine nm_e ?_
  by_cases a : fl &&& 1 = 0
  · refine xs_0 a ?_
    refine br_t rfl ?_
    refine xf_27 q p hp ?_
    exact nm_e (br_t a (yf_161 hi hu h64 hp (ty_mkK C)))
  · refine xs_1 a ?_
    refine br_f (by decide) ?_
    by_cases b : v1 &&& 31 &&& 1 = 0
    · have f := ty_iFl t.1 0 (0, t.2) t.1 (by omega) (ty_f0 q)
      have f2 : (ty_fl hi t.1 0 (0, t.2)).1 ≤ ic := by have := f.2; have e : ((0, t.2) : TyI).1 = 0 := rfl; omega
      have g := ty_iSp (ln := ln) c4 L 0 (ty_fl hi t.1 0 (0, t.2)) dr f.1 f2
      have g2 := g.2
      have hl0 : ty_l lw 0 := fun j hj => absurd hj (Nat.not_lt_zero j)
      have R : ty_R (nI lc, nI ic, nI oc, nI 0, nI (ty_ck (v1 &&& 31) pe la rm ie ct hi hu (ty_sp hi ic ln L 0 (ty_fl hi t.1 0 (0, t.2)) dr).1 y).1, nI (ty_ck (v1 &&& 31) pe la rm ie ct hi hu (ty_sp hi ic ln L 0 (ty_fl hi t.1 0 (0, t.2)) dr).1 y).2.1.1, nI ho, nI s.1, nI hu, nI (ty_ck (v1 &&& 31) pe la rm ie ct hi hu (ty_sp hi ic ln L 0 (ty_fl hi t.1 0 (0, t.2)) dr).1 y).2.2.1.1, nI hs, nI z.1, v1 &&& 31, (ty_sp hi ic ln L 0 (ty_fl hi t.1 0 (0, t.2)) dr).2, s.2.1, ty_st (v1 &&& 31) st, fg, ie, (ty_ck (v1 &&& 31) pe la rm ie ct hi hu (ty_sp hi ic ln L 0 (ty_fl hi t.1 0 (0, t.2)) dr).1 y).2.2.2.1, (ty_ck (v1 &&& 31) pe la rm ie ct hi hu (ty_sp hi ic ln L 0 (ty_fl hi t.1 0 (0, t.2)) dr).1 y).2.2.2.2, rm, ln, lw, (ty_ck (v1 &&& 31) pe la rm ie ct hi hu (ty_sp hi ic ln L 0 (ty_fl hi t.1 0 (0, t.2)) dr).1 y).2.1.2.1, s.2.2.1, (ty_ck (v1 &&& 31) pe la rm ie ct hi hu (ty_sp hi ic ln L 0 (ty_fl hi t.1 0 (0, t.2)) dr).1 y).2.2.1.2.1, z.2.1, ct) (nI lc, nI ic, nI oc, nI 0, nI (ty_ck (v1 &&& 31) pe la rm ie ct hi hu (ty_sp hi ic ln L 0 (ty_fl hi t.1 0 (0, t.2)) dr).1 y).2.1.1, nI s.1, nI (ty_ck (v1 &&& 31) pe la rm ie ct hi hu (ty_sp hi ic ln L 0 (ty_fl hi t.1 0 (0, t.2)) dr).1 y).2.2.1.1, nI z.1, v1 &&& 31, (ty_sp hi ic ln L 0 (ty_fl hi t.1 0 (0, t.2)) dr).2, s.2.1, fg, ie, rm, ty_st (v1 &&& 31) st, (ty_ck (v1 &&& 31) pe la rm ie ct hi hu (ty_sp hi ic ln L 0 (ty_fl hi t.1 0 (0, t.2)) dr).1 y).2.2.2.1, (ty_ck (v1 &&& 31) pe la rm ie ct hi hu (ty_sp hi ic ln L 0 (ty_fl hi t.1 0 (0, t.2)) dr).1 y).2.2.2.2, ln, lw, (ty_ck (v1 &&& 31) pe la rm ie ct hi hu (ty_sp hi ic ln L 0 (ty_fl hi t.1 0 (0, t.2)) dr).1 y).2.1.2.2, s.2.2.2, (ty_ck (v1 &&& 31) pe la rm ie ct hi hu (ty_sp hi ic ln L 0 (ty_fl hi t.1 0 (0, t.2)) dr).1 y).2.2.1.2.2, z.2.2, ct) :=
        ty_mkK ⟨⟨c1, c2, c3, c4, c5, c6, by omega, g2⟩, ok, g.1, p, qz, hl0, hp⟩
      refine br_t b ?_
      refine xf_rm q ?_
      refine xf_sp q.1 (by omega) c4 f2 ?_
      refine xf_27 (L := 0) g.1 p hp ?_
      refine nm_e (br_f a (br_t b ⟨t.1 + 1, ?_⟩))
      refine yf_25 (t := (0, t.2)) hi h64 t.1 0 (t.1 + 1) (by omega) (by omega) (Nat.zero_le _) ⟨L + 1, ?_⟩
      refine yf_84 hi (by omega) c4 L 0 (L + 1) (ty_fl hi t.1 0 (0, t.2)) dr (by omega) (by omega) f2 ?_
      exact yf_161 (L := 0) hi hu (by omega) hp R
    · refine br_f b ?_
      refine xf_27 q p hp ?_
      exact nm_e (br_f a (br_f b (yf_161 hi hu h64 hp (ty_mkK C))))
/-! the constructors -/
def ty_clp (p lo hi : Int32) : Int32 := if lo ≤ p then (if p ≤ hi then p else hi) else lo
theorem xi_clamp {U : Int32 → Prop} {p lo hi : Int32} (h : U (ty_clp p lo hi)) : wpX_clamp U p lo hi := by
  unfold ty_clp at h
  by_cases a : lo ≤ p
  · rw [if_pos a] at h
    by_cases b : p ≤ hi
    · rw [if_pos b] at h; exact br_t a (br_t b h)
    · rw [if_neg b] at h; exact br_t a (br_f b h)
  · rw [if_neg a] at h; exact br_f a h
theorem ty_clpN (p : Int32) (a b : Nat) (hab : a ≤ b) (hb : b < 2 ^ 31) : ∃ n : Nat, a ≤ n ∧ n ≤ b ∧ ty_clp p (nI a) (nI b) = nI n := by
  unfold ty_clp
  by_cases c : nI a ≤ p
  · rw [if_pos c]
    by_cases d : p ≤ nI b
    · rw [if_pos d]
      have n0 : ¬ p < 0 := Int32.not_lt.mpr (Int32.le_trans (nI_pos' (n := a) (by omega)) c)
      obtain ⟨j, hj, rfl⟩ := nI_of n0
      exact ⟨j, (nI_leI (by omega) hj).mp c, (nI_leI hj hb).mp d, rfl⟩
    · rw [if_neg d]; exact ⟨b, hab, Nat.le_refl b, rfl⟩
  · rw [if_neg c]; exact ⟨a, Nat.le_refl a, hab, rfl⟩
theorem yi_127 {x3 a b : Int32} (h : wY_init_154 P (ty_clp x3 32 64) a b 0 0 0 0 0 0 31 0 0 1 0 0 0 0 (-1) (fun _ => 0) (fun _ => 0) (fun _ => 0) (fun _ => 0) (fun _ => 0) (fun _ => 0) (fun _ => 0)) : wY_init_127 P x3 b a 0 0 0 0 0 0 0 31 0 0 1 0 0 0 0 (-1) (fun _ => 0) (fun _ => 0) (fun _ => 0) (fun _ => 0) (fun _ => 0) (fun _ => 0) (fun _ => 0) := by
  unfold ty_clp at h
  by_cases c : 32 ≤ x3
  · rw [if_pos c] at h
    by_cases d : x3 ≤ 64
    · rw [if_pos d] at h; exact br_t c (br_t d h)
    · rw [if_neg d] at h; exact br_t c (br_f d h)
  · rw [if_neg c] at h; exact br_f c h
theorem yi_100 {x2 x3 a : Int32} (h : wY_init_154 P (ty_clp x3 32 64) a (ty_clp x2 16 64) 0 0 0 0 0 0 31 0 0 1 0 0 0 0 (-1) (fun _ => 0) (fun _ => 0) (fun _ => 0) (fun _ => 0) (fun _ => 0) (fun _ => 0) (fun _ => 0)) : wY_init_100 P x2 x3 a 0 0 0 0 0 0 0 0 31 0 0 1 0 0 0 0 (-1) (fun _ => 0) (fun _ => 0) (fun _ => 0) (fun _ => 0) (fun _ => 0) (fun _ => 0) (fun _ => 0) := by
  unfold ty_clp at h
  by_cases c : 16 ≤ x2
  · rw [if_pos (c := 16 ≤ x2) c] at h
    by_cases d : x2 ≤ 64
    · rw [if_pos (c := x2 ≤ 64) d] at h; exact br_t c (br_t d (yi_127 h))
    · rw [if_neg (c := x2 ≤ 64) d] at h; exact br_t c (br_f d (yi_127 h))
  · rw [if_neg (c := 16 ≤ x2) c] at h; exact br_f c (yi_127 h)
theorem yi_init {p0 p1 p2 : Int32} (h : wY_init_154 P (ty_clp p2 32 64) (ty_clp p0 8 32) (ty_clp p1 16 64) 0 0 0 0 0 0 31 0 0 1 0 0 0 0 (-1) (fun _ => 0) (fun _ => 0) (fun _ => 0) (fun _ => 0) (fun _ => 0) (fun _ => 0) (fun _ => 0)) : wpY_init P p0 p1 p2 := by
  have k : ∀ a, ty_clp p0 8 32 = a → wY_init_100 P p1 p2 a 0 0 0 0 0 0 0 0 31 0 0 1 0 0 0 0 (-1) (fun _ => 0) (fun _ => 0) (fun _ => 0) (fun _ => 0) (fun _ => 0) (fun _ => 0) (fun _ => 0) := fun a e => yi_100 (by rw [← e]; exact h)
  by_cases c : 8 ≤ p0
  · by_cases d : p0 ≤ 32
    · exact br_t c (br_t d (k _ ((if_pos c).trans (if_pos d))))
    · exact br_t c (br_f d (k _ ((if_pos c).trans (if_neg d))))
  · exact br_f c (k _ (if_neg c))
theorem i_vc0 (k0 : Int32) (k1 : Int32) (k2 : Int32) : wpX_init (fun u => wpY_init (fun v => i_Rel 3 u v) k0 k1 k2) k0 k1 k2 := by
  obtain ⟨lc, l1, l2, l3⟩ := ty_clpN k0 8 32 (by omega) (by omega)
  obtain ⟨ic, j1, j2, j3⟩ := ty_clpN k1 16 64 (by omega) (by omega)
  obtain ⟨oc, o1, o2, o3⟩ := ty_clpN k2 32 64 (by omega) (by omega)
  have C : ty_C lc ic oc 0 0 0 0 0 (0, 0, (fun _ => 0), (fun _ => 0)) (0, (fun _ => 0), (fun _ => 0)) (0, (fun _ => 0), (fun _ => 0)) (0, (fun _ => 0), (fun _ => 0)) 0 0 (fun _ => 0) :=
    ⟨⟨l1, l2, j1, j2, o1, o2, by omega, Nat.zero_le _⟩, ⟨Nat.zero_le _, ty_q0 (by omega)⟩, ty_q0 (by omega), ty_q0 (by omega), ty_q0 (by omega), fun j hj => absurd hj (Nat.not_lt_zero j), ty_p0 _ _⟩
  have R : ∀ ct : TyF, ty_R (nI lc, nI ic, nI oc, 0, 0, 0, 0, 0, 0, 0, 0, 0, 31, 0, 0, 0, 1, 0, 0, (-1), 0, (fun _ => 0), (fun _ => 0), (fun _ => 0), (fun _ => 0), (fun _ => 0), (fun _ => 0), ct) (nI lc, nI ic, nI oc, 0, 0, 0, 0, 0, 31, 0, 0, 1, 0, 0, 0, 0, (-1), (fun _ => 0), (fun _ => 0), (fun _ => 0), (fun _ => 0), (fun _ => 0), (fun _ => 0), ct) := fun ct => ty_mk C
  have l3' : ty_clp k0 8 32 = nI lc := l3
  have j3' : ty_clp k1 16 64 = nI ic := j3
  have o3' : ty_clp k2 32 64 = nI oc := o3
  unfold wpX_init
  refine xi_clamp ?_
  refine xi_clamp ?_
  refine xi_clamp ?_
  refine nm_e (nm_e (nm_e (nm_e (nm_e (nm_e (nm_e (nm_e (nm_e (nm_e ?_)))))))))
  refine yi_init ?_
  rw [l3', j3', o3']
  exact nm_e (nm_e (nm_e (nm_e (nm_e (nm_e (nm_e (nm_e (nm_e (nm_e (R _))))))))))
end TS
end
section
section TV
variable {lc ic oc L hi ho hu hs m : Nat} {s : TyO} {t y z : TyI} {fl dr st fg ie pe la rm v1 : Int32} {ln lw ct : TyF}
/-- what the second walk of a turn of receive must reach -/
def ty_G (v : SY) (v1 : Int32) : Int32 → SX → Prop := fun r u' => wpY_receive (fun r' v' => r' = r ∧ ty_R u' v') v v1
theorem rc_105 (C : ty_C lc ic oc L hi ho hu hs s t y z pe rm lw) (hm : m < 256) (hY : ∀ Q : Int32 → SY → Prop, wY_receive_279 Q (nI m) (ty_x4 fl) (nI lc) (nI ic) (nI oc) (nI L) (nI t.1) (nI s.1) (nI y.1) (nI z.1) fl dr s.2.1 fg ie rm st pe la ln lw t.2.2 s.2.2.2 y.2.2 z.2.2 ct → wpY_receive Q (nI lc, nI ic, nI oc, nI L, nI t.1, nI s.1, nI y.1, nI z.1, fl, dr, s.2.1, fg, ie, rm, st, pe, la, ln, lw, t.2.2, s.2.2.2, y.2.2, z.2.2, ct) v1) : wX_receive_105 (ty_G (nI lc, nI ic, nI oc, nI L, nI t.1, nI s.1, nI y.1, nI z.1, fl, dr, s.2.1, fg, ie, rm, st, pe, la, ln, lw, t.2.2, s.2.2.2, y.2.2, z.2.2, ct) v1) (nI m) (nI lc) (nI ic) (nI oc) (nI L) (nI hi) (nI t.1) (nI ho) (nI s.1) (nI hu) (nI y.1) (nI hs) (nI z.1) fl dr s.2.1 st fg ie pe la rm ln lw t.2.1 s.2.2.1 y.2.1 z.2.1 ct := by
  obtain ⟨⟨c1, c2, c3, c4, c5, c6, c7, c8⟩, ok, q, p, qz, hl, hp⟩ := C
  have h64 := q.2.1
  have hh := q.1
  have hh' := ok.2.1
  have hl0 : ty_l lw 0 := fun j hj => absurd hj (Nat.not_lt_zero j)
  have oe : ∀ m, ty_o oc ho (ty_echo fl oc ho m s) := fun m => ty_oEcho ok c6
  by_cases b : fl &&& 1 = 0
  · by_cases r : t.1 < ic
    · have q' : ty_i hi (ty_in hi (nI m) t) := ty_iIn _ q (by omega)
      refine xr_ra1 b hm r c4 hh hh' c6 ok ?_
      refine xr_128 (t := ty_in hi (nI m) t) q' p hp ?_
      refine hY _ ?_
      refine yr_ra1 hi ho b hm r c4 c6 ok.1 ?_
      exact yr_987 (t := ty_in hi (nI m) t) hi hu q'.2.1 hp ⟨rfl, ty_mkK (t := ty_in hi (nI m) t) (s := ty_echo fl oc ho m s) ⟨⟨c1, c2, c3, c4, c5, c6, c7, r⟩, oe m, q', p, qz, hl, hp⟩⟩
    · refine xr_ra0 b (by omega) h64 ?_
      refine xr_128 q p hp ?_
      refine hY _ ?_
      refine yr_ra0 b (by omega) h64 ?_
      exact yr_987 hi hu h64 hp ⟨rfl, ty_mkK ⟨⟨c1, c2, c3, c4, c5, c6, c7, c8⟩, ok, q, p, qz, hl, hp⟩⟩
  · by_cases e2 : nI m = ct 2
    · cases L with
      | zero =>
        refine xr_er0 b e2 ?_
        refine xr_128 (L := 0) q p hp ?_
        refine hY _ ?_
        refine yr_er0 b e2 ?_
        exact yr_987 (L := 0) hi hu h64 hp ⟨rfl, ty_mkK (L := 0) ⟨⟨c1, c2, c3, c4, c5, c6, c7, c8⟩, ok, q, p, qz, hl, hp⟩⟩
      | succ l =>
        have o' : ty_o oc ho (ty_ee fl oc ho m (ty_cut (ty_rl fl oc ho ln lw) l (l + 1) s)) := ty_oEe (ty_oCl ok c6) c6
        refine xr_er1 b e2 hm hl (by omega) hh' c6 ok ?_
        refine xr_128 (L := l) q p hp ?_
        refine hY _ ?_
        refine yr_er1 ho (ty_x4i fl) b e2 hm hl (by omega) c6 ok ?_
        exact yr_987 (L := l) hi hu h64 hp ⟨rfl, ty_mkK (L := l) ⟨⟨c1, c2, c3, c4, c5, c6, by omega, c8⟩, o', q, p, qz, ty_lLess hl (by omega), hp⟩⟩
    · by_cases e3 : nI m = ct 3
      · cases L with
        | zero =>
          refine xr_we0 b e2 e3 ?_
          refine xr_128 (L := 0) q p hp ?_
          refine hY _ ?_
          refine yr_we0 b e2 e3 ?_
          exact yr_987 (L := 0) hi hu h64 hp ⟨rfl, ty_mkK (L := 0) ⟨⟨c1, c2, c3, c4, c5, c6, c7, c8⟩, ok, q, p, qz, hl, hp⟩⟩
        | succ l =>
          have o' : ty_o oc ho (ty_ee fl oc ho m (ty_cut (ty_rl fl oc ho ln lw) (ty_ww ln (ty_wb ln (l + 1))) (l + 1) s)) := ty_oEe (ty_oCl ok c6) c6
          have le : ty_ww ln (ty_wb ln (l + 1)) ≤ l + 1 := Nat.le_trans (ty_wwle _ _) (ty_wble _ _)
          refine xr_we1 b e2 e3 hm hl (by omega) hh' c6 ok ?_
          refine xr_128 (L := ty_ww ln (ty_wb ln (l + 1))) q p hp ?_
          refine hY _ ?_
          refine yr_we1 ho (ty_x4i fl) b e2 e3 hm hl (by omega) c6 ok ?_
          exact yr_987 (L := ty_ww ln (ty_wb ln (l + 1))) hi hu h64 hp ⟨rfl, ty_mkK (L := ty_ww ln (ty_wb ln (l + 1))) ⟨⟨c1, c2, c3, c4, c5, c6, by omega, c8⟩, o', q, p, qz, ty_lLess hl le, hp⟩⟩
      · by_cases e4 : nI m = ct 4
        · cases L with
          | zero =>
            refine xr_ki0 b e2 e3 e4 ?_
            refine xr_128 (L := 0) q p hp ?_
            refine hY _ ?_
            refine yr_ki0 b e2 e3 e4 ?_
            exact yr_987 (L := 0) hi hu h64 hp ⟨rfl, ty_mkK (L := 0) ⟨⟨c1, c2, c3, c4, c5, c6, c7, c8⟩, ok, q, p, qz, hl, hp⟩⟩
          | succ l =>
            have o' : ty_o oc ho (ty_ek fl oc ho m (ty_cut (ty_rl fl oc ho ln lw) 0 (l + 1) s)) := ty_oEk (ty_oCl ok c6) c6
            refine xr_ki1 b e2 e3 e4 hm hl (by omega) hh' c6 ok ?_
            refine xr_128 (L := 0) q p hp ?_
            refine hY _ ?_
            refine yr_ki1 ho (ty_x4i fl) b e2 e3 e4 hm hl (by omega) c6 ok ?_
            exact yr_987 (L := 0) hi hu h64 hp ⟨rfl, ty_mkK (L := 0) ⟨⟨c1, c2, c3, c4, c5, c6, by omega, c8⟩, o', q, p, qz, hl0, hp⟩⟩
        · by_cases e5 : nI m = ct 5
          · by_cases r : t.1 + L + 1 ≤ ic
            · have n1 : (ty_pl hi ln L 0 t).1 = t.1 + L := ty_pl1 hi ln L 0 t
              have q' : ty_i hi (ty_in hi 256 (ty_pl hi ln L 0 t)) := ty_iIn _ (ty_iPl L 0 t q (by omega)) (by omega)
              have n2 : (ty_in hi 256 (ty_pl hi ln L 0 t)).1 ≤ ic := by show (ty_pl hi ln L 0 t).1 + 1 ≤ ic; omega
              refine xr_ef1 b e2 e3 e4 e5 (by omega) c4 hh r ?_
              refine xr_128 (L := 0) (t := ty_in hi 256 (ty_pl hi ln L 0 t)) q' p hp ?_
              refine hY _ ?_
              refine yr_ef1 hi b e2 e3 e4 e5 (by omega) c4 r ?_
              exact yr_987 (L := 0) (t := ty_in hi 256 (ty_pl hi ln L 0 t)) hi hu q'.2.1 hp ⟨rfl, ty_mkK (L := 0) ⟨⟨c1, c2, c3, c4, c5, c6, by omega, n2⟩, ok, q', p, qz, hl0, hp⟩⟩
            · refine xr_ef0 b e2 e3 e4 e5 (by omega) c4 c8 (by omega) ?_
              refine xr_128 (L := 0) q p hp ?_
              refine hY _ ?_
              refine yr_ef0 b e2 e3 e4 e5 (by omega) c4 c8 (by omega) ?_
              exact yr_987 (L := 0) hi hu h64 hp ⟨rfl, ty_mkK (L := 0) ⟨⟨c1, c2, c3, c4, c5, c6, by omega, c8⟩, ok, q, p, qz, hl0, hp⟩⟩
          · by_cases e10 : nI m = 10
            · by_cases r : t.1 + L + 1 ≤ ic
              · have n1 : (ty_pl hi ln L 0 t).1 = t.1 + L := ty_pl1 hi ln L 0 t
                have q' : ty_i hi (ty_in hi 10 (ty_pl hi ln L 0 t)) := ty_iIn _ (ty_iPl L 0 t q (by omega)) (by omega)
                have n2 : (ty_in hi 10 (ty_pl hi ln L 0 t)).1 ≤ ic := by show (ty_pl hi ln L 0 t).1 + 1 ≤ ic; omega
                refine xr_nl1 b e2 e3 e4 e5 e10 (by omega) c4 hh r hh' c6 ok ?_
                refine xr_128 (L := 0) (t := ty_in hi 10 (ty_pl hi ln L 0 t)) q' p hp ?_
                refine hY _ ?_
                refine yr_nl1 hi ho b e2 e3 e4 e5 e10 (by omega) c4 r c6 ok.1 ?_
                exact yr_987 (L := 0) (t := ty_in hi 10 (ty_pl hi ln L 0 t)) hi hu q'.2.1 hp ⟨rfl, ty_mkK (L := 0) ⟨⟨c1, c2, c3, c4, c5, c6, by omega, n2⟩, oe 10, q', p, qz, hl0, hp⟩⟩
              · refine xr_nl0 b e2 e3 e4 e5 e10 (by omega) c4 c8 (by omega) ?_
                refine xr_128 (L := 0) q p hp ?_
                refine hY _ ?_
                refine yr_nl0 b e2 e3 e4 e5 e10 (by omega) c4 c8 (by omega) ?_
                exact yr_987 (L := 0) hi hu h64 hp ⟨rfl, ty_mkK (L := 0) ⟨⟨c1, c2, c3, c4, c5, c6, by omega, c8⟩, ok, q, p, qz, hl0, hp⟩⟩
            · by_cases r : L < lc
              · have n10 : m ≠ 10 := fun k => e10 (by rw [k]; rfl)
                refine xr_st1 b e2 e3 e4 e5 e10 hm r c2 hh' c6 ok ?_
                refine xr_128 (L := L + 1) q p hp ?_
                refine hY _ ?_
                refine yr_st1 ho b e2 e3 e4 e5 e10 hm r c2 c6 ok.1 ?_
                exact yr_987 (L := L + 1) hi hu h64 hp ⟨rfl, ty_mkK (L := L + 1) ⟨⟨c1, c2, c3, c4, c5, c6, r, c8⟩, oe m, q, p, qz, ty_lPush hl (ty_wE s hm n10), hp⟩⟩
              · refine xr_st0 b e2 e3 e4 e5 e10 (by omega) (by omega) ?_
                refine xr_128 q p hp ?_
                refine hY _ ?_
                refine yr_st0 b e2 e3 e4 e5 e10 (by omega) (by omega) ?_
                exact yr_987 hi hu h64 hp ⟨rfl, ty_mkK ⟨⟨c1, c2, c3, c4, c5, c6, c7, c8⟩, ok, q, p, qz, hl, hp⟩⟩
theorem ty_pS {pe rm : Int32} {y : TyI} (hp : ty_p pe rm y) : ty_p (ty_sp1 pe) rm y := by
  unfold ty_sp1
  by_cases c : pe = 0
  · rw [if_pos c]; exact hp
  · rw [if_neg c]; exact ty_p0 _ _
theorem rc_95 (C : ty_C lc ic oc L hi ho hu hs s t y z pe rm lw) (hm : m < 256) (hY : ∀ Q : Int32 → SY → Prop, wY_receive_114 Q (nI m) (nI lc) (nI ic) (nI oc) (nI L) (nI t.1) (nI s.1) (nI y.1) (nI z.1) fl dr s.2.1 fg ie rm st pe la ln lw t.2.2 s.2.2.2 y.2.2 z.2.2 ct → wpY_receive Q (nI lc, nI ic, nI oc, nI L, nI t.1, nI s.1, nI y.1, nI z.1, fl, dr, s.2.1, fg, ie, rm, st, pe, la, ln, lw, t.2.2, s.2.2.2, y.2.2, z.2.2, ct) v1) : wX_receive_95 (ty_G (nI lc, nI ic, nI oc, nI L, nI t.1, nI s.1, nI y.1, nI z.1, fl, dr, s.2.1, fg, ie, rm, st, pe, la, ln, lw, t.2.2, s.2.2.2, y.2.2, z.2.2, ct) v1) (nI m) (nI lc) (nI ic) (nI oc) (nI L) (nI hi) (nI t.1) (nI ho) (nI s.1) (nI hu) (nI y.1) (nI hs) (nI z.1) fl dr s.2.1 st fg ie pe la rm ln lw t.2.1 s.2.2.1 y.2.1 z.2.1 ct := by
  obtain ⟨⟨c1, c2, c3, c4, c5, c6, c7, c8⟩, ok, q, p, qz, hl, hp⟩ := C
  have hh' := ok.2.1
  have hl0 : ty_l lw 0 := fun j hj => absurd hj (Nat.not_lt_zero j)
  have q' : ty_i hi (0, t.2) := ty_q0 q.1
  have hp' := ty_pS hp
  have o0 : ty_o oc ho (0, s.2) := ⟨Nat.zero_le _, ty_q0 hh'⟩
  refine xr_sig hm qz q hh' c6 ?_
  refine xr_128 (L := 0) (t := (0, t.2)) q' p hp' ?_
  refine hY _ ?_
  refine yr_sig hs ho hm q.2.1 qz.2.1 c6 ?_
  exact yr_987 (L := 0) (t := (0, t.2)) hi hu (Nat.zero_le _) hp' ⟨rfl, ty_mkK (L := 0) (t := (0, t.2)) ⟨⟨c1, c2, c3, c4, c5, c6, by omega, Nat.zero_le _⟩, ty_oEcho o0 c6, q', p, ty_zOk qz, hl0, hp'⟩⟩
theorem rc_all (C : ty_C lc ic oc L hi ho hu hs s t y z pe rm lw) (hm : m < 256) (hv : v1 &&& 255 = nI m) : wpX_receive (ty_G (nI lc, nI ic, nI oc, nI L, nI t.1, nI s.1, nI y.1, nI z.1, fl, dr, s.2.1, fg, ie, rm, st, pe, la, ln, lw, t.2.2, s.2.2.2, y.2.2, z.2.2, ct) v1) (nI lc, nI ic, nI oc, nI L, nI hi, nI t.1, nI ho, nI s.1, nI hu, nI y.1, nI hs, nI z.1, fl, dr, s.2.1, st, fg, ie, pe, la, rm, ln, lw, t.2.1, s.2.2.1, y.2.1, z.2.1, ct) v1 := by
  have C' := C
  obtain ⟨c, ok, q, p, qz, hl, hp⟩ := C'
  have flow : (fl &&& 16 = 0 ∨ (¬ nI m = ct 7 ∧ ¬ nI m = ct 6)) → wpX_receive (ty_G (nI lc, nI ic, nI oc, nI L, nI t.1, nI s.1, nI y.1, nI z.1, fl, dr, s.2.1, fg, ie, rm, st, pe, la, ln, lw, t.2.2, s.2.2.2, y.2.2, z.2.2, ct) v1) (nI lc, nI ic, nI oc, nI L, nI hi, nI t.1, nI ho, nI s.1, nI hu, nI y.1, nI hs, nI z.1, fl, dr, s.2.1, st, fg, ie, pe, la, rm, ln, lw, t.2.1, s.2.2.1, y.2.1, z.2.1, ct) v1 := fun k => by
    refine xr_66 hv k ?_
    by_cases g : fl &&& 8 = 0
    · refine xr_105 (Or.inl g) ?_
      exact rc_105 C hm (fun Q h => yr_84 hv k (yr_279 (Or.inl g) h))
    · by_cases d0 : nI m = ct 0
      · refine xr_95 g (Or.inl d0) ?_
        exact rc_95 C hm (fun Q h => yr_84 hv k (yr_114 g (Or.inl d0) h))
      · by_cases d1 : nI m = ct 1
        · refine xr_95 g (Or.inr d1) ?_
          exact rc_95 C hm (fun Q h => yr_84 hv k (yr_114 g (Or.inr d1) h))
        · refine xr_105 (Or.inr ⟨d0, d1⟩) ?_
          exact rc_105 C hm (fun Q h => yr_84 hv k (yr_279 (Or.inr ⟨d0, d1⟩) h))
  by_cases f : fl &&& 16 = 0
  · exact flow (Or.inl f)
  · by_cases e7 : nI m = ct 7
    · refine xr_stop hv f e7 ?_
      refine xr_128 q p hp ?_
      refine yr_stop hv f e7 ?_
      exact yr_987 hi hu q.2.1 hp ⟨rfl, ty_mkK C⟩
    · by_cases e6 : nI m = ct 6
      · refine xr_start hv f e7 e6 ?_
        refine xr_128 q p hp ?_
        refine yr_start hv f e7 e6 ?_
        exact yr_987 hi hu q.2.1 hp ⟨rfl, ty_mkK C⟩
      · exact flow (Or.inr ⟨e7, e6⟩)
theorem i_vc_receive {k : Nat} {u : SX} {v : SY} (I : i_Rel k u v) (hk : k + 3 ≤ 1539) (v1 : Int32) : wpX_receive (fun r u' => wpY_receive (fun r' v' => r' = r ∧ i_Rel (k + 3) u' v') v v1) u v1 := by
  obtain ⟨lc, ic, oc, L, hi, ho, hu, hs, s, t, y, z, fl, dr, st, fg, ie, pe, la, rm, ln, lw, ct, rfl, rfl, C⟩ := I
  obtain ⟨m, hm, hv⟩ := ty_byte v1
  exact rc_all C hm hv
end TV
end
