section TY
/-! numbers, rings, shifts (rows pk_ and nx_ are pasted from kit/rows) -/
theorem nx_xor (a b : Nat) : nI a ^^^ nI b = nI (a ^^^ b) := by
  apply Int32.toBitVec_inj.1
  show BitVec.ofNat 32 a ^^^ BitVec.ofNat 32 b = BitVec.ofNat 32 (a ^^^ b)
  apply BitVec.eq_of_getLsbD_eq
  intro i hi
  simp [hi]
theorem ty_ring {h n : Nat} (hh : h < 64) (hn : n ≤ 64) : (nI h + nI n) &&& 63 = nI ((h + n) % 64) := by
  rw [nI_add]; exact pk_andN (by omega) 6 (by decide)
theorem ty_ring1 {h : Nat} (hh : h < 64) : (nI h + 1) &&& 63 = nI ((h + 1) % 64) := by
  rw [nI_1]; exact pk_andN (by omega) 6 (by decide)
theorem ty_ringC {h n : Nat} (hh : h < 64) (hn : n ≤ 64) : ((nI h + nI n) &&& 63).toNatClampNeg = (h + n) % 64 := by
  rw [ty_ring hh hn]; exact nI_clamp (by omega)
theorem ty_ringI {h n : Nat} (hh : h < 64) (hn : n ≤ 64) : vp_in ((nI h + nI n) &&& 63) 64 := by
  rw [ty_ring hh hn]; exact vp_in_nI (by omega) (by omega)
theorem ty_rung {h n : Nat} (hh : h < 8) (hn : n ≤ 8) : (nI h + nI n) &&& 7 = nI ((h + n) % 8) := by
  rw [nI_add]; exact pk_andN (by omega) 3 (by decide)
theorem ty_rung1 {h : Nat} (hh : h < 8) : (nI h + 1) &&& 7 = nI ((h + 1) % 8) := by
  rw [nI_1]; exact pk_andN (by omega) 3 (by decide)
theorem ty_rungC {h n : Nat} (hh : h < 8) (hn : n ≤ 8) : ((nI h + nI n) &&& 7).toNatClampNeg = (h + n) % 8 := by
  rw [ty_rung hh hn]; exact nI_clamp (by omega)
theorem ty_rungI {h n : Nat} (hh : h < 8) (hn : n ≤ 8) : vp_in ((nI h + nI n) &&& 7) 8 := by
  rw [ty_rung hh hn]; exact vp_in_nI (by omega) (by omega)
theorem ty_md {N x : Nat} (h : x < 2 * N) : x % N = if x < N then x else x - N := by
  by_cases c : x < N
  · rw [if_pos c]; exact Nat.mod_eq_of_lt c
  · rw [if_neg c, Nat.mod_eq_sub_mod (by omega)]; exact Nat.mod_eq_of_lt (by omega)
theorem ty_mne {N h i n : Nat} (hh : h < N) (hi : i < n) (hn : n < N) : (h + i) % N ≠ (h + n) % N := by
  rw [ty_md (by omega), ty_md (by omega)]
  by_cases c : h + i < N
  · rw [if_pos c]
    by_cases d : h + n < N
    · rw [if_pos d]; omega
    · rw [if_neg d]; omega
  · rw [if_neg c, if_neg (by omega)]; omega
/-- the ring a of N places from h on and the flat array b hold the same n entries -/
def ty_q (N : Nat) (a b : Nat → Int32) (h n : Nat) : Prop := h < N ∧ n ≤ N ∧ ∀ i, i < n → a ((h + i) % N) = b i
theorem ty_q0 {N h : Nat} {a b : Nat → Int32} (hh : h < N) : ty_q N a b h 0 := ⟨hh, by omega, fun _ hi => absurd hi (by omega)⟩
theorem ty_qPush {N h n : Nat} {a b : Nat → Int32} (x : Int32) (q : ty_q N a b h n) (hn : n < N) : ty_q N (upd a ((h + n) % N) x) (upd b n x) h (n + 1) := by
  obtain ⟨h1, h2, h3⟩ := q
  refine ⟨h1, by omega, fun i hi => ?_⟩
  by_cases e : i = n
  · subst e; rw [pk_us, pk_us]
  · rw [pk_un e, pk_un (ty_mne h1 (by omega) hn)]; exact h3 i (by omega)
theorem ty_qDrop {N h n : Nat} {a b b' : Nat → Int32} (q : ty_q N a b h (n + 1)) (hb : ∀ i, i < n → b' i = b (i + 1)) : ty_q N a b' ((h + 1) % N) n := by
  obtain ⟨h1, h2, h3⟩ := q
  refine ⟨Nat.mod_lt _ (by omega), by omega, fun i hi => ?_⟩
  rw [hb i hi, ← h3 (i + 1) (by omega), Nat.mod_add_mod]
  exact congrArg (fun z => a (z % N)) (by omega)
theorem ty_qAt {N h n i : Nat} {a b : Nat → Int32} (q : ty_q N a b h n) (hi : i < n) : a ((h + i) % N) = b i := q.2.2 i hi
theorem ty_qHead {N h n : Nat} {a b : Nat → Int32} (q : ty_q N a b h (n + 1)) : a h = b 0 := by
  have e := q.2.2 0 (by omega)
  rw [Nat.add_zero, Nat.mod_eq_of_lt q.1] at e
  exact e
theorem ty_qLess {N h n m : Nat} {a b : Nat → Int32} (q : ty_q N a b h n) (hm : m ≤ n) : ty_q N a b h m := ⟨q.1, by have := q.2.1; omega, fun i hi => q.2.2 i (by omega)⟩
/-- the flat array while its head is shifted away: the places below k - 1 are done -/
def ty_sh (b : Nat → Int32) (k : Nat) : Nat → Int32 := fun i => if i + 1 < k then b (i + 1) else b i
theorem ty_sh1 (b : Nat → Int32) : ty_sh b 1 = b := funext fun _ => if_neg (by omega)
theorem ty_shk (b : Nat → Int32) (k : Nat) : ty_sh b k k = b k := if_neg (by omega)
theorem ty_shs (b : Nat → Int32) (k : Nat) : upd (ty_sh b (k + 1)) k (b (k + 1)) = ty_sh b (k + 2) := by
  funext i
  by_cases e : i = k
  · subst e; rw [pk_us]; exact (if_pos (by omega)).symm
  · rw [pk_un e]
    by_cases c : i + 1 < k + 1
    · exact (if_pos c).trans (if_pos (by omega)).symm
    · exact (if_neg c).trans (if_neg (by omega)).symm
theorem ty_shd {b : Nat → Int32} {n i : Nat} (h : i < n) : ty_sh b (n + 1) i = b (i + 1) := if_pos (by omega)
/-- the column behind one byte of output -/
def ty_cf (m : Nat) (c : Int32) : Int32 :=
  if m = 8 then (if c ≤ 0 then c else c - 1) else if m = 9 then c + (8 - (c - c / 8 * 8)) else if m = 10 then 0 else if m = 13 then 0 else if 32 ≤ m then (if m = 127 then c else c + 1) else c
theorem ty_addsub (c x : Int32) : c + x - c = x := by rw [Int32.add_comm, Int32.add_sub_cancel]
theorem ty_w9 (c : Int32) : ∃ w : Nat, w ≤ 15 ∧ ty_cf 9 c - c = nI w := by
  show ∃ w : Nat, w ≤ 15 ∧ c + (8 - (c - c / 8 * 8)) - c = nI w
  rw [ty_addsub]
  have e := rem_toInt c 8
  have t := tmod_bounds (a := c.toInt) (M := 8) (by omega)
  have e8 : (8 : Int32).toInt = 8 := by decide
  rw [e8] at e
  have f : (8 - (c - c / 8 * 8)).toInt = 8 - c.toInt.tmod 8 := by
    rw [Int32.toInt_sub, e, e8]
    exact Int.bmod_eq_of_le (by omega) (by omega)
  exact nI_of2 (M := 15) (n := 15) (by decide) (by rw [Int32.lt_iff_toInt_lt, f, show (0 : Int32).toInt = 0 from by decide]; omega) (by rw [Int32.le_iff_toInt_le, f, show (15 : Int32).toInt = 15 from by decide]; omega)
theorem ty_xor (m : Nat) : nI m ^^^ 64 = nI (m ^^^ 64) := nx_xor m 64
theorem ty_xr : ∀ m, m < 128 → (m < 32 ∨ m = 127) → 32 ≤ m ^^^ 64 ∧ m ^^^ 64 < 127 := by decide +kernel
theorem ty_byte (x : Int32) : ∃ m : Nat, m < 256 ∧ x &&& 255 = nI m := pk_andE x 8 (by decide)
/-! the output: its count, the column, the ring, the flat array -/
abbrev TyO : Type := Nat × Int32 × (Nat → Int32) × (Nat → Int32)
def ty_put (ho m : Nat) (s : TyO) : TyO := (s.1 + 1, ty_cf m s.2.1, upd s.2.2.1 ((ho + s.1) % 64) (nI m), upd s.2.2.2 s.1 (nI m))
def ty_1 (oc ho m : Nat) (s : TyO) : TyO := if s.1 + 1 ≤ oc then ty_put ho m s else s
def ty_2 (oc ho m m' : Nat) (s : TyO) : TyO := if s.1 + 2 ≤ oc then ty_put ho m' (ty_put ho m s) else s
def ty_b1 (oc : Nat) (s : TyO) : Int32 := if s.1 + 1 ≤ oc then 1 else 0
def ty_b2 (oc : Nat) (s : TyO) : Int32 := if s.1 + 2 ≤ oc then 1 else 0
def ty_e (oc ho m : Nat) (s : TyO) : TyO := if m = 10 then ty_2 oc ho 13 10 s else if m = 9 then ty_1 oc ho 9 s else if 32 ≤ m then (if m = 127 then ty_2 oc ho 94 (m ^^^ 64) s else ty_1 oc ho m s) else ty_2 oc ho 94 (m ^^^ 64) s
def ty_echo (fl : Int32) (oc ho m : Nat) (s : TyO) : TyO := if fl &&& 2 = 0 then s else ty_e oc ho m s
def ty_bs (ho : Nat) (e : Int32) : Nat → TyO → TyO
  | 0, s => s
  | w + 1, s => ty_bs ho e w (if e = 9 then ty_put ho 8 s else ty_put ho 8 (ty_put ho 32 (ty_put ho 8 s)))
def ty_rub (fl : Int32) (oc ho : Nat) (e : Int32) (w : Nat) (s : TyO) : TyO :=
  if fl &&& 2 = 0 then s else if fl &&& 4 = 0 then s else if (if e = 9 then w else w * 3) + s.1 ≤ oc then ty_bs ho e w s else s
def ty_o (oc ho : Nat) (s : TyO) : Prop := s.1 ≤ oc ∧ ty_q 64 s.2.2.1 s.2.2.2 ho s.1
theorem ty_oPut {oc ho m : Nat} {s : TyO} (h : ty_o oc ho s) (hc : oc ≤ 64) (hr : s.1 + 1 ≤ oc) : ty_o oc ho (ty_put ho m s) := ⟨hr, ty_qPush _ h.2 (by omega)⟩
theorem ty_o1 {oc ho m : Nat} {s : TyO} (h : ty_o oc ho s) (hc : oc ≤ 64) : ty_o oc ho (ty_1 oc ho m s) := by
  unfold ty_1
  by_cases c : s.1 + 1 ≤ oc
  · rw [if_pos c]; exact ty_oPut h hc c
  · rw [if_neg c]; exact h
theorem ty_o2 {oc ho m m' : Nat} {s : TyO} (h : ty_o oc ho s) (hc : oc ≤ 64) : ty_o oc ho (ty_2 oc ho m m' s) := by
  unfold ty_2
  by_cases c : s.1 + 2 ≤ oc
  · rw [if_pos c]; exact ty_oPut (ty_oPut h hc (by omega)) hc c
  · rw [if_neg c]; exact h
theorem ty_oE {oc ho m : Nat} {s : TyO} (h : ty_o oc ho s) (hc : oc ≤ 64) : ty_o oc ho (ty_e oc ho m s) := by
  unfold ty_e
  by_cases c1 : m = 10
  · rw [if_pos c1]; exact ty_o2 h hc
  · rw [if_neg c1]
    by_cases c2 : m = 9
    · rw [if_pos c2]; exact ty_o1 h hc
    · rw [if_neg c2]
      by_cases c3 : 32 ≤ m
      · rw [if_pos c3]
        by_cases c4 : m = 127
        · rw [if_pos c4]; exact ty_o2 h hc
        · rw [if_neg c4]; exact ty_o1 h hc
      · rw [if_neg c3]; exact ty_o2 h hc
theorem ty_oEcho {fl : Int32} {oc ho m : Nat} {s : TyO} (h : ty_o oc ho s) (hc : oc ≤ 64) : ty_o oc ho (ty_echo fl oc ho m s) := by
  unfold ty_echo
  by_cases c : fl &&& 2 = 0
  · rw [if_pos c]; exact h
  · rw [if_neg c]; exact ty_oE h hc
theorem ty_oBs {oc ho : Nat} {e : Int32} (hc : oc ≤ 64) : ∀ (w : Nat) (s : TyO), ty_o oc ho s → (if e = 9 then w else w * 3) + s.1 ≤ oc → ty_o oc ho (ty_bs ho e w s) := by
  intro w
  induction w with
  | zero => intro s h _; exact h
  | succ w ih =>
    intro s h hr
    show ty_o oc ho (ty_bs ho e w (if e = 9 then ty_put ho 8 s else ty_put ho 8 (ty_put ho 32 (ty_put ho 8 s))))
    by_cases c : e = 9
    · rw [if_pos c] at hr ⊢
      refine ih _ (ty_oPut h hc (by omega)) ?_
      rw [if_pos c]
      show w + (s.1 + 1) ≤ oc
      omega
    · rw [if_neg c] at hr ⊢
      refine ih _ (ty_oPut (ty_oPut (ty_oPut h hc (by omega)) hc ?_) hc ?_) ?_
      · show s.1 + 1 + 1 ≤ oc
        omega
      · show s.1 + 1 + 1 + 1 ≤ oc
        omega
      · rw [if_neg c]
        show w * 3 + (s.1 + 1 + 1 + 1) ≤ oc
        omega
theorem ty_oRub {fl : Int32} {oc ho w : Nat} {e : Int32} {s : TyO} (h : ty_o oc ho s) (hc : oc ≤ 64) : ty_o oc ho (ty_rub fl oc ho e w s) := by
  unfold ty_rub
  by_cases c : fl &&& 2 = 0
  · rw [if_pos c]; exact h
  · rw [if_neg c]
    by_cases d : fl &&& 4 = 0
    · rw [if_pos d]; exact h
    · rw [if_neg d]
      by_cases r : (if e = 9 then w else w * 3) + s.1 ≤ oc
      · rw [if_pos r]; exact ty_oBs hc w s h r
      · rw [if_neg r]; exact h
/-! the width of an echo other than a newline's -/
theorem ty_cfp {m : Nat} (c : Int32) (h : 32 ≤ m) (h2 : m ≠ 127) : ty_cf m c = c + 1 := by
  unfold ty_cf
  rw [if_neg (by omega), if_neg (by omega), if_neg (by omega), if_neg (by omega), if_pos h, if_neg h2]
theorem ty_w0 (c : Int32) : ∃ w : Nat, w ≤ 15 ∧ c - c = nI w := ⟨0, by omega, Int32.sub_self c⟩
theorem ty_w1 {m : Nat} {oc ho : Nat} (s : TyO) (h : m = 9 ∨ (32 ≤ m ∧ m ≠ 127)) : ∃ w : Nat, w ≤ 15 ∧ (ty_1 oc ho m s).2.1 - s.2.1 = nI w := by
  unfold ty_1
  by_cases c : s.1 + 1 ≤ oc
  · rw [if_pos c]
    show ∃ w : Nat, w ≤ 15 ∧ ty_cf m s.2.1 - s.2.1 = nI w
    rcases h with rfl | ⟨h1, h2⟩
    · exact ty_w9 _
    · rw [ty_cfp _ h1 h2, ty_addsub]; exact ⟨1, by omega, rfl⟩
  · rw [if_neg c]; exact ty_w0 _
theorem ty_w2 {m : Nat} {oc ho : Nat} (s : TyO) (h1 : 32 ≤ m) (h2 : m ≠ 127) : ∃ w : Nat, w ≤ 15 ∧ (ty_2 oc ho 94 m s).2.1 - s.2.1 = nI w := by
  unfold ty_2
  by_cases c : s.1 + 2 ≤ oc
  · rw [if_pos c]
    show ∃ w : Nat, w ≤ 15 ∧ ty_cf m (ty_cf 94 s.2.1) - s.2.1 = nI w
    rw [ty_cfp _ h1 h2, ty_cfp (m := 94) _ (by omega) (by omega), Int32.add_assoc, ty_addsub]
    exact ⟨2, by omega, by decide⟩
  · rw [if_neg c]; exact ty_w0 _
theorem ty_wE {fl : Int32} {oc ho m : Nat} (s : TyO) (hm : m < 256) (h : m ≠ 10) : ∃ w : Nat, w ≤ 15 ∧ (ty_echo fl oc ho m s).2.1 - s.2.1 = nI w := by
  unfold ty_echo
  by_cases c : fl &&& 2 = 0
  · rw [if_pos c]; exact ty_w0 _
  · rw [if_neg c]
    unfold ty_e
    rw [if_neg h]
    by_cases c2 : m = 9
    · rw [if_pos c2]; exact ty_w1 s (Or.inl rfl)
    · rw [if_neg c2]
      by_cases c3 : 32 ≤ m
      · rw [if_pos c3]
        by_cases c4 : m = 127
        · have x := ty_xr m (by omega) (Or.inr c4)
          rw [if_pos c4]; exact ty_w2 s x.1 (by omega)
        · rw [if_neg c4]; exact ty_w1 s (Or.inr ⟨c3, c4⟩)
      · have x := ty_xr m (by omega) (Or.inl (by omega))
        rw [if_neg c3]; exact ty_w2 s x.1 (by omega)
/-! the end of the line walked back over -/
def ty_ws (p : Nat → Bool) : Nat → Nat
  | 0 => 0
  | j + 1 => if p j = true then ty_ws p j else j + 1
theorem ty_wsle (p : Nat → Bool) : ∀ j, ty_ws p j ≤ j := by
  intro j
  induction j with
  | zero => exact Nat.le_refl 0
  | succ j ih =>
    show (if p j = true then ty_ws p j else j + 1) ≤ j + 1
    by_cases c : p j = true
    · rw [if_pos c]; omega
    · rw [if_neg c]; omega
def ty_cut (rub : Nat → TyO → TyO) (m : Nat) : Nat → TyO → TyO
  | 0, s => s
  | j + 1, s => if j < m then s else ty_cut rub m j (rub j s)
theorem ty_cutE (rub : Nat → TyO → TyO) (m : Nat) (s : TyO) : ty_cut rub m m s = s := by
  cases m with
  | zero => rfl
  | succ m => exact if_pos (by omega)
theorem ty_cutS (rub : Nat → TyO → TyO) {m j : Nat} (s : TyO) (h : m ≤ j) : ty_cut rub m (j + 1) s = ty_cut rub m j (rub j s) := if_neg (by omega)
theorem ty_cutM (rub : Nat → TyO → TyO) {m p : Nat} (hm : m ≤ p) : ∀ (j : Nat) (s : TyO), p ≤ j → ty_cut rub m j s = ty_cut rub m p (ty_cut rub p j s) := by
  intro j
  induction j with
  | zero =>
    intro s h
    obtain rfl : p = 0 := by omega
    rfl
  | succ j ih =>
    intro s h
    by_cases c : p = j + 1
    · subst c; rw [ty_cutE]
    · rw [ty_cutS rub s (show m ≤ j by omega), ty_cutS rub s (show p ≤ j by omega)]
      exact ih _ (by omega)
theorem ty_oCut {oc ho m : Nat} {rub : Nat → TyO → TyO} (hr : ∀ j s, ty_o oc ho s → ty_o oc ho (rub j s)) : ∀ (j : Nat) (s : TyO), ty_o oc ho s → ty_o oc ho (ty_cut rub m j s) := by
  intro j
  induction j with
  | zero => intro s h; exact h
  | succ j ih =>
    intro s h
    show ty_o oc ho (if j < m then s else ty_cut rub m j (rub j s))
    by_cases c : j < m
    · rw [if_pos c]; exact h
    · rw [if_neg c]; exact ih _ (hr j s h)
end TY
