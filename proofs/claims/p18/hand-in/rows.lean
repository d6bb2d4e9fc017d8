section
section TY
/-! numbers, rings, shifts (rows pk_ and nx_ are pasted from kit/rows) -/
theorem nx_xor (a b : Nat) : nI a ^^^ nI b = nI (a ^^^ b) := by
  apply Int32.toBitVec_inj.1
  show BitVec.ofNat 32 a ^^^ BitVec.ofNat 32 b = BitVec.ofNat 32 (a ^^^ b)
  apply BitVec.eq_of_getLsbD_eq
  intro i hi
  simp [hi]
theorem ty_ring {h n : Nat} (hh : h < 64) (hn : n ≤ 64) : (nI h + nI n) &&& 63 = nI ((h + n) % 64) := by
  rw [nI_add]; exact pk_andN (by omega) 6 (by decide)
theorem ty_ring1 {h : Nat} (hh : h < 64) : (nI h + 1) &&& 63 = nI ((h + 1) % 64) := by
  rw [nI_1]; exact pk_andN (by omega) 6 (by decide)
theorem ty_ringC {h n : Nat} (hh : h < 64) (hn : n ≤ 64) : ((nI h + nI n) &&& 63).toNatClampNeg = (h + n) % 64 := by
  rw [ty_ring hh hn]; exact nI_clamp (by omega)
theorem ty_ringI {h n : Nat} (hh : h < 64) (hn : n ≤ 64) : vp_in ((nI h + nI n) &&& 63) 64 := by
  rw [ty_ring hh hn]; exact vp_in_nI (by omega) (by omega)
theorem ty_rung {h n : Nat} (hh : h < 8) (hn : n ≤ 8) : (nI h + nI n) &&& 7 = nI ((h + n) % 8) := by
  rw [nI_add]; exact pk_andN (by omega) 3 (by decide)
theorem ty_rung1 {h : Nat} (hh : h < 8) : (nI h + 1) &&& 7 = nI ((h + 1) % 8) := by
  rw [nI_1]; exact pk_andN (by omega) 3 (by decide)
theorem ty_rungC {h n : Nat} (hh : h < 8) (hn : n ≤ 8) : ((nI h + nI n) &&& 7).toNatClampNeg = (h + n) % 8 := by
  rw [ty_rung hh hn]; exact nI_clamp (by omega)
theorem ty_rungI {h n : Nat} (hh : h < 8) (hn : n ≤ 8) : vp_in ((nI h + nI n) &&& 7) 8 := by
  rw [ty_rung hh hn]; exact vp_in_nI (by omega) (by omega)
theorem ty_md {N x : Nat} (h : x < 2 * N) : x % N = if x < N then x else x - N := by
  by_cases c : x < N
  · rw [if_pos c]; exact Nat.mod_eq_of_lt c
  · rw [if_neg c, Nat.mod_eq_sub_mod (by omega)]; exact Nat.mod_eq_of_lt (by omega)
theorem ty_mne {N h i n : Nat} (hh : h < N) (hi : i < n) (hn : n < N) : (h + i) % N ≠ (h + n) % N := by
  rw [ty_md (by omega), ty_md (by omega)]
  by_cases c : h + i < N
  · rw [if_pos c]
    by_cases d : h + n < N
    · rw [if_pos d]; omega
    · rw [if_neg d]; omega
  · rw [if_neg c, if_neg (by omega)]; omega
/-- the ring a of N places from h on and the flat array b hold the same n entries -/
def ty_q (N : Nat) (a b : Nat → Int32) (h n : Nat) : Prop := h < N ∧ n ≤ N ∧ ∀ i, i < n → a ((h + i) % N) = b i
theorem ty_q0 {N h : Nat} {a b : Nat → Int32} (hh : h < N) : ty_q N a b h 0 := ⟨hh, by omega, fun _ hi => absurd hi (by omega)⟩
theorem ty_qPush {N h n : Nat} {a b : Nat → Int32} (x : Int32) (q : ty_q N a b h n) (hn : n < N) : ty_q N (upd a ((h + n) % N) x) (upd b n x) h (n + 1) := by
  obtain ⟨h1, h2, h3⟩ := q
  refine ⟨h1, by omega, fun i hi => ?_⟩
  by_cases e : i = n
  · subst e; rw [pk_us, pk_us]
  · rw [pk_un e, pk_un (ty_mne h1 (by omega) hn)]; exact h3 i (by omega)
theorem ty_qDrop {N h n : Nat} {a b b' : Nat → Int32} (q : ty_q N a b h (n + 1)) (hb : ∀ i, i < n → b' i = b (i + 1)) : ty_q N a b' ((h + 1) % N) n := by
  obtain ⟨h1, h2, h3⟩ := q
  refine ⟨Nat.mod_lt _ (by omega), by omega, fun i hi => ?_⟩
  rw [hb i hi, ← h3 (i + 1) (by omega), Nat.mod_add_mod]
  exact congrArg (fun z => a (z % N)) (by omega)
theorem ty_qAt {N h n i : Nat} {a b : Nat → Int32} (q : ty_q N a b h n) (hi : i < n) : a ((h + i) % N) = b i := q.2.2 i hi
theorem ty_qHead {N h n : Nat} {a b : Nat → Int32} (q : ty_q N a b h (n + 1)) : a h = b 0 := by
  have e := q.2.2 0 (by omega)
  rw [Nat.add_zero, Nat.mod_eq_of_lt q.1] at e
  exact e
theorem ty_qLess {N h n m : Nat} {a b : Nat → Int32} (q : ty_q N a b h n) (hm : m ≤ n) : ty_q N a b h m := ⟨q.1, by have := q.2.1; omega, fun i hi => q.2.2 i (by omega)⟩
/-- the flat array while its head is shifted away: the places below k - 1 are done -/
def ty_sh (b : Nat → Int32) (k : Nat) : Nat → Int32 := fun i => if i + 1 < k then b (i + 1) else b i
theorem ty_sh1 (b : Nat → Int32) : ty_sh b 1 = b := funext fun _ => if_neg (by omega)
theorem ty_shk (b : Nat → Int32) (k : Nat) : ty_sh b k k = b k := if_neg (by omega)
theorem ty_shs (b : Nat → Int32) (k : Nat) : upd (ty_sh b (k + 1)) k (b (k + 1)) = ty_sh b (k + 2) := by
  funext i
  by_cases e : i = k
  · subst e; rw [pk_us]; exact (if_pos (by omega)).symm
  · rw [pk_un e]
    by_cases c : i + 1 < k + 1
    · exact (if_pos c).trans (if_pos (by omega)).symm
    · exact (if_neg c).trans (if_neg (by omega)).symm
theorem ty_shd {b : Nat → Int32} {n i : Nat} (h : i < n) : ty_sh b (n + 1) i = b (i + 1) := if_pos (by omega)
/-- the column behind one byte of output -/
def ty_cf (m : Nat) (c : Int32) : Int32 :=
  if m = 8 then (if c ≤ 0 then c else c - 1) else if m = 9 then c + (8 - (c - c / 8 * 8)) else if m = 10 then 0 else if m = 13 then 0 else if 32 ≤ m then (if m = 127 then c else c + 1) else c
theorem ty_addsub (c x : Int32) : c + x - c = x := by rw [Int32.add_comm, Int32.add_sub_cancel]
theorem ty_w9 (c : Int32) : ∃ w : Nat, w ≤ 15 ∧ ty_cf 9 c - c = nI w := by
  show ∃ w : Nat, w ≤ 15 ∧ c + (8 - (c - c / 8 * 8)) - c = nI w
  rw [ty_addsub]
  have e := rem_toInt c 8
  have t := tmod_bounds (a := c.toInt) (M := 8) (by omega)
  have e8 : (8 : Int32).toInt = 8 := by decide
  rw [e8] at e
  have f : (8 - (c - c / 8 * 8)).toInt = 8 - c.toInt.tmod 8 := by
    rw [Int32.toInt_sub, e, e8]
    exact Int.bmod_eq_of_le (by omega) (by omega)
  exact nI_of2 (M := 15) (n := 15) (by decide) (by rw [Int32.lt_iff_toInt_lt, f, show (0 : Int32).toInt = 0 from by decide]; omega) (by rw [Int32.le_iff_toInt_le, f, show (15 : Int32).toInt = 15 from by decide]; omega)
theorem ty_xor (m : Nat) : nI m ^^^ 64 = nI (m ^^^ 64) := nx_xor m 64
theorem ty_xr : ∀ m, m < 128 → (m < 32 ∨ m = 127) → 32 ≤ m ^^^ 64 ∧ m ^^^ 64 < 127 := by decide +kernel
theorem ty_byte (x : Int32) : ∃ m : Nat, m < 256 ∧ x &&& 255 = nI m := pk_andE x 8 (by decide)
/-! the output: its count, the column, the ring, the flat array -/
abbrev TyO : Type := Nat × Int32 × (Nat → Int32) × (Nat → Int32)
def ty_put (ho m : Nat) (s : TyO) : TyO := (s.1 + 1, ty_cf m s.2.1, upd s.2.2.1 ((ho + s.1) % 64) (nI m), upd s.2.2.2 s.1 (nI m))
def ty_1 (oc ho m : Nat) (s : TyO) : TyO := if s.1 + 1 ≤ oc then ty_put ho m s else s
def ty_2 (oc ho m m' : Nat) (s : TyO) : TyO := if s.1 + 2 ≤ oc then ty_put ho m' (ty_put ho m s) else s
def ty_b1 (oc : Nat) (s : TyO) : Int32 := if s.1 + 1 ≤ oc then 1 else 0
def ty_b2 (oc : Nat) (s : TyO) : Int32 := if s.1 + 2 ≤ oc then 1 else 0
def ty_e (oc ho m : Nat) (s : TyO) : TyO := if m = 10 then ty_2 oc ho 13 10 s else if m = 9 then ty_1 oc ho 9 s else if 32 ≤ m then (if m = 127 then ty_2 oc ho 94 (m ^^^ 64) s else ty_1 oc ho m s) else ty_2 oc ho 94 (m ^^^ 64) s
def ty_echo (fl : Int32) (oc ho m : Nat) (s : TyO) : TyO := if fl &&& 2 = 0 then s else ty_e oc ho m s
def ty_bs (ho : Nat) (e : Int32) : Nat → TyO → TyO
  | 0, s => s
  | w + 1, s => ty_bs ho e w (if e = 9 then ty_put ho 8 s else ty_put ho 8 (ty_put ho 32 (ty_put ho 8 s)))
def ty_rub (fl : Int32) (oc ho : Nat) (e : Int32) (w : Nat) (s : TyO) : TyO :=
  if fl &&& 2 = 0 then s else if fl &&& 4 = 0 then s else if (if e = 9 then w else w * 3) + s.1 ≤ oc then ty_bs ho e w s else s
def ty_o (oc ho : Nat) (s : TyO) : Prop := s.1 ≤ oc ∧ ty_q 64 s.2.2.1 s.2.2.2 ho s.1
theorem ty_oPut {oc ho m : Nat} {s : TyO} (h : ty_o oc ho s) (hc : oc ≤ 64) (hr : s.1 + 1 ≤ oc) : ty_o oc ho (ty_put ho m s) := ⟨hr, ty_qPush _ h.2 (by omega)⟩
theorem ty_o1 {oc ho m : Nat} {s : TyO} (h : ty_o oc ho s) (hc : oc ≤ 64) : ty_o oc ho (ty_1 oc ho m s) := by
  unfold ty_1
  by_cases c : s.1 + 1 ≤ oc
  · rw [if_pos c]; exact ty_oPut h hc c
  · rw [if_neg c]; exact h
theorem ty_o2 {oc ho m m' : Nat} {s : TyO} (h : ty_o oc ho s) (hc : oc ≤ 64) : ty_o oc ho (ty_2 oc ho m m' s) := by
  unfold ty_2
  by_cases c : s.1 + 2 ≤ oc
  · rw [if_pos c]; exact ty_oPut (ty_oPut h hc (by omega)) hc c
  · rw [if_neg c]; exact h
theorem ty_oE {oc ho m : Nat} {s : TyO} (h : ty_o oc ho s) (hc : oc ≤ 64) : ty_o oc ho (ty_e oc ho m s) := by
  unfold ty_e
  by_cases c1 : m = 10
  · rw [if_pos c1]; exact ty_o2 h hc
  · rw [if_neg c1]
    by_cases c2 : m = 9
    · rw [if_pos c2]; exact ty_o1 h hc
    · rw [if_neg c2]
      by_cases c3 : 32 ≤ m
      · rw [if_pos c3]
        by_cases c4 : m = 127
        · rw [if_pos c4]; exact ty_o2 h hc
        · rw [if_neg c4]; exact ty_o1 h hc
      · rw [if_neg c3]; exact ty_o2 h hc
theorem ty_oEcho {fl : Int32} {oc ho m : Nat} {s : TyO} (h : ty_o oc ho s) (hc : oc ≤ 64) : ty_o oc ho (ty_echo fl oc ho m s) := by
  unfold ty_echo
  by_cases c : fl &&& 2 = 0
  · rw [if_pos c]; exact h
  · rw [if_neg c]; exact ty_oE h hc
theorem ty_oBs {oc ho : Nat} {e : Int32} (hc : oc ≤ 64) : ∀ (w : Nat) (s : TyO), ty_o oc ho s → (if e = 9 then w else w * 3) + s.1 ≤ oc → ty_o oc ho (ty_bs ho e w s) := by
  intro w
  induction w with
  | zero => intro s h _; exact h
  | succ w ih =>
    intro s h hr
    show ty_o oc ho (ty_bs ho e w (if e = 9 then ty_put ho 8 s else ty_put ho 8 (ty_put ho 32 (ty_put ho 8 s))))
    by_cases c : e = 9
    · rw [if_pos c] at hr ⊢
      refine ih _ (ty_oPut h hc (by omega)) ?_
      rw [if_pos c]
      show w + (s.1 + 1) ≤ oc
      omega
    · rw [if_neg c] at hr ⊢
      refine ih _ (ty_oPut (ty_oPut (ty_oPut h hc (by omega)) hc ?_) hc ?_) ?_
      · show s.1 + 1 + 1 ≤ oc
        omega
      · show s.1 + 1 + 1 + 1 ≤ oc
        omega
      · rw [if_neg c]
        show w * 3 + (s.1 + 1 + 1 + 1) ≤ oc
        omega
theorem ty_oRub {fl : Int32} {oc ho w : Nat} {e : Int32} {s : TyO} (h : ty_o oc ho s) (hc : oc ≤ 64) : ty_o oc ho (ty_rub fl oc ho e w s) := by
  unfold ty_rub
  by_cases c : fl &&& 2 = 0
  · rw [if_pos c]; exact h
  · rw [if_neg c]
    by_cases d : fl &&& 4 = 0
    · rw [if_pos d]; exact h
    · rw [if_neg d]
      by_cases r : (if e = 9 then w else w * 3) + s.1 ≤ oc
      · rw [if_pos r]; exact ty_oBs hc w s h r
      · rw [if_neg r]; exact h
/-! the width of an echo other than a newline's -/
theorem ty_cfp {m : Nat} (c : Int32) (h : 32 ≤ m) (h2 : m ≠ 127) : ty_cf m c = c + 1 := by
  unfold ty_cf
  rw [if_neg (by omega), if_neg (by omega), if_neg (by omega), if_neg (by omega), if_pos h, if_neg h2]
theorem ty_w0 (c : Int32) : ∃ w : Nat, w ≤ 15 ∧ c - c = nI w := ⟨0, by omega, Int32.sub_self c⟩
theorem ty_w1 {m : Nat} {oc ho : Nat} (s : TyO) (h : m = 9 ∨ (32 ≤ m ∧ m ≠ 127)) : ∃ w : Nat, w ≤ 15 ∧ (ty_1 oc ho m s).2.1 - s.2.1 = nI w := by
  unfold ty_1
  by_cases c : s.1 + 1 ≤ oc
  · rw [if_pos c]
    show ∃ w : Nat, w ≤ 15 ∧ ty_cf m s.2.1 - s.2.1 = nI w
    rcases h with rfl | ⟨h1, h2⟩
    · exact ty_w9 _
    · rw [ty_cfp _ h1 h2, ty_addsub]; exact ⟨1, by omega, rfl⟩
  · rw [if_neg c]; exact ty_w0 _
theorem ty_w2 {m : Nat} {oc ho : Nat} (s : TyO) (h1 : 32 ≤ m) (h2 : m ≠ 127) : ∃ w : Nat, w ≤ 15 ∧ (ty_2 oc ho 94 m s).2.1 - s.2.1 = nI w := by
  unfold ty_2
  by_cases c : s.1 + 2 ≤ oc
  · rw [if_pos c]
    show ∃ w : Nat, w ≤ 15 ∧ ty_cf m (ty_cf 94 s.2.1) - s.2.1 = nI w
    rw [ty_cfp _ h1 h2, ty_cfp (m := 94) _ (by omega) (by omega), Int32.add_assoc, ty_addsub]
    exact ⟨2, by omega, by decide⟩
  · rw [if_neg c]; exact ty_w0 _
theorem ty_wE {fl : Int32} {oc ho m : Nat} (s : TyO) (hm : m < 256) (h : m ≠ 10) : ∃ w : Nat, w ≤ 15 ∧ (ty_echo fl oc ho m s).2.1 - s.2.1 = nI w := by
  unfold ty_echo
  by_cases c : fl &&& 2 = 0
  · rw [if_pos c]; exact ty_w0 _
  · rw [if_neg c]
    unfold ty_e
    rw [if_neg h]
    by_cases c2 : m = 9
    · rw [if_pos c2]; exact ty_w1 s (Or.inl rfl)
    · rw [if_neg c2]
      by_cases c3 : 32 ≤ m
      · rw [if_pos c3]
        by_cases c4 : m = 127
        · have x := ty_xr m (by omega) (Or.inr c4)
          rw [if_pos c4]; exact ty_w2 s x.1 (by omega)
        · rw [if_neg c4]; exact ty_w1 s (Or.inr ⟨c3, c4⟩)
      · have x := ty_xr m (by omega) (Or.inl (by omega))
        rw [if_neg c3]; exact ty_w2 s x.1 (by omega)
/-! the end of the line walked back over -/
def ty_ws (p : Nat → Bool) : Nat → Nat
  | 0 => 0
  | j + 1 => if p j = true then ty_ws p j else j + 1
theorem ty_wsle (p : Nat → Bool) : ∀ j, ty_ws p j ≤ j := by
  intro j
  induction j with
  | zero => exact Nat.le_refl 0
  | succ j ih =>
    show (if p j = true then ty_ws p j else j + 1) ≤ j + 1
    by_cases c : p j = true
    · rw [if_pos c]; omega
    · rw [if_neg c]; omega
def ty_cut (rub : Nat → TyO → TyO) (m : Nat) : Nat → TyO → TyO
  | 0, s => s
  | j + 1, s => if j < m then s else ty_cut rub m j (rub j s)
theorem ty_cutE (rub : Nat → TyO → TyO) (m : Nat) (s : TyO) : ty_cut rub m m s = s := by
  cases m with
  | zero => rfl
  | succ m => exact if_pos (by omega)
theorem ty_cutS (rub : Nat → TyO → TyO) {m j : Nat} (s : TyO) (h : m ≤ j) : ty_cut rub m (j + 1) s = ty_cut rub m j (rub j s) := if_neg (by omega)
theorem ty_cutM (rub : Nat → TyO → TyO) {m p : Nat} (hm : m ≤ p) : ∀ (j : Nat) (s : TyO), p ≤ j → ty_cut rub m j s = ty_cut rub m p (ty_cut rub p j s) := by
  intro j
  induction j with
  | zero =>
    intro s h
    obtain rfl : p = 0 := by omega
    rfl
  | succ j ih =>
    intro s h
    by_cases c : p = j + 1
    · subst c; rw [ty_cutE]
    · rw [ty_cutS rub s (show m ≤ j by omega), ty_cutS rub s (show p ≤ j by omega)]
      exact ih _ (by omega)
theorem ty_oCut {oc ho m : Nat} {rub : Nat → TyO → TyO} (hr : ∀ j s, ty_o oc ho s → ty_o oc ho (rub j s)) : ∀ (j : Nat) (s : TyO), ty_o oc ho s → ty_o oc ho (ty_cut rub m j s) := by
  intro j
  induction j with
  | zero => intro s h; exact h
  | succ j ih =>
    intro s h
    show ty_o oc ho (if j < m then s else ty_cut rub m j (rub j s))
    by_cases c : j < m
    · rw [if_pos c]; exact h
    · rw [if_neg c]; exact ih _ (hr j s h)
end TY
end
section
section TP
/-! pure pictures of what the methods do: the input (count, ring, flat array), the user buffer -/
abbrev TyF : Type := Nat → Int32
abbrev TyI : Type := Nat × TyF × TyF
def ty_in (h : Nat) (x : Int32) (t : TyI) : TyI := (t.1 + 1, upd t.2.1 ((h + t.1) % 64) x, upd t.2.2 t.1 x)
def ty_i (h : Nat) (t : TyI) : Prop := ty_q 64 t.2.1 t.2.2 h t.1
theorem ty_iIn {h : Nat} {t : TyI} (x : Int32) (q : ty_i h t) (hn : t.1 < 64) : ty_i h (ty_in h x t) := ty_qPush x q hn
/-- d bytes of the line from k on, appended -/
def ty_pl (h : Nat) (ln : TyF) : Nat → Nat → TyI → TyI
  | 0, _, t => t
  | d + 1, k, t => ty_pl h ln d (k + 1) (ty_in h (ln k) t)
theorem ty_pl1 (h : Nat) (ln : TyF) : ∀ (d k : Nat) (t : TyI), (ty_pl h ln d k t).1 = t.1 + d := by
  intro d
  induction d with
  | zero => intro k t; rfl
  | succ d ih =>
    intro k t
    show (ty_pl h ln d (k + 1) (ty_in h (ln k) t)).1 = t.1 + (d + 1)
    rw [ih]
    show t.1 + 1 + d = t.1 + (d + 1)
    omega
theorem ty_iPl {h : Nat} {ln : TyF} : ∀ (d k : Nat) (t : TyI), ty_i h t → t.1 + d ≤ 64 → ty_i h (ty_pl h ln d k t) := by
  intro d
  induction d with
  | zero => intro k t q _; exact q
  | succ d ih =>
    intro k t q hn
    exact ih (k + 1) _ (ty_iIn _ q (by omega)) (by show t.1 + 1 + d ≤ 64; omega)
/-- the entries of d places from i on that are no marks -/
def ty_cn (b : TyF) : Nat → Nat → Nat
  | 0, _ => 0
  | d + 1, i => (if b i = 256 then 0 else 1) + ty_cn b d (i + 1)
theorem ty_cnle (b : TyF) : ∀ d i, ty_cn b d i ≤ d := by
  intro d
  induction d with
  | zero => intro i; exact Nat.le_refl 0
  | succ d ih =>
    intro i
    show (if b i = 256 then 0 else 1) + ty_cn b d (i + 1) ≤ d + 1
    have := ih (i + 1)
    split <;> omega
/-- the marks taken out: d places from i on are left, j are kept -/
def ty_fl (h : Nat) : Nat → Nat → TyI → TyI
  | 0, _, t => t
  | d + 1, i, t => if t.2.2 i = 256 then ty_fl h d (i + 1) t else ty_fl h d (i + 1) (ty_in h (t.2.2 i) t)
/-! the filter's invariant: j kept, i seen, n in all -/
def ty_f (a b : TyF) (h j i n : Nat) : Prop := h < 64 ∧ n ≤ 64 ∧ j ≤ i ∧ i ≤ n ∧ (∀ m, m < j → a ((h + m) % 64) = b m) ∧ (∀ m, i ≤ m → m < n → a ((h + m) % 64) = b m)
theorem ty_f0 {a b : TyF} {h n : Nat} (q : ty_q 64 a b h n) : ty_f a b h 0 0 n := ⟨q.1, q.2.1, Nat.le_refl 0, Nat.zero_le _, fun _ hm => absurd hm (by omega), fun m _ hm => q.2.2 m hm⟩
theorem ty_fAt {a b : TyF} {h j i n : Nat} (f : ty_f a b h j i n) (hi : i < n) : a ((h + i) % 64) = b i := f.2.2.2.2.2 i (Nat.le_refl i) hi
theorem ty_fSkip {a b : TyF} {h j i n : Nat} (f : ty_f a b h j i n) (hi : i < n) : ty_f a b h j (i + 1) n := by
  obtain ⟨h1, h2, h3, h4, h5, h6⟩ := f
  exact ⟨h1, h2, by omega, by omega, h5, fun m a c => h6 m (by omega) c⟩
theorem ty_fKeep {a b : TyF} {h j i n : Nat} (x : Int32) (f : ty_f a b h j i n) (hi : i < n) : ty_f (upd a ((h + j) % 64) x) (upd b j x) h (j + 1) (i + 1) n := by
  obtain ⟨h1, h2, h3, h4, h5, h6⟩ := f
  refine ⟨h1, h2, by omega, by omega, fun m hm => ?_, fun m hm hn => ?_⟩
  · by_cases e : m = j
    · subst e; rw [pk_us, pk_us]
    · rw [pk_un e, pk_un (ty_mne h1 (by omega) (by omega))]; exact h5 m (by omega)
  · rw [pk_un (Ne.symm (ty_mne h1 (show j < m by omega) (show m < 64 by omega))), pk_un (show m ≠ j by omega)]; exact h6 m (by omega) hn
theorem ty_fEnd {a b : TyF} {h j n : Nat} (f : ty_f a b h j n n) : ty_q 64 a b h j := ⟨f.1, by have := f.2.1; have := f.2.2.1; omega, f.2.2.2.2.1⟩
theorem ty_iFl {h : Nat} : ∀ (d i : Nat) (t : TyI) (n : Nat), i + d = n → ty_f t.2.1 t.2.2 h t.1 i n → ty_i h (ty_fl h d i t) ∧ (ty_fl h d i t).1 ≤ t.1 + d := by
  intro d
  induction d with
  | zero =>
    intro i t n e f
    obtain rfl : i = n := by omega
    exact ⟨ty_fEnd f, Nat.le_refl _⟩
  | succ d ih =>
    intro i t n e f
    show ty_i h (if t.2.2 i = 256 then ty_fl h d (i + 1) t else ty_fl h d (i + 1) (ty_in h (t.2.2 i) t)) ∧ (if t.2.2 i = 256 then ty_fl h d (i + 1) t else ty_fl h d (i + 1) (ty_in h (t.2.2 i) t)).1 ≤ t.1 + (d + 1)
    by_cases c : t.2.2 i = 256
    · rw [if_pos c]
      have g := ih (i + 1) t n (by omega) (ty_fSkip f (by omega))
      exact ⟨g.1, by have := g.2; omega⟩
    · rw [if_neg c]
      have g := ih (i + 1) (ty_in h (t.2.2 i) t) n (by omega) (ty_fKeep _ f (by omega))
      have k : (ty_in h (t.2.2 i) t).1 = t.1 + 1 := rfl
      exact ⟨g.1, by have := g.2; omega⟩
/-- the line spilled into the input as far as there is room; the rest is counted -/
def ty_sp (h ic : Nat) (ln : TyF) : Nat → Nat → TyI → Int32 → TyI × Int32
  | 0, _, t, dr => (t, dr)
  | d + 1, k, t, dr => if t.1 < ic then ty_sp h ic ln d (k + 1) (ty_in h (ln k) t) dr else ty_sp h ic ln d (k + 1) t (dr + 1)
theorem ty_iSp {h ic : Nat} {ln : TyF} (hc : ic ≤ 64) : ∀ (d k : Nat) (t : TyI) (dr : Int32), ty_i h t → t.1 ≤ ic → ty_i h (ty_sp h ic ln d k t dr).1 ∧ (ty_sp h ic ln d k t dr).1.1 ≤ ic := by
  intro d
  induction d with
  | zero => intro k t dr q e; exact ⟨q, e⟩
  | succ d ih =>
    intro k t dr q e
    show ty_i h (if t.1 < ic then ty_sp h ic ln d (k + 1) (ty_in h (ln k) t) dr else ty_sp h ic ln d (k + 1) t (dr + 1)).1 ∧ (if t.1 < ic then ty_sp h ic ln d (k + 1) (ty_in h (ln k) t) dr else ty_sp h ic ln d (k + 1) t (dr + 1)).1.1 ≤ ic
    by_cases c : t.1 < ic
    · rw [if_pos c]; exact ih _ _ _ (ty_iIn _ q (by omega)) c
    · rw [if_neg c]; exact ih _ _ _ q e
/-- is one of d entries from i on a line's end? -/
def ty_an (b : TyF) : Nat → Nat → Bool
  | 0, _ => false
  | d + 1, i => if b i = 10 then true else if b i = 256 then true else ty_an b d (i + 1)
/-- the input's head taken out -/
def ty_rm (t : TyI) : TyI := (t.1 - 1, t.2.1, ty_sh t.2.2 t.1)
theorem ty_iRm {h : Nat} {t : TyI} (q : ty_i h t) (hn : 0 < t.1) : ty_i ((h + 1) % 64) (ty_rm t) := by
  obtain ⟨n, a, b⟩ := t
  obtain ⟨m, rfl⟩ : ∃ m, n = m + 1 := ⟨n - 1, by have : 0 < n := hn; omega⟩
  exact ty_qDrop (n := m) q (fun _ hi => ty_shd hi)
theorem ty_iHd {h : Nat} {t : TyI} (q : ty_i h t) (hn : 0 < t.1) : t.2.1 h = t.2.2 0 := by
  obtain ⟨n, a, b⟩ := t
  obtain ⟨m, rfl⟩ : ∃ m, n = m + 1 := ⟨n - 1, by have : 0 < n := hn; omega⟩
  exact ty_qHead q
/-! the reads: count, head, input, user buffer -/
abbrev TyD : Type := Nat × Nat × TyI × TyI
def ty_dl (hu r : Nat) : Nat → Nat → Nat → TyI → TyI → TyD
  | 0, c, h, t, y => (c, h, t, y)
  | n + 1, c, h, t, y =>
    if t.2.2 0 = 256 then (c, (h + 1) % 64, ty_rm t, y)
    else if c = r then (c, h, t, y)
    else if t.2.2 0 = 10 then (c + 1, (h + 1) % 64, ty_rm t, ty_in hu (t.2.2 0) y)
    else ty_dl hu r n (c + 1) ((h + 1) % 64) (ty_rm t) (ty_in hu (t.2.2 0) y)
def ty_dr (hu : Nat) : Nat → Nat → Nat → TyI → TyI → TyD
  | 0, c, h, t, y => (c, h, t, y)
  | d + 1, c, h, t, y => ty_dr hu d (c + 1) ((h + 1) % 64) (ty_rm t) (ty_in hu (t.2.2 0) y)
/-- what a delivery leaves: both queues in step, no more than there was -/
def ty_dOk (hu n : Nat) (D : TyD) : Prop := ty_i D.2.1 D.2.2.1 ∧ ty_i hu D.2.2.2 ∧ D.2.2.1.1 ≤ n
theorem ty_dlOk {hu r : Nat} : ∀ (n c h : Nat) (t y : TyI), t.1 = n → ty_i h t → ty_i hu y → c ≤ r → y.1 + (r - c) ≤ 64 → ty_dOk hu n (ty_dl hu r n c h t y) := by
  intro n
  induction n with
  | zero => intro c h t y e q p _ _; exact ⟨q, p, by show t.1 ≤ 0; omega⟩
  | succ n ih =>
    intro c h t y e q p hc hr
    have e1 : (ty_rm t).1 = n := by show t.1 - 1 = n; omega
    unfold ty_dl
    by_cases c1 : t.2.2 0 = 256
    · rw [if_pos c1]; exact ⟨ty_iRm q (by omega), p, by show (ty_rm t).1 ≤ n + 1; omega⟩
    · rw [if_neg c1]
      by_cases c2 : c = r
      · rw [if_pos c2]; exact ⟨q, p, by show t.1 ≤ n + 1; omega⟩
      · rw [if_neg c2]
        by_cases c3 : t.2.2 0 = 10
        · rw [if_pos c3]; exact ⟨ty_iRm q (by omega), ty_iIn _ p (by omega), by show (ty_rm t).1 ≤ n + 1; omega⟩
        · rw [if_neg c3]
          have g := ih (c + 1) ((h + 1) % 64) (ty_rm t) (ty_in hu (t.2.2 0) y) e1 (ty_iRm q (by omega)) (ty_iIn _ p (by omega)) (by omega) (by show y.1 + 1 + (r - (c + 1)) ≤ 64; omega)
          exact ⟨g.1, g.2.1, Nat.le_succ_of_le g.2.2⟩
theorem ty_drOk {hu : Nat} : ∀ (d c h : Nat) (t y : TyI), ty_i h t → ty_i hu y → d ≤ t.1 → y.1 + d ≤ 64 → ty_dOk hu t.1 (ty_dr hu d c h t y) ∧ (ty_dr hu d c h t y).1 = c + d := by
  intro d
  induction d with
  | zero => intro c h t y q p _ _; exact ⟨⟨q, p, Nat.le_refl _⟩, rfl⟩
  | succ d ih =>
    intro c h t y q p hd hr
    have e1 : (ty_rm t).1 = t.1 - 1 := rfl
    have g := ih (c + 1) ((h + 1) % 64) (ty_rm t) (ty_in hu (t.2.2 0) y) (ty_iRm q (by omega)) (ty_iIn _ p (by omega)) (by omega) (by show y.1 + 1 + d ≤ 64; omega)
    refine ⟨⟨g.1.1, g.1.2.1, ?_⟩, ?_⟩
    · have := g.1.2.2
      show (ty_dr hu d (c + 1) ((h + 1) % 64) (ty_rm t) (ty_in hu (t.2.2 0) y)).2.2.1.1 ≤ t.1
      omega
    · show (ty_dr hu d (c + 1) ((h + 1) % 64) (ty_rm t) (ty_in hu (t.2.2 0) y)).1 = c + (d + 1)
      rw [g.2]; omega
/-- is a raw read due? (MIN, TIME, what it needs, what there is, the idle time) -/
def ty_du (mn tm nd a ie : Int32) : Int32 :=
  if mn = 0 then (if tm = 0 then 1 else if 1 ≤ a then 1 else if ie < tm then 0 else 1)
  else if tm = 0 then (if a < nd then 0 else 1)
  else if nd ≤ a then 1 else if a < 1 then 0 else if ie < tm then 0 else 1
def ty_nd (mn rm : Int32) : Int32 := if rm ≤ mn then rm else mn
def ty_mi (r n : Nat) : Nat := if r ≤ n then r else n
/-- the COMPLETION CHECK: input's head, input, user buffer, pending, last result -/
abbrev TyK : Type := Nat × TyI × TyI × Int32 × Int32
def ty_kd (D : TyD) : TyK := (D.2.1, D.2.2.1, D.2.2.2, 0, nI D.1)
def ty_ck (fl pe la rm ie : Int32) (ct : TyF) (hi hu : Nat) (t y : TyI) : TyK :=
  if pe = 0 then (hi, t, y, pe, la)
  else if fl &&& 1 = 0 then (if ty_du (ct 8) (ct 9) (ty_nd (ct 8) rm) (nI t.1) ie = 0 then (hi, t, y, pe, la) else ty_kd (ty_dr hu (ty_mi rm.toNatClampNeg t.1) 0 hi t y))
  else if ty_an t.2.2 t.1 0 = true then ty_kd (ty_dl hu rm.toNatClampNeg t.1 0 hi t y) else (hi, t, y, pe, la)
/-- the widths of the line's bytes are small -/
def ty_l (lw : TyF) (L : Nat) : Prop := ∀ j, j < L → ∃ w : Nat, w ≤ 15 ∧ lw j = nI w
/-- a pending read has room in the user buffer -/
def ty_p (pe rm : Int32) (y : TyI) : Prop := ¬ pe = 0 → ∃ r : Nat, 1 ≤ r ∧ y.1 + r ≤ 64 ∧ rm = nI r
/-- all that the two states keep, but their fields -/
def ty_C (lc ic oc L hi ho hu hs : Nat) (s : TyO) (t y z : TyI) (pe rm : Int32) (lw : TyF) : Prop :=
  (8 ≤ lc ∧ lc ≤ 32 ∧ 16 ≤ ic ∧ ic ≤ 64 ∧ 32 ≤ oc ∧ oc ≤ 64 ∧ L ≤ lc ∧ t.1 ≤ ic) ∧ ty_o oc ho s ∧ ty_i hi t ∧ ty_i hu y ∧ ty_q 8 z.2.1 z.2.2 hs z.1 ∧ ty_l lw L ∧ ty_p pe rm y
/-- RUB OUT of the line's place j -/
def ty_rl (fl : Int32) (oc ho : Nat) (ln lw : TyF) (j : Nat) (s : TyO) : TyO := ty_rub fl oc ho (ln j) (lw j).toNatClampNeg s
end TP
end
section
section TA
variable {lc ic oc L hi ho hu hs m m' : Nat} {s : TyO} {t y z : TyI} {fl dr st fg ie pe la rm : Int32} {ln lw ct : TyF} {P : St2 → Prop} {Q : Int32 → St2 → Prop} {U : Int32 → Prop}
theorem ty_e10 (oc ho : Nat) (s : TyO) : ty_e oc ho 10 s = ty_2 oc ho 13 10 s := if_pos rfl
theorem ty_e9 (oc ho : Nat) (s : TyO) : ty_e oc ho 9 s = ty_1 oc ho 9 s := (if_neg (by decide)).trans (if_pos rfl)
theorem ty_eC {oc ho m : Nat} {s : TyO} (h1 : m ≠ 10) (h2 : m ≠ 9) (h3 : m < 32) : ty_e oc ho m s = ty_2 oc ho 94 (m ^^^ 64) s := (if_neg h1).trans ((if_neg h2).trans (if_neg (by omega)))
theorem ty_eD {oc ho m : Nat} {s : TyO} (h : m = 127) : ty_e oc ho m s = ty_2 oc ho 94 (m ^^^ 64) s := (if_neg (by omega)).trans ((if_neg (by omega)).trans ((if_pos (by omega)).trans (if_pos h)))
theorem ty_eP {oc ho m : Nat} {s : TyO} (h1 : 32 ≤ m) (h2 : m ≠ 127) : ty_e oc ho m s = ty_1 oc ho m s := (if_neg (by omega)).trans ((if_neg (by omega)).trans ((if_pos h1).trans (if_neg h2)))
theorem xs_0 {k : Int32} (h : fl &&& k = 0) (p : U 0) : wpX_isSet U (nI lc, nI ic, nI oc, nI L, nI hi, nI t.1, nI ho, nI s.1, nI hu, nI y.1, nI hs, nI z.1, fl, dr, s.2.1, st, fg, ie, pe, la, rm, ln, lw, t.2.1, s.2.2.1, y.2.1, z.2.1, ct) k := br_t h p
theorem xs_1 {k : Int32} (h : ¬ fl &&& k = 0) (p : U 1) : wpX_isSet U (nI lc, nI ic, nI oc, nI L, nI hi, nI t.1, nI ho, nI s.1, nI hu, nI y.1, nI hs, nI z.1, fl, dr, s.2.1, st, fg, ie, pe, la, rm, ln, lw, t.2.1, s.2.2.1, y.2.1, z.2.1, ct) k := br_f h p
theorem xo_app (hm : m < 256) (hh : ho < 64) (hc : s.1 < 64) (h : P (nI lc, nI ic, nI oc, nI L, nI hi, nI t.1, nI ho, nI (ty_put ho m s).1, nI hu, nI y.1, nI hs, nI z.1, fl, dr, (ty_put ho m s).2.1, st, fg, ie, pe, la, rm, ln, lw, t.2.1, (ty_put ho m s).2.2.1, y.2.1, z.2.1, ct)) : wpX_appendOutput P (nI lc, nI ic, nI oc, nI L, nI hi, nI t.1, nI ho, nI s.1, nI hu, nI y.1, nI hs, nI z.1, fl, dr, s.2.1, st, fg, ie, pe, la, rm, ln, lw, t.2.1, s.2.2.1, y.2.1, z.2.1, ct) (nI m) := by
  have K : ∀ c', ty_cf m s.2.1 = c' → P (nI lc, nI ic, nI oc, nI L, nI hi, nI t.1, nI ho, nI (s.1 + 1), nI hu, nI y.1, nI hs, nI z.1, fl, dr, c', st, fg, ie, pe, la, rm, ln, lw, t.2.1, upd s.2.2.1 ((ho + s.1) % 64) (nI m), y.2.1, z.2.1, ct) := fun c' e => by subst e; exact h
  refine ⟨ty_ringI hh (by omega), nm_r (congrArg (fun i => upd s.2.2.1 i (nI m)) (ty_ringC hh (by omega))) (nm_r (nI_1 s.1) ?_)⟩
  refine pk_eq m 8 (fun e => br_c (fun d => K _ ?_) (fun d => nm_e (K _ ?_))) (fun n8 => pk_eq m 9 (fun e => ⟨by decide, nm_e (K _ ?_)⟩) (fun n9 => pk_eq m 10 (fun e => K _ ?_) (fun n10 => pk_eq m 13 (fun e => K _ ?_) (fun n13 => pk_lt m 32 (fun e => K _ ?_) (fun n32 => pk_eq m 127 (fun e => K _ ?_) (fun n127 => nm_e (K _ ?_)))))))
  · subst e; exact (if_pos rfl).trans (if_pos d)
  · subst e; exact (if_pos rfl).trans (if_neg d)
  · subst e; exact (if_neg (by decide)).trans (if_pos rfl)
  · subst e; exact (if_neg (by decide)).trans ((if_neg (by decide)).trans (if_pos rfl))
  · subst e; exact (if_neg (by decide)).trans ((if_neg (by decide)).trans ((if_neg (by decide)).trans (if_pos rfl)))
  · exact (if_neg n8).trans ((if_neg n9).trans ((if_neg n10).trans ((if_neg n13).trans (if_neg (by omega)))))
  · exact (if_neg n8).trans ((if_neg n9).trans ((if_neg n10).trans ((if_neg n13).trans ((if_pos n32).trans (if_pos e)))))
  · exact (if_neg n8).trans ((if_neg n9).trans ((if_neg n10).trans ((if_neg n13).trans ((if_pos n32).trans (if_neg n127)))))
theorem xo_1 (hm : m < 256) (hh : ho < 64) (hq : s.1 ≤ oc) (hc : oc ≤ 64) (h : Q (ty_b1 oc s) (nI lc, nI ic, nI oc, nI L, nI hi, nI t.1, nI ho, nI (ty_1 oc ho m s).1, nI hu, nI y.1, nI hs, nI z.1, fl, dr, (ty_1 oc ho m s).2.1, st, fg, ie, pe, la, rm, ln, lw, t.2.1, (ty_1 oc ho m s).2.2.1, y.2.1, z.2.1, ct)) : wpX_putSingle Q (nI lc, nI ic, nI oc, nI L, nI hi, nI t.1, nI ho, nI s.1, nI hu, nI y.1, nI hs, nI z.1, fl, dr, s.2.1, st, fg, ie, pe, la, rm, ln, lw, t.2.1, s.2.2.1, y.2.1, z.2.1, ct) (nI m) := by
  unfold ty_b1 ty_1 at h
  by_cases c : s.1 + 1 ≤ oc
  · simp only [if_pos c] at h
    exact pk_le 1 (oc - s.1) (fun _ => xo_app hm hh (by omega) h) (fun e => absurd e (by omega)) (hy := pk_sub hq)
  · simp only [if_neg c] at h
    exact pk_le 1 (oc - s.1) (fun e => absurd e (by omega)) (fun _ => h) (hy := pk_sub hq)
theorem xo_2 (hm : m < 256) (hm' : m' < 256) (hh : ho < 64) (hq : s.1 ≤ oc) (hc : oc ≤ 64) (h : Q (ty_b2 oc s) (nI lc, nI ic, nI oc, nI L, nI hi, nI t.1, nI ho, nI (ty_2 oc ho m m' s).1, nI hu, nI y.1, nI hs, nI z.1, fl, dr, (ty_2 oc ho m m' s).2.1, st, fg, ie, pe, la, rm, ln, lw, t.2.1, (ty_2 oc ho m m' s).2.2.1, y.2.1, z.2.1, ct)) : wpX_putPair Q (nI lc, nI ic, nI oc, nI L, nI hi, nI t.1, nI ho, nI s.1, nI hu, nI y.1, nI hs, nI z.1, fl, dr, s.2.1, st, fg, ie, pe, la, rm, ln, lw, t.2.1, s.2.2.1, y.2.1, z.2.1, ct) (nI m) (nI m') := by
  unfold ty_b2 ty_2 at h
  by_cases c : s.1 + 2 ≤ oc
  · simp only [if_pos c] at h
    exact pk_le 2 (oc - s.1) (fun _ => xo_app hm hh (by omega) (xo_app (s := ty_put ho m s) hm' hh (by show s.1 + 1 < 64; omega) h)) (fun e => absurd e (by omega)) (hy := pk_sub hq)
  · simp only [if_neg c] at h
    exact pk_le 2 (oc - s.1) (fun e => absurd e (by omega)) (fun _ => h) (hy := pk_sub hq)
theorem xo_echo (hm : m < 256) (hh : ho < 64) (hq : s.1 ≤ oc) (hc : oc ≤ 64) (h : Q ((ty_echo fl oc ho m s).2.1 - s.2.1) (nI lc, nI ic, nI oc, nI L, nI hi, nI t.1, nI ho, nI (ty_echo fl oc ho m s).1, nI hu, nI y.1, nI hs, nI z.1, fl, dr, (ty_echo fl oc ho m s).2.1, st, fg, ie, pe, la, rm, ln, lw, t.2.1, (ty_echo fl oc ho m s).2.2.1, y.2.1, z.2.1, ct)) : wpX_echoByte Q (nI lc, nI ic, nI oc, nI L, nI hi, nI t.1, nI ho, nI s.1, nI hu, nI y.1, nI hs, nI z.1, fl, dr, s.2.1, st, fg, ie, pe, la, rm, ln, lw, t.2.1, s.2.2.1, y.2.1, z.2.1, ct) (nI m) := by
  unfold ty_echo at h
  unfold wpX_echoByte
  by_cases c : fl &&& 2 = 0
  · simp only [if_pos c, Int32.sub_self] at h
    refine xs_0 c ?_
    exact br_t rfl h
  · simp only [if_neg c] at h
    refine xs_1 c ?_
    refine br_f (by decide) ?_
    refine pk_eq m 10 (fun e => ?_) (fun n10 => pk_eq m 9 (fun e => ?_) (fun n9 => pk_lt m 32 (fun e => ?_) (fun n32 => pk_eq m 127 (fun e => ?_) (fun n127 => ?_))))
    · subst e; rw [ty_e10] at h; exact xo_2 (m := 13) (m' := 10) (by omega) (by omega) hh hq hc h
    · subst e; rw [ty_e9] at h; exact xo_1 (m := 9) (by omega) hh hq hc h
    · rw [ty_eC n10 n9 e] at h
      have x := ty_xr m (by omega) (Or.inl e)
      unfold wX_echoByte_60
      rw [ty_xor]
      exact xo_2 (m := 94) (m' := m ^^^ 64) (by omega) (by omega) hh hq hc h
    · rw [ty_eD e] at h
      have x := ty_xr m (by omega) (Or.inr e)
      unfold wX_echoByte_60
      rw [ty_xor]
      exact xo_2 (m := 94) (m' := m ^^^ 64) (by omega) (by omega) hh hq hc h
    · rw [ty_eP n32 n127] at h; exact xo_1 hm hh hq hc h
theorem xo_bs {e x3 : Int32} {w0 : Nat} (hx : x3 = 0 ↔ e = 9) (hh : ho < 64) (hc : oc ≤ 64) (hw : w0 ≤ 15) : ∀ (w i n : Nat) (s : TyO), i + w = w0 → w < n → (if e = 9 then w else w * 3) + s.1 ≤ oc → P (nI lc, nI ic, nI oc, nI L, nI hi, nI t.1, nI ho, nI (ty_bs ho e w s).1, nI hu, nI y.1, nI hs, nI z.1, fl, dr, (ty_bs ho e w s).2.1, st, fg, ie, pe, la, rm, ln, lw, t.2.1, (ty_bs ho e w s).2.2.1, y.2.1, z.2.1, ct) → wX_rubOut_60 P (nI w0) x3 n (nI i) (nI lc) (nI ic) (nI oc) (nI L) (nI hi) (nI t.1) (nI ho) (nI s.1) (nI hu) (nI y.1) (nI hs) (nI z.1) fl dr s.2.1 st fg ie pe la rm ln lw t.2.1 s.2.2.1 y.2.1 z.2.1 ct := by
  intro w
  induction w with
  | zero =>
    intro i n s hi hn hr h
    obtain ⟨n, rfl⟩ : ∃ k, n = k + 1 := ⟨n - 1, by omega⟩
    exact pk_le w0 i (fun _ => h) (fun e => absurd e (by omega))
  | succ w ih =>
    intro i n s hi hn hr h
    obtain ⟨n, rfl⟩ : ∃ k, n = k + 1 := ⟨n - 1, by omega⟩
    refine pk_le w0 i (fun e => absurd e (by omega)) (fun _ => ?_)
    by_cases c : e = 9
    · rw [if_pos c] at hr
      have e1 : ty_bs ho e (w + 1) s = ty_bs ho e w (ty_put ho 8 s) := congrArg (ty_bs ho e w) (if_pos c)
      rw [e1] at h
      exact xo_app (m := 8) (by omega) hh (by omega) (br_t (hx.mpr c) (nm_r (nI_1 i) (ih (i + 1) n (ty_put ho 8 s) (by omega) (by omega) (by rw [if_pos c]; show w + (s.1 + 1) ≤ oc; omega) h)))
    · rw [if_neg c] at hr
      have e1 : ty_bs ho e (w + 1) s = ty_bs ho e w (ty_put ho 8 (ty_put ho 32 (ty_put ho 8 s))) := congrArg (ty_bs ho e w) (if_neg c)
      rw [e1] at h
      exact xo_app (m := 8) (by omega) hh (by omega) (br_f (fun k => c (hx.mp k)) (xo_app (m := 32) (s := ty_put ho 8 s) (by omega) hh (by show s.1 + 1 < 64; omega) (xo_app (m := 8) (s := ty_put ho 32 (ty_put ho 8 s)) (by omega) hh (by show s.1 + 1 + 1 < 64; omega) (nm_r (nI_1 i) (ih (i + 1) n _ (by omega) (by omega) (by rw [if_neg c]; show w * 3 + (s.1 + 1 + 1 + 1) ≤ oc; omega) h)))))
theorem xo_rub {e : Int32} {w : Nat} (hw : w ≤ 15) (hh : ho < 64) (hq : s.1 ≤ oc) (hc : oc ≤ 64) (h : P (nI lc, nI ic, nI oc, nI L, nI hi, nI t.1, nI ho, nI (ty_rub fl oc ho e w s).1, nI hu, nI y.1, nI hs, nI z.1, fl, dr, (ty_rub fl oc ho e w s).2.1, st, fg, ie, pe, la, rm, ln, lw, t.2.1, (ty_rub fl oc ho e w s).2.2.1, y.2.1, z.2.1, ct)) : wpX_rubOut P (nI lc, nI ic, nI oc, nI L, nI hi, nI t.1, nI ho, nI s.1, nI hu, nI y.1, nI hs, nI z.1, fl, dr, s.2.1, st, fg, ie, pe, la, rm, ln, lw, t.2.1, s.2.2.1, y.2.1, z.2.1, ct) e (nI w) := by
  unfold ty_rub at h
  unfold wpX_rubOut
  by_cases c : fl &&& 2 = 0
  · simp only [if_pos c] at h
    refine xs_0 c ?_
    exact br_t rfl h
  · simp only [if_neg c] at h
    refine xs_1 c ?_
    refine br_f (by decide) ?_
    by_cases d : fl &&& 4 = 0
    · simp only [if_pos d] at h
      refine xs_0 d ?_
      exact br_t rfl h
    · simp only [if_neg d] at h
      refine xs_1 d ?_
      refine br_f (by decide) ?_
      by_cases e9 : e = 9
      · simp only [if_pos e9] at h
        refine br_t e9 (br_t rfl ?_)
        by_cases r : w + s.1 ≤ oc
        · simp only [if_pos r] at h
          exact pk_le w (oc - s.1) (fun _ => ⟨w + 1, xo_bs (e := e) (by simp [e9]) hh hc hw w 0 (w + 1) s (by omega) (by omega) (by rw [if_pos e9]; exact r) h⟩) (fun e => absurd e (by omega)) (hy := pk_sub hq)
        · simp only [if_neg r] at h
          exact pk_le w (oc - s.1) (fun e => absurd e (by omega)) (fun _ => h) (hy := pk_sub hq)
      · simp only [if_neg e9] at h
        refine br_f e9 (br_f (by decide) ?_)
        by_cases r : w * 3 + s.1 ≤ oc
        · simp only [if_pos r] at h
          exact pk_le (w * 3) (oc - s.1) (fun _ => ⟨w + 1, xo_bs (e := e) (by simp [e9]) hh hc hw w 0 (w + 1) s (by omega) (by omega) (by rw [if_neg e9]; exact r) h⟩) (fun e => absurd e (by omega)) (hx := pk_mul w 3) (hy := pk_sub hq)
        · simp only [if_neg r] at h
          exact pk_le (w * 3) (oc - s.1) (fun e => absurd e (by omega)) (fun _ => h) (hx := pk_mul w 3) (hy := pk_sub hq)
theorem ty_m1 (x : Int32) : x + (-1) = x - 1 := (Int32.sub_eq_add_neg x 1).symm
theorem ty_m1lt {n : Nat} (h : n < 2 ^ 31) : nI n - 1 < nI n := by
  cases n with
  | zero => decide
  | succ n => rw [nI_pred]; exact nI_lt (by omega) h
theorem ty_rlE {j w : Nat} (ew : lw j = nI w) (hw : w ≤ 15) : ty_rl fl oc ho ln lw j s = ty_rub fl oc ho (ln j) w s := by
  unfold ty_rl; rw [ew, nI_clamp (by omega)]
theorem ty_oRl {j : Nat} (h : ty_o oc ho s) (hc : oc ≤ 64) : ty_o oc ho (ty_rl fl oc ho ln lw j s) := ty_oRub h hc
theorem xo_cutL {len : Nat} (hl : ty_l lw L) (hL : L ≤ 32) (hh : ho < 64) (hc : oc ≤ 64) : ∀ (j n : Nat) (s : TyO), len ≤ j → j ≤ L → j < n + len → ty_o oc ho s → P (nI lc, nI ic, nI oc, nI len, nI hi, nI t.1, nI ho, nI (ty_cut (ty_rl fl oc ho ln lw) len j s).1, nI hu, nI y.1, nI hs, nI z.1, fl, dr, (ty_cut (ty_rl fl oc ho ln lw) len j s).2.1, st, fg, ie, pe, la, rm, ln, lw, t.2.1, (ty_cut (ty_rl fl oc ho ln lw) len j s).2.2.1, y.2.1, z.2.1, ct) → wX_cutLine_7 P (nI len) n (nI j - 1) (nI lc) (nI ic) (nI oc) (nI L) (nI hi) (nI t.1) (nI ho) (nI s.1) (nI hu) (nI y.1) (nI hs) (nI z.1) fl dr s.2.1 st fg ie pe la rm ln lw t.2.1 s.2.2.1 y.2.1 z.2.1 ct := by
  intro j
  induction j with
  | zero =>
    intro n s h1 h2 h3 ok h
    obtain ⟨n, rfl⟩ : ∃ k, n = k + 1 := ⟨n - 1, by omega⟩
    obtain rfl : len = 0 := by omega
    exact br_t (ty_m1lt (by omega)) h
  | succ j ih =>
    intro n s h1 h2 h3 ok h
    obtain ⟨n, rfl⟩ : ∃ k, n = k + 1 := ⟨n - 1, by omega⟩
    by_cases c : len = j + 1
    · subst c
      rw [ty_cutE] at h
      exact br_t (ty_m1lt (by omega)) h
    · rw [ty_cutS _ _ (show len ≤ j by omega)] at h
      obtain ⟨w, hw, ew⟩ := hl j (by omega)
      rw [ty_rlE ew hw] at h
      rw [nI_pred]
      refine pk_lt j len (fun e => absurd e (by omega)) (fun _ => ⟨vp_in_nI (by omega) (by omega), vp_in_nI (by omega) (by omega), ?_⟩)
      rw [nI_clamp (n := j) (by omega), ew]
      exact xo_rub hw hh ok.1 hc (nm_r (ty_m1 (nI j)) (ih n _ (by omega) (by omega) (by omega) (ty_oRub ok hc) h))
theorem xo_cut {len : Nat} (hl : ty_l lw L) (hL : L ≤ 32) (hh : ho < 64) (hc : oc ≤ 64) (ok : ty_o oc ho s) (h1 : len ≤ L) (h : P (nI lc, nI ic, nI oc, nI len, nI hi, nI t.1, nI ho, nI (ty_cut (ty_rl fl oc ho ln lw) len L s).1, nI hu, nI y.1, nI hs, nI z.1, fl, dr, (ty_cut (ty_rl fl oc ho ln lw) len L s).2.1, st, fg, ie, pe, la, rm, ln, lw, t.2.1, (ty_cut (ty_rl fl oc ho ln lw) len L s).2.2.1, y.2.1, z.2.1, ct)) : wpX_cutLine P (nI lc, nI ic, nI oc, nI L, nI hi, nI t.1, nI ho, nI s.1, nI hu, nI y.1, nI hs, nI z.1, fl, dr, s.2.1, st, fg, ie, pe, la, rm, ln, lw, t.2.1, s.2.2.1, y.2.1, z.2.1, ct) (nI len) :=
  nm_e ⟨L + 1, xo_cutL hl hL hh hc L (L + 1) s h1 (Nat.le_refl L) (by omega) ok h⟩
end TA
end
section
section TB
variable {lc ic oc L hi ho hu hs m m' : Nat} {s : TyO} {t y z : TyI} {fl dr st fg ie pe la rm : Int32} {ln lw ct : TyF} {P : St2 → Prop} {Q : Int32 → St2 → Prop} {U : Int32 → Prop}
/-- a blank -/
def ty_bl (x : Int32) : Bool := if x = 32 then true else if x = 9 then true else false
theorem ty_bl1 {x : Int32} (h : ty_bl x = true) : x = 32 ∨ x = 9 := by
  unfold ty_bl at h
  by_cases a : x = 32
  · exact Or.inl a
  · by_cases b : x = 9
    · exact Or.inr b
    · rw [if_neg a, if_neg b] at h; exact absurd h (by decide)
theorem ty_bl0 {x : Int32} (h : ¬ ty_bl x = true) : ¬ x = 32 ∧ ¬ x = 9 := by
  refine ⟨fun a => h (if_pos a), fun b => h ?_⟩
  by_cases a : x = 32
  · exact if_pos a
  · exact (if_neg a).trans (if_pos b)
/-- where the blanks at the line's end begin, and where the word ahead of them -/
def ty_wb (ln : TyF) (L : Nat) : Nat := ty_ws (fun j => ty_bl (ln j)) L
def ty_ww (ln : TyF) (L : Nat) : Nat := ty_ws (fun j => !ty_bl (ln j)) L
theorem ty_wbS {ln : TyF} {j : Nat} (h : ty_bl (ln j) = true) : ty_wb ln (j + 1) = ty_wb ln j := if_pos h
theorem ty_wbE {ln : TyF} {j : Nat} (h : ¬ ty_bl (ln j) = true) : ty_wb ln (j + 1) = j + 1 := if_neg h
theorem ty_wwS {ln : TyF} {j : Nat} (h : ¬ ty_bl (ln j) = true) : ty_ww ln (j + 1) = ty_ww ln j := if_pos (by simp at h; simp [h])
theorem ty_wwE {ln : TyF} {j : Nat} (h : ty_bl (ln j) = true) : ty_ww ln (j + 1) = j + 1 := if_neg (by simp [h])
theorem ty_wble (ln : TyF) (j : Nat) : ty_wb ln j ≤ j := ty_wsle _ j
theorem ty_wwle (ln : TyF) (j : Nat) : ty_ww ln j ≤ j := ty_wsle _ j
theorem xb_1 {x : Int32} (h : ty_bl x = true) (p : U 1) : wpX_isBlank U () x := by
  by_cases a : x = 32
  · exact br_t a p
  · rcases ty_bl1 h with b | b
    · exact absurd b a
    · exact br_f a (br_t b p)
theorem xb_0 {x : Int32} (h : ¬ ty_bl x = true) (p : U 0) : wpX_isBlank U () x := br_f (ty_bl0 h).1 (br_f (ty_bl0 h).2 p)
theorem xw_29 : ∀ (j n : Nat), j < n → j ≤ 32 → U (nI (ty_ww ln j)) → wX_lastWordStart_29 U (nI lc) (nI ic) (nI oc) (nI L) (nI hi) (nI t.1) (nI ho) (nI s.1) (nI hu) (nI y.1) (nI hs) (nI z.1) fl dr s.2.1 st fg ie pe la rm ln lw t.2.1 s.2.2.1 y.2.1 z.2.1 ct n (nI j) := by
  intro j
  induction j with
  | zero =>
    intro n hn _ h
    obtain ⟨n, rfl⟩ : ∃ k, n = k + 1 := ⟨n - 1, by omega⟩
    exact pk_le 0 0 (fun _ => h) (fun e => absurd e (by omega))
  | succ j ih =>
    intro n hn h32 h
    obtain ⟨n, rfl⟩ : ∃ k, n = k + 1 := ⟨n - 1, by omega⟩
    refine pk_le (j + 1) 0 (fun e => absurd e (by omega)) (fun _ => ?_)
    rw [nI_pred]
    refine ⟨vp_in_nI (by omega) (by omega), ?_⟩
    rw [nI_clamp (n := j) (by omega)]
    by_cases c : ty_bl (ln j) = true
    · rw [ty_wwE c] at h
      exact xb_1 c (br_f (by decide) h)
    · rw [ty_wwS c] at h
      exact xb_0 c (br_t rfl (nm_r (pk_m1 j) (ih n (by omega) (by omega) h)))
theorem xw_5 : ∀ (j n : Nat), j < n → j ≤ 32 → U (nI (ty_ww ln (ty_wb ln j))) → wX_lastWordStart_5 U (nI lc) (nI ic) (nI oc) (nI L) (nI hi) (nI t.1) (nI ho) (nI s.1) (nI hu) (nI y.1) (nI hs) (nI z.1) fl dr s.2.1 st fg ie pe la rm ln lw t.2.1 s.2.2.1 y.2.1 z.2.1 ct n (nI j) := by
  intro j
  induction j with
  | zero =>
    intro n hn _ h
    obtain ⟨n, rfl⟩ : ∃ k, n = k + 1 := ⟨n - 1, by omega⟩
    exact pk_le 0 0 (fun _ => ⟨1, xw_29 0 1 (by omega) (by omega) h⟩) (fun e => absurd e (by omega))
  | succ j ih =>
    intro n hn h32 h
    obtain ⟨n, rfl⟩ : ∃ k, n = k + 1 := ⟨n - 1, by omega⟩
    refine pk_le (j + 1) 0 (fun e => absurd e (by omega)) (fun _ => ?_)
    rw [nI_pred]
    refine ⟨vp_in_nI (by omega) (by omega), ?_⟩
    rw [nI_clamp (n := j) (by omega)]
    by_cases c : ty_bl (ln j) = true
    · rw [ty_wbS c] at h
      exact xb_1 c (br_f (by decide) (nm_r (pk_m1 j) (ih n (by omega) (by omega) h)))
    · rw [ty_wbE c] at h
      exact xb_0 c (br_t rfl ⟨j + 2, xw_29 (j + 1) (j + 2) (by omega) (by omega) h⟩)
theorem xw_start (hL : L ≤ 32) (h : U (nI (ty_ww ln (ty_wb ln L)))) : wpX_lastWordStart U (nI lc, nI ic, nI oc, nI L, nI hi, nI t.1, nI ho, nI s.1, nI hu, nI y.1, nI hs, nI z.1, fl, dr, s.2.1, st, fg, ie, pe, la, rm, ln, lw, t.2.1, s.2.2.1, y.2.1, z.2.1, ct) := ⟨L + 1, xw_5 L (L + 1) (by omega) hL h⟩
/-- the echo behind an edit: only without ECHOE -/
def ty_ee (fl : Int32) (oc ho m : Nat) (s : TyO) : TyO := if fl &&& 4 = 0 then ty_echo fl oc ho m s else s
def ty_ek (fl : Int32) (oc ho m : Nat) (s : TyO) : TyO := if fl &&& 4 = 0 then ty_echo fl oc ho 10 (ty_echo fl oc ho m s) else s
theorem ty_oEe {oc ho m : Nat} {s : TyO} {fl : Int32} (h : ty_o oc ho s) (hc : oc ≤ 64) : ty_o oc ho (ty_ee fl oc ho m s) := by
  unfold ty_ee; split
  · exact ty_oEcho h hc
  · exact h
theorem ty_oEk {oc ho m : Nat} {s : TyO} {fl : Int32} (h : ty_o oc ho s) (hc : oc ≤ 64) : ty_o oc ho (ty_ek fl oc ho m s) := by
  unfold ty_ek; split
  · exact ty_oEcho (ty_oEcho h hc) hc
  · exact h
theorem ty_oCl {len : Nat} (ok : ty_o oc ho s) (hc : oc ≤ 64) : ty_o oc ho (ty_cut (ty_rl fl oc ho ln lw) len L s) := ty_oCut (fun _ _ h => ty_oRl h hc) L s ok
theorem xe_last {l : Nat} (hm : m < 256) (hl : ty_l lw (l + 1)) (hL : l + 1 ≤ 32) (hh : ho < 64) (hc : oc ≤ 64) (ok : ty_o oc ho s) (h : P (nI lc, nI ic, nI oc, nI l, nI hi, nI t.1, nI ho, nI (ty_ee fl oc ho m (ty_cut (ty_rl fl oc ho ln lw) l (l + 1) s)).1, nI hu, nI y.1, nI hs, nI z.1, fl, dr, (ty_ee fl oc ho m (ty_cut (ty_rl fl oc ho ln lw) l (l + 1) s)).2.1, st, fg, ie, pe, la, rm, ln, lw, t.2.1, (ty_ee fl oc ho m (ty_cut (ty_rl fl oc ho ln lw) l (l + 1) s)).2.2.1, y.2.1, z.2.1, ct)) : wpX_eraseLast P (nI lc, nI ic, nI oc, nI (l + 1), nI hi, nI t.1, nI ho, nI s.1, nI hu, nI y.1, nI hs, nI z.1, fl, dr, s.2.1, st, fg, ie, pe, la, rm, ln, lw, t.2.1, s.2.2.1, y.2.1, z.2.1, ct) (nI m) := by
  refine br_f (nI_ne0 (by omega) (by omega)) ?_
  rw [nI_pred]
  refine xo_cut hl hL hh hc ok (by omega) ?_
  unfold ty_ee at h
  have ok' : ty_o oc ho (ty_cut (ty_rl fl oc ho ln lw) l (l + 1) s) := ty_oCl ok hc
  by_cases c : fl &&& 4 = 0
  · simp only [if_pos c] at h
    refine xs_0 c ?_
    refine br_t rfl ?_
    exact xo_echo hm hh ok'.1 hc h
  · simp only [if_neg c] at h
    refine xs_1 c ?_
    exact br_f (by decide) h
theorem xe_word {l : Nat} (hm : m < 256) (hl : ty_l lw (l + 1)) (hL : l + 1 ≤ 32) (hh : ho < 64) (hc : oc ≤ 64) (ok : ty_o oc ho s) (h : P (nI lc, nI ic, nI oc, nI (ty_ww ln (ty_wb ln (l + 1))), nI hi, nI t.1, nI ho, nI (ty_ee fl oc ho m (ty_cut (ty_rl fl oc ho ln lw) (ty_ww ln (ty_wb ln (l + 1))) (l + 1) s)).1, nI hu, nI y.1, nI hs, nI z.1, fl, dr, (ty_ee fl oc ho m (ty_cut (ty_rl fl oc ho ln lw) (ty_ww ln (ty_wb ln (l + 1))) (l + 1) s)).2.1, st, fg, ie, pe, la, rm, ln, lw, t.2.1, (ty_ee fl oc ho m (ty_cut (ty_rl fl oc ho ln lw) (ty_ww ln (ty_wb ln (l + 1))) (l + 1) s)).2.2.1, y.2.1, z.2.1, ct)) : wpX_eraseWord P (nI lc, nI ic, nI oc, nI (l + 1), nI hi, nI t.1, nI ho, nI s.1, nI hu, nI y.1, nI hs, nI z.1, fl, dr, s.2.1, st, fg, ie, pe, la, rm, ln, lw, t.2.1, s.2.2.1, y.2.1, z.2.1, ct) (nI m) := by
  refine br_f (nI_ne0 (by omega) (by omega)) ?_
  refine xw_start hL ?_
  refine xo_cut hl hL hh hc ok (Nat.le_trans (ty_wwle _ _) (ty_wble _ _)) ?_
  unfold ty_ee at h
  have ok' : ty_o oc ho (ty_cut (ty_rl fl oc ho ln lw) (ty_ww ln (ty_wb ln (l + 1))) (l + 1) s) := ty_oCl ok hc
  by_cases c : fl &&& 4 = 0
  · simp only [if_pos c] at h
    refine xs_0 c ?_
    refine br_t rfl ?_
    exact xo_echo hm hh ok'.1 hc h
  · simp only [if_neg c] at h
    refine xs_1 c ?_
    exact br_f (by decide) h
theorem xe_kill {l : Nat} (hm : m < 256) (hl : ty_l lw (l + 1)) (hL : l + 1 ≤ 32) (hh : ho < 64) (hc : oc ≤ 64) (ok : ty_o oc ho s) (h : P (nI lc, nI ic, nI oc, nI 0, nI hi, nI t.1, nI ho, nI (ty_ek fl oc ho m (ty_cut (ty_rl fl oc ho ln lw) 0 (l + 1) s)).1, nI hu, nI y.1, nI hs, nI z.1, fl, dr, (ty_ek fl oc ho m (ty_cut (ty_rl fl oc ho ln lw) 0 (l + 1) s)).2.1, st, fg, ie, pe, la, rm, ln, lw, t.2.1, (ty_ek fl oc ho m (ty_cut (ty_rl fl oc ho ln lw) 0 (l + 1) s)).2.2.1, y.2.1, z.2.1, ct)) : wpX_killLine P (nI lc, nI ic, nI oc, nI (l + 1), nI hi, nI t.1, nI ho, nI s.1, nI hu, nI y.1, nI hs, nI z.1, fl, dr, s.2.1, st, fg, ie, pe, la, rm, ln, lw, t.2.1, s.2.2.1, y.2.1, z.2.1, ct) (nI m) := by
  refine br_f (nI_ne0 (by omega) (by omega)) ?_
  refine xo_cut (len := 0) hl hL hh hc ok (by omega) ?_
  unfold ty_ek at h
  have ok' : ty_o oc ho (ty_cut (ty_rl fl oc ho ln lw) 0 (l + 1) s) := ty_oCl ok hc
  by_cases c : fl &&& 4 = 0
  · simp only [if_pos c] at h
    refine xs_0 c ?_
    refine br_t rfl ?_
    refine xo_echo hm hh ok'.1 hc ?_
    exact xo_echo (m := 10) (by omega) hh (ty_oEcho ok' hc).1 hc h
  · simp only [if_neg c] at h
    refine xs_1 c ?_
    exact br_f (by decide) h
theorem xi_app {x : Int32} (hh : hi < 64) (hn : t.1 ≤ 64) (h : P (nI lc, nI ic, nI oc, nI L, nI hi, nI (ty_in hi x t).1, nI ho, nI s.1, nI hu, nI y.1, nI hs, nI z.1, fl, dr, s.2.1, st, fg, ie, pe, la, rm, ln, lw, (ty_in hi x t).2.1, s.2.2.1, y.2.1, z.2.1, ct)) : wpX_appendInput P (nI lc, nI ic, nI oc, nI L, nI hi, nI t.1, nI ho, nI s.1, nI hu, nI y.1, nI hs, nI z.1, fl, dr, s.2.1, st, fg, ie, pe, la, rm, ln, lw, t.2.1, s.2.2.1, y.2.1, z.2.1, ct) x :=
  ⟨ty_ringI hh hn, nm_r (congrArg (fun i => upd t.2.1 i x) (ty_ringC hh hn)) (nm_r (nI_1 t.1) h)⟩
theorem xi_passL {x : Int32} (hh : hi < 64) (hL : L ≤ 32) : ∀ (d k n : Nat) (t : TyI), k + d = L → d < n → t.1 + d ≤ 64 → P (nI lc, nI ic, nI oc, nI 0, nI hi, nI (ty_in hi x (ty_pl hi ln d k t)).1, nI ho, nI s.1, nI hu, nI y.1, nI hs, nI z.1, fl, dr, s.2.1, st, fg, ie, pe, la, rm, ln, lw, (ty_in hi x (ty_pl hi ln d k t)).2.1, s.2.2.1, y.2.1, z.2.1, ct) → wX_passLine_2 P x n (nI k) (nI lc) (nI ic) (nI oc) (nI L) (nI hi) (nI t.1) (nI ho) (nI s.1) (nI hu) (nI y.1) (nI hs) (nI z.1) fl dr s.2.1 st fg ie pe la rm ln lw t.2.1 s.2.2.1 y.2.1 z.2.1 ct := by
  intro d
  induction d with
  | zero =>
    intro k n t hk hn ht h
    obtain ⟨n, rfl⟩ : ∃ k, n = k + 1 := ⟨n - 1, by omega⟩
    exact pk_le L k (fun _ => xi_app hh (by omega) h) (fun e => absurd e (by omega))
  | succ d ih =>
    intro k n t hk hn ht h
    obtain ⟨n, rfl⟩ : ∃ k, n = k + 1 := ⟨n - 1, by omega⟩
    refine pk_le L k (fun e => absurd e (by omega)) (fun _ => ⟨vp_in_nI (by omega) (by omega), ?_⟩)
    rw [nI_clamp (n := k) (by omega)]
    exact xi_app hh (by omega) (nm_r (nI_1 k) (ih (k + 1) n (ty_in hi (ln k) t) (by omega) (by omega) (by show t.1 + 1 + d ≤ 64; omega) h))
theorem xi_pass {x : Int32} (hh : hi < 64) (hL : L ≤ 32) (ht : t.1 + L ≤ 64) (h : P (nI lc, nI ic, nI oc, nI 0, nI hi, nI (ty_in hi x (ty_pl hi ln L 0 t)).1, nI ho, nI s.1, nI hu, nI y.1, nI hs, nI z.1, fl, dr, s.2.1, st, fg, ie, pe, la, rm, ln, lw, (ty_in hi x (ty_pl hi ln L 0 t)).2.1, s.2.2.1, y.2.1, z.2.1, ct)) : wpX_passLine P (nI lc, nI ic, nI oc, nI L, nI hi, nI t.1, nI ho, nI s.1, nI hu, nI y.1, nI hs, nI z.1, fl, dr, s.2.1, st, fg, ie, pe, la, rm, ln, lw, t.2.1, s.2.2.1, y.2.1, z.2.1, ct) x :=
  ⟨L + 1, xi_passL hh hL L 0 (L + 1) t (by omega) (by omega) ht h⟩
end TB
end
section
section TC
variable {lc ic oc L hi ho hu hs m m' : Nat} {s : TyO} {t y z : TyI} {fl dr st fg ie pe la rm : Int32} {ln lw ct : TyF} {P : St2 → Prop} {Q : Int32 → St2 → Prop} {U : Int32 → Prop}
theorem ty_at {i : Nat} (q : ty_i hi t) (h : i < t.1) : t.2.1 ((nI hi + nI i) &&& 63).toNatClampNeg = t.2.2 i := by
  rw [ty_ringC q.1 (by have := q.2.1; omega)]; exact q.2.2 i h
theorem ty_pred {n : Nat} (h : 0 < n) : nI n - 1 = nI (n - 1) := by
  obtain ⟨k, rfl⟩ : ∃ k, n = k + 1 := ⟨n - 1, by omega⟩
  exact nI_pred k
/-! the input's bytes counted -/
theorem xn_cntL (q : ty_i hi t) : ∀ (d i n c : Nat), i + d = t.1 → d < n → U (nI (c + ty_cn t.2.2 d i)) → wX_countInputBytes_4 U (nI lc) (nI ic) (nI oc) (nI L) (nI hi) (nI t.1) (nI ho) (nI s.1) (nI hu) (nI y.1) (nI hs) (nI z.1) fl dr s.2.1 st fg ie pe la rm ln lw t.2.1 s.2.2.1 y.2.1 z.2.1 ct n (nI c) (nI i) := by
  have q1 := q.1
  have q2 := q.2.1
  intro d
  induction d with
  | zero =>
    intro i n c hi' hn h
    obtain ⟨n, rfl⟩ : ∃ k, n = k + 1 := ⟨n - 1, by omega⟩
    exact pk_le t.1 i (fun _ => h) (fun e => absurd e (by omega))
  | succ d ih =>
    intro i n c hi' hn h
    obtain ⟨n, rfl⟩ : ∃ k, n = k + 1 := ⟨n - 1, by omega⟩
    refine pk_le t.1 i (fun e => absurd e (by omega)) (fun _ => ⟨ty_ringI q.1 (by omega), ?_⟩)
    rw [ty_at q (by omega)]
    by_cases e : t.2.2 i = 256
    · have e1 : c + ty_cn t.2.2 (d + 1) i = c + ty_cn t.2.2 d (i + 1) := by
        show c + ((if t.2.2 i = 256 then 0 else 1) + ty_cn t.2.2 d (i + 1)) = _
        rw [if_pos e]; omega
      rw [e1] at h
      exact br_t e (nm_r (nI_1 i) (ih (i + 1) n c (by omega) (by omega) h))
    · have e1 : c + ty_cn t.2.2 (d + 1) i = (c + 1) + ty_cn t.2.2 d (i + 1) := by
        show c + ((if t.2.2 i = 256 then 0 else 1) + ty_cn t.2.2 d (i + 1)) = _
        rw [if_neg e]; omega
      rw [e1] at h
      exact br_f e (nm_r (nI_1 c) (nm_r (nI_1 i) (ih (i + 1) n (c + 1) (by omega) (by omega) h)))
theorem xn_cnt (q : ty_i hi t) (h : U (nI (ty_cn t.2.2 t.1 0))) : wpX_countInputBytes U (nI lc, nI ic, nI oc, nI L, nI hi, nI t.1, nI ho, nI s.1, nI hu, nI y.1, nI hs, nI z.1, fl, dr, s.2.1, st, fg, ie, pe, la, rm, ln, lw, t.2.1, s.2.2.1, y.2.1, z.2.1, ct) :=
  ⟨t.1 + 1, xn_cntL q t.1 0 (t.1 + 1) 0 (by omega) (by omega) (by rw [Nat.zero_add]; exact h)⟩
/-! the marks taken out -/
theorem xf_rmL {N : Nat} : ∀ (d i n : Nat) (t : TyI), i + d = N → d < n → ty_f t.2.1 t.2.2 hi t.1 i N → P (nI lc, nI ic, nI oc, nI L, nI hi, nI (ty_fl hi d i t).1, nI ho, nI s.1, nI hu, nI y.1, nI hs, nI z.1, fl, dr, s.2.1, st, fg, ie, pe, la, rm, ln, lw, (ty_fl hi d i t).2.1, s.2.2.1, y.2.1, z.2.1, ct) → wX_removeEofMarks_4 P (nI lc) (nI ic) (nI oc) (nI L) (nI hi) (nI N) (nI ho) (nI s.1) (nI hu) (nI y.1) (nI hs) (nI z.1) fl dr s.2.1 st fg ie pe la rm n (nI t.1) (nI i) ln lw t.2.1 s.2.2.1 y.2.1 z.2.1 ct := by
  intro d
  induction d with
  | zero =>
    intro i n t hi' hn f h
    have f1 := f.1; have f2 := f.2.1; have f3 := f.2.2.1
    obtain ⟨n, rfl⟩ : ∃ k, n = k + 1 := ⟨n - 1, by omega⟩
    exact pk_le N i (fun _ => h) (fun e => absurd e (by omega))
  | succ d ih =>
    intro i n t hi' hn f h
    have f1 := f.1; have f2 := f.2.1; have f3 := f.2.2.1
    obtain ⟨n, rfl⟩ : ∃ k, n = k + 1 := ⟨n - 1, by omega⟩
    refine pk_le N i (fun e => absurd e (by omega)) (fun _ => ⟨ty_ringI f.1 (by omega), nm_r (e' := t.2.2 i) (by rw [ty_ringC f.1 (by omega)]; exact ty_fAt f (by omega)) ?_⟩)
    by_cases e : t.2.2 i = 256
    · have e1 : ty_fl hi (d + 1) i t = ty_fl hi d (i + 1) t := if_pos e
      rw [e1] at h
      exact br_t e (nm_r (nI_1 i) (ih (i + 1) n t (by omega) (by omega) (ty_fSkip f (by omega)) h))
    · have e1 : ty_fl hi (d + 1) i t = ty_fl hi d (i + 1) (ty_in hi (t.2.2 i) t) := if_neg e
      rw [e1] at h
      exact br_f e ⟨ty_ringI f.1 (by omega), nm_r (congrArg (fun k => upd t.2.1 k (t.2.2 i)) (ty_ringC f.1 (by omega))) (nm_r (nI_1 t.1) (nm_r (nI_1 i) (ih (i + 1) n (ty_in hi (t.2.2 i) t) (by omega) (by omega) (ty_fKeep _ f (by omega)) h)))⟩
theorem xf_rm (q : ty_i hi t) (h : P (nI lc, nI ic, nI oc, nI L, nI hi, nI (ty_fl hi t.1 0 (0, t.2)).1, nI ho, nI s.1, nI hu, nI y.1, nI hs, nI z.1, fl, dr, s.2.1, st, fg, ie, pe, la, rm, ln, lw, (ty_fl hi t.1 0 (0, t.2)).2.1, s.2.2.1, y.2.1, z.2.1, ct)) : wpX_removeEofMarks P (nI lc, nI ic, nI oc, nI L, nI hi, nI t.1, nI ho, nI s.1, nI hu, nI y.1, nI hs, nI z.1, fl, dr, s.2.1, st, fg, ie, pe, la, rm, ln, lw, t.2.1, s.2.2.1, y.2.1, z.2.1, ct) :=
  ⟨t.1 + 1, xf_rmL (N := t.1) t.1 0 (t.1 + 1) (0, t.2) (by omega) (by omega) (ty_f0 q) h⟩
theorem xf_spL (hh : hi < 64) (hL : L ≤ 32) (hc : ic ≤ 64) : ∀ (d k n : Nat) (t : TyI) (dr : Int32), k + d = L → d < n → t.1 ≤ ic → P (nI lc, nI ic, nI oc, nI 0, nI hi, nI ((ty_sp hi ic ln d k t dr).1).1, nI ho, nI s.1, nI hu, nI y.1, nI hs, nI z.1, fl, (ty_sp hi ic ln d k t dr).2, s.2.1, st, fg, ie, pe, la, rm, ln, lw, ((ty_sp hi ic ln d k t dr).1).2.1, s.2.2.1, y.2.1, z.2.1, ct) → wX_spillLine_2 P n (nI k) (nI lc) (nI ic) (nI oc) (nI L) (nI hi) (nI t.1) (nI ho) (nI s.1) (nI hu) (nI y.1) (nI hs) (nI z.1) fl dr s.2.1 st fg ie pe la rm ln lw t.2.1 s.2.2.1 y.2.1 z.2.1 ct := by
  intro d
  induction d with
  | zero =>
    intro k n t dr hk hn ht h
    obtain ⟨n, rfl⟩ : ∃ k, n = k + 1 := ⟨n - 1, by omega⟩
    exact pk_le L k (fun _ => h) (fun e => absurd e (by omega))
  | succ d ih =>
    intro k n t dr hk hn ht h
    obtain ⟨n, rfl⟩ : ∃ k, n = k + 1 := ⟨n - 1, by omega⟩
    refine pk_le L k (fun e => absurd e (by omega)) (fun _ => pk_le ic t.1 (fun c => ?_) (fun c => ⟨vp_in_nI (by omega) (by omega), ?_⟩))
    · have e1 : ty_sp hi ic ln (d + 1) k t dr = ty_sp hi ic ln d (k + 1) t (dr + 1) := if_neg (by omega)
      rw [e1] at h
      exact nm_e (nm_r (nI_1 k) (ih (k + 1) n t (dr + 1) (by omega) (by omega) ht h))
    · have e1 : ty_sp hi ic ln (d + 1) k t dr = ty_sp hi ic ln d (k + 1) (ty_in hi (ln k) t) dr := if_pos c
      rw [e1] at h
      rw [nI_clamp (n := k) (by omega)]
      exact xi_app hh (by omega) (nm_r (nI_1 k) (ih (k + 1) n (ty_in hi (ln k) t) dr (by omega) (by omega) c h))
theorem xf_sp (hh : hi < 64) (hL : L ≤ 32) (hc : ic ≤ 64) (ht : t.1 ≤ ic) (h : P (nI lc, nI ic, nI oc, nI 0, nI hi, nI ((ty_sp hi ic ln L 0 t dr).1).1, nI ho, nI s.1, nI hu, nI y.1, nI hs, nI z.1, fl, (ty_sp hi ic ln L 0 t dr).2, s.2.1, st, fg, ie, pe, la, rm, ln, lw, ((ty_sp hi ic ln L 0 t dr).1).2.1, s.2.2.1, y.2.1, z.2.1, ct)) : wpX_spillLine P (nI lc, nI ic, nI oc, nI L, nI hi, nI t.1, nI ho, nI s.1, nI hu, nI y.1, nI hs, nI z.1, fl, dr, s.2.1, st, fg, ie, pe, la, rm, ln, lw, t.2.1, s.2.2.1, y.2.1, z.2.1, ct) :=
  ⟨L + 1, xf_spL hh hL hc L 0 (L + 1) t dr (by omega) (by omega) ht h⟩
/-! the completion check -/
theorem xc_holdL (q : ty_i hi t) : ∀ (d i n : Nat), i + d = t.1 → d < n → U (if ty_an t.2.2 d i = true then 1 else 0) → wX_holdsLineEnd_2 U (nI lc) (nI ic) (nI oc) (nI L) (nI hi) (nI t.1) (nI ho) (nI s.1) (nI hu) (nI y.1) (nI hs) (nI z.1) fl dr s.2.1 st fg ie pe la rm ln lw t.2.1 s.2.2.1 y.2.1 z.2.1 ct n (nI i) := by
  have q1 := q.1
  have q2 := q.2.1
  intro d
  induction d with
  | zero =>
    intro i n hi' hn h
    obtain ⟨n, rfl⟩ : ∃ k, n = k + 1 := ⟨n - 1, by omega⟩
    exact pk_le t.1 i (fun _ => h) (fun e => absurd e (by omega))
  | succ d ih =>
    intro i n hi' hn h
    obtain ⟨n, rfl⟩ : ∃ k, n = k + 1 := ⟨n - 1, by omega⟩
    refine pk_le t.1 i (fun e => absurd e (by omega)) (fun _ => ⟨ty_ringI q.1 (by omega), nm_r (ty_at q (by omega)) ?_⟩)
    unfold ty_an at h
    by_cases e : t.2.2 i = 10
    · rw [if_pos e, if_pos rfl] at h; exact br_t e h
    · rw [if_neg e] at h
      by_cases e2 : t.2.2 i = 256
      · rw [if_pos e2, if_pos rfl] at h; exact br_f e (br_t e2 h)
      · rw [if_neg e2] at h
        exact br_f e (br_f e2 (nm_r (nI_1 i) (ih (i + 1) n (by omega) (by omega) h)))
theorem xc_hold (q : ty_i hi t) (h : U (if ty_an t.2.2 t.1 0 = true then 1 else 0)) : wpX_holdsLineEnd U (nI lc, nI ic, nI oc, nI L, nI hi, nI t.1, nI ho, nI s.1, nI hu, nI y.1, nI hs, nI z.1, fl, dr, s.2.1, st, fg, ie, pe, la, rm, ln, lw, t.2.1, s.2.2.1, y.2.1, z.2.1, ct) := ⟨t.1 + 1, xc_holdL q t.1 0 (t.1 + 1) (by omega) (by omega) h⟩
theorem xd_drop (hh : hi < 64) (hn : 0 < t.1) (h : P (nI lc, nI ic, nI oc, nI L, nI ((hi + 1) % 64), nI (ty_rm t).1, nI ho, nI s.1, nI hu, nI y.1, nI hs, nI z.1, fl, dr, s.2.1, st, fg, ie, pe, la, rm, ln, lw, (ty_rm t).2.1, s.2.2.1, y.2.1, z.2.1, ct)) : wpX_dropInputHead P (nI lc, nI ic, nI oc, nI L, nI hi, nI t.1, nI ho, nI s.1, nI hu, nI y.1, nI hs, nI z.1, fl, dr, s.2.1, st, fg, ie, pe, la, rm, ln, lw, t.2.1, s.2.2.1, y.2.1, z.2.1, ct) := nm_r (ty_ring1 hh) (nm_r (ty_pred hn) h)
theorem xd_user {x : Int32} (hh : hu < 64) (hn : y.1 ≤ 64) (h : P (nI lc, nI ic, nI oc, nI L, nI hi, nI t.1, nI ho, nI s.1, nI hu, nI (ty_in hu x y).1, nI hs, nI z.1, fl, dr, s.2.1, st, fg, ie, pe, la, rm, ln, lw, t.2.1, s.2.2.1, (ty_in hu x y).2.1, z.2.1, ct)) : wpX_appendUser P (nI lc, nI ic, nI oc, nI L, nI hi, nI t.1, nI ho, nI s.1, nI hu, nI y.1, nI hs, nI z.1, fl, dr, s.2.1, st, fg, ie, pe, la, rm, ln, lw, t.2.1, s.2.2.1, y.2.1, z.2.1, ct) x :=
  ⟨ty_ringI hh hn, nm_r (congrArg (fun i => upd y.2.1 i x) (ty_ringC hh hn)) (nm_r (nI_1 y.1) h)⟩
theorem xd_lineL {r : Nat} (hh : hu < 64) (hr : r ≤ 64) : ∀ (n c h f : Nat) (t y : TyI), t.1 = n → ty_i h t → c ≤ r → y.1 + (r - c) ≤ 64 → n < f → Q (nI (ty_dl hu r n c h t y).1) (nI lc, nI ic, nI oc, nI L, nI (ty_dl hu r n c h t y).2.1, nI ((ty_dl hu r n c h t y).2.2.1).1, nI ho, nI s.1, nI hu, nI ((ty_dl hu r n c h t y).2.2.2).1, nI hs, nI z.1, fl, dr, s.2.1, st, fg, ie, pe, la, nI r, ln, lw, ((ty_dl hu r n c h t y).2.2.1).2.1, s.2.2.1, ((ty_dl hu r n c h t y).2.2.2).2.1, z.2.1, ct) → wX_deliverLine_7 Q f (nI c) (nI n) (nI lc) (nI ic) (nI oc) (nI L) (nI h) (nI t.1) (nI ho) (nI s.1) (nI hu) (nI y.1) (nI hs) (nI z.1) fl dr s.2.1 st fg ie pe la (nI r) ln lw t.2.1 s.2.2.1 y.2.1 z.2.1 ct := by
  intro n
  induction n with
  | zero =>
    intro c h f t y ht q hc hy hf H
    obtain ⟨f, rfl⟩ : ∃ k, f = k + 1 := ⟨f - 1, by omega⟩
    exact pk_le 0 0 (fun _ => H) (fun e => absurd e (by omega))
  | succ n ih =>
    intro c h f t y ht q hc hy hf H
    have q1 := q.1; have q2 := q.2.1
    obtain ⟨f, rfl⟩ : ∃ k, f = k + 1 := ⟨f - 1, by omega⟩
    refine pk_le (n + 1) 0 (fun e => absurd e (by omega)) (fun _ => ⟨vp_in_nI q1 (by omega), nm_r (e' := t.2.2 0) (by rw [nI_clamp (by omega)]; exact ty_iHd q (by omega)) ?_⟩)
    unfold ty_dl at H
    by_cases c1 : t.2.2 0 = 256
    · simp only [if_pos c1] at H
      refine br_t c1 ?_
      exact xd_drop q1 (by omega) H
    · simp only [if_neg c1] at H
      refine br_f c1 (pk_eq c r (fun e => ?_) (fun e => ?_))
      · simp only [if_pos e] at H
        exact H
      · simp only [if_neg e] at H
        refine xd_drop q1 (by omega) ?_
        refine xd_user hh (by omega) ?_
        refine nm_r (nI_1 c) ?_
        by_cases c3 : t.2.2 0 = 10
        · simp only [if_pos c3] at H
          rw [c3] at H ⊢
          exact br_t rfl H
        · simp only [if_neg c3] at H
          exact br_f c3 (nm_r (pk_m1 n) (ih (c + 1) _ f (ty_rm t) (ty_in hu (t.2.2 0) y) (by show t.1 - 1 = n; omega) (ty_iRm q (by omega)) (by omega) (by show y.1 + 1 + (r - (c + 1)) ≤ 64; omega) (by omega) H))
theorem xd_line {r : Nat} (hh : hu < 64) (q : ty_i hi t) (hy : y.1 + r ≤ 64) (h : Q (nI (ty_dl hu r t.1 0 hi t y).1) (nI lc, nI ic, nI oc, nI L, nI (ty_dl hu r t.1 0 hi t y).2.1, nI ((ty_dl hu r t.1 0 hi t y).2.2.1).1, nI ho, nI s.1, nI hu, nI ((ty_dl hu r t.1 0 hi t y).2.2.2).1, nI hs, nI z.1, fl, dr, s.2.1, st, fg, ie, pe, la, nI r, ln, lw, ((ty_dl hu r t.1 0 hi t y).2.2.1).2.1, s.2.2.1, ((ty_dl hu r t.1 0 hi t y).2.2.2).2.1, z.2.1, ct)) : wpX_deliverLine Q (nI lc, nI ic, nI oc, nI L, nI hi, nI t.1, nI ho, nI s.1, nI hu, nI y.1, nI hs, nI z.1, fl, dr, s.2.1, st, fg, ie, pe, la, nI r, ln, lw, t.2.1, s.2.2.1, y.2.1, z.2.1, ct) :=
  ⟨t.1 + 1, xd_lineL hh (by omega) t.1 0 hi (t.1 + 1) t y rfl q (by omega) (by omega) (by omega) h⟩
theorem xd_rawL {d0 : Nat} (hh : hu < 64) (hd : d0 ≤ 64) : ∀ (d c h f : Nat) (t y : TyI), c + d = d0 → ty_i h t → d ≤ t.1 → y.1 + d ≤ 64 → d < f → Q (nI d0) (nI lc, nI ic, nI oc, nI L, nI (ty_dr hu d c h t y).2.1, nI ((ty_dr hu d c h t y).2.2.1).1, nI ho, nI s.1, nI hu, nI ((ty_dr hu d c h t y).2.2.2).1, nI hs, nI z.1, fl, dr, s.2.1, st, fg, ie, pe, la, rm, ln, lw, ((ty_dr hu d c h t y).2.2.1).2.1, s.2.2.1, ((ty_dr hu d c h t y).2.2.2).2.1, z.2.1, ct) → wX_deliverRaw_25 Q (nI d0) f (nI c) (nI lc) (nI ic) (nI oc) (nI L) (nI h) (nI t.1) (nI ho) (nI s.1) (nI hu) (nI y.1) (nI hs) (nI z.1) fl dr s.2.1 st fg ie pe la rm ln lw t.2.1 s.2.2.1 y.2.1 z.2.1 ct := by
  intro d
  induction d with
  | zero =>
    intro c h f t y hc q ht hy hf H
    obtain ⟨f, rfl⟩ : ∃ k, f = k + 1 := ⟨f - 1, by omega⟩
    exact pk_le d0 c (fun _ => H) (fun e => absurd e (by omega))
  | succ d ih =>
    intro c h f t y hc q ht hy hf H
    have q1 := q.1; have q2 := q.2.1
    obtain ⟨f, rfl⟩ : ∃ k, f = k + 1 := ⟨f - 1, by omega⟩
    refine pk_le d0 c (fun e => absurd e (by omega)) (fun _ => ⟨vp_in_nI q1 (by omega), nm_r (e' := t.2.2 0) (by rw [nI_clamp (by omega)]; exact ty_iHd q (by omega)) ?_⟩)
    refine xd_drop q1 (by omega) ?_
    refine xd_user hh (by omega) ?_
    exact nm_r (nI_1 c) (ih (c + 1) _ f (ty_rm t) (ty_in hu (t.2.2 0) y) (by omega) (ty_iRm q (by omega)) (by show d ≤ t.1 - 1; omega) (by show y.1 + 1 + d ≤ 64; omega) (by omega) H)
theorem xd_raw {r : Nat} (hh : hu < 64) (q : ty_i hi t) (hy : y.1 + r ≤ 64) (h : Q (nI (ty_dr hu (ty_mi r t.1) 0 hi t y).1) (nI lc, nI ic, nI oc, nI L, nI (ty_dr hu (ty_mi r t.1) 0 hi t y).2.1, nI ((ty_dr hu (ty_mi r t.1) 0 hi t y).2.2.1).1, nI ho, nI s.1, nI hu, nI ((ty_dr hu (ty_mi r t.1) 0 hi t y).2.2.2).1, nI hs, nI z.1, fl, dr, s.2.1, st, fg, ie, pe, la, nI r, ln, lw, ((ty_dr hu (ty_mi r t.1) 0 hi t y).2.2.1).2.1, s.2.2.1, ((ty_dr hu (ty_mi r t.1) 0 hi t y).2.2.2).2.1, z.2.1, ct)) (ok : ty_i hu y) : wpX_deliverRaw Q (nI lc, nI ic, nI oc, nI L, nI hi, nI t.1, nI ho, nI s.1, nI hu, nI y.1, nI hs, nI z.1, fl, dr, s.2.1, st, fg, ie, pe, la, nI r, ln, lw, t.2.1, s.2.2.1, y.2.1, z.2.1, ct) := by
  have q2 := q.2.1
  have le : ty_mi r t.1 ≤ t.1 ∧ ty_mi r t.1 ≤ r := by unfold ty_mi; split <;> omega
  rw [(ty_drOk (ty_mi r t.1) 0 hi t y q ok le.1 (by omega)).2, Nat.zero_add] at h
  refine pk_le r t.1 (fun c => ?_) (fun c => ?_)
  · have e : ty_mi r t.1 = r := if_pos c
    rw [e] at h
    exact ⟨r + 1, xd_rawL hh (by omega) r 0 hi (r + 1) t y (by omega) q c (by omega) (by omega) h⟩
  · have e : ty_mi r t.1 = t.1 := if_neg (by omega)
    rw [e] at h
    exact ⟨t.1 + 1, xd_rawL hh (by omega) t.1 0 hi (t.1 + 1) t y (by omega) q (Nat.le_refl _) (by omega) (by omega) h⟩
theorem xc_due32 {x1 x2 z0 : Int32} (h : U (ty_du x1 x2 z0 (nI t.1) ie)) : wX_rawReadIsDue_32 U x1 x2 z0 (nI lc) (nI ic) (nI oc) (nI L) (nI hi) (nI t.1) (nI ho) (nI s.1) (nI hu) (nI y.1) (nI hs) (nI z.1) fl dr s.2.1 st fg ie pe la rm ln lw t.2.1 s.2.2.1 y.2.1 z.2.1 ct := by
  unfold ty_du at h
  by_cases a : x1 = 0
  · rw [if_pos a] at h
    by_cases b : x2 = 0
    · rw [if_pos b] at h; exact br_t a (br_t b h)
    · rw [if_neg b] at h
      refine br_t a (br_f b (br_f b (br_t a ?_)))
      by_cases c : 1 ≤ nI t.1
      · rw [if_pos c] at h; exact br_t c h
      · rw [if_neg c] at h
        by_cases d : ie < x2
        · rw [if_pos d] at h; exact br_f c (br_t d h)
        · rw [if_neg d] at h; exact br_f c (br_f d h)
  · rw [if_neg a] at h
    refine br_f a ?_
    by_cases b : x2 = 0
    · rw [if_pos b] at h
      by_cases c : nI t.1 < z0
      · rw [if_pos c] at h; exact br_t b (br_t c h)
      · rw [if_neg c] at h; exact br_t b (br_f c h)
    · rw [if_neg b] at h
      refine br_f b (br_f a ?_)
      by_cases c : z0 ≤ nI t.1
      · rw [if_pos c] at h; exact br_t c h
      · rw [if_neg c] at h
        by_cases e : nI t.1 < 1
        · rw [if_pos e] at h; exact br_f c (br_t e h)
        · rw [if_neg e] at h
          by_cases d : ie < x2
          · rw [if_pos d] at h; exact br_f c (br_f e (br_t d h))
          · rw [if_neg d] at h; exact br_f c (br_f e (br_f d h))
theorem xc_due (h : U (ty_du (ct 8) (ct 9) (ty_nd (ct 8) rm) (nI t.1) ie)) : wpX_rawReadIsDue U (nI lc, nI ic, nI oc, nI L, nI hi, nI t.1, nI ho, nI s.1, nI hu, nI y.1, nI hs, nI z.1, fl, dr, s.2.1, st, fg, ie, pe, la, rm, ln, lw, t.2.1, s.2.2.1, y.2.1, z.2.1, ct) := by
  unfold ty_nd at h
  by_cases c : rm ≤ ct 8
  · rw [if_pos c] at h; exact nm_e (nm_e (br_t c (xc_due32 h)))
  · rw [if_neg c] at h; exact nm_e (nm_e (br_f c (xc_due32 h)))
theorem xc_check (q : ty_i hi t) (p : ty_i hu y) (hp : ty_p pe rm y) (h : P (nI lc, nI ic, nI oc, nI L, nI (ty_ck fl pe la rm ie ct hi hu t y).1, nI ((ty_ck fl pe la rm ie ct hi hu t y).2.1).1, nI ho, nI s.1, nI hu, nI ((ty_ck fl pe la rm ie ct hi hu t y).2.2.1).1, nI hs, nI z.1, fl, dr, s.2.1, st, fg, ie, (ty_ck fl pe la rm ie ct hi hu t y).2.2.2.1, (ty_ck fl pe la rm ie ct hi hu t y).2.2.2.2, rm, ln, lw, ((ty_ck fl pe la rm ie ct hi hu t y).2.1).2.1, s.2.2.1, ((ty_ck fl pe la rm ie ct hi hu t y).2.2.1).2.1, z.2.1, ct)) : wpX_checkCompletion P (nI lc, nI ic, nI oc, nI L, nI hi, nI t.1, nI ho, nI s.1, nI hu, nI y.1, nI hs, nI z.1, fl, dr, s.2.1, st, fg, ie, pe, la, rm, ln, lw, t.2.1, s.2.2.1, y.2.1, z.2.1, ct) := by
  unfold ty_ck at h
  by_cases a : pe = 0
  · simp only [if_pos a] at h; exact br_t a h
  · obtain ⟨r, hr1, hr2, rfl⟩ := hp a
    simp only [if_neg a, nI_clamp (show r < 2 ^ 31 by omega)] at h
    refine br_f a ?_
    by_cases b : fl &&& 1 = 0
    · simp only [if_pos b] at h
      refine xs_0 b ?_
      refine br_t rfl ?_
      refine xc_due ?_
      by_cases c : ty_du (ct 8) (ct 9) (ty_nd (ct 8) (nI r)) (nI t.1) ie = 0
      · simp only [if_pos c] at h
        exact br_t c h
      · simp only [if_neg c] at h
        refine br_f c ?_
        exact xd_raw p.1 q hr2 h p
    · simp only [if_neg b] at h
      refine xs_1 b ?_
      refine br_f (by decide) ?_
      refine xc_hold q ?_
      by_cases c : ty_an t.2.2 t.1 0 = true
      · simp only [if_pos c] at h
        rw [if_pos c]
        refine br_f (by decide) ?_
        exact xd_line p.1 q hr2 h
      · simp only [if_neg c] at h
        rw [if_neg c]
        exact br_t rfl h
end TC
end
section
section TD
variable {lc ic oc L hi ho hu hs m m' : Nat} {s : TyO} {t y z : TyI} {fl dr st fg ie pe la rm : Int32} {ln lw ct : TyF} {P : St2 → Prop} {Q : Int32 → St2 → Prop} {U : Int32 → Prop}
theorem xr_128 {a : Int32} (q : ty_i hi t) (p : ty_i hu y) (hp : ty_p pe rm y) (h : Q a (nI lc, nI ic, nI oc, nI L, nI (ty_ck fl pe la rm ie ct hi hu t y).1, nI (ty_ck fl pe la rm ie ct hi hu t y).2.1.1, nI ho, nI s.1, nI hu, nI (ty_ck fl pe la rm ie ct hi hu t y).2.2.1.1, nI hs, nI z.1, fl, dr, s.2.1, st, fg, ie, (ty_ck fl pe la rm ie ct hi hu t y).2.2.2.1, (ty_ck fl pe la rm ie ct hi hu t y).2.2.2.2, rm, ln, lw, (ty_ck fl pe la rm ie ct hi hu t y).2.1.2.1, s.2.2.1, (ty_ck fl pe la rm ie ct hi hu t y).2.2.1.2.1, z.2.1, ct)) : wX_receive_128 Q a (nI lc) (nI ic) (nI oc) (nI L) (nI hi) (nI t.1) (nI ho) (nI s.1) (nI hu) (nI y.1) (nI hs) (nI z.1) fl dr s.2.1 st fg ie pe la rm ln lw t.2.1 s.2.2.1 y.2.1 z.2.1 ct := xc_check q p hp h
theorem xr_er0 (b : ¬ fl &&& 1 = 0) (e2 : nI m = ct 2) (h : wX_receive_128 Q 4 (nI lc) (nI ic) (nI oc) (nI 0) (nI hi) (nI t.1) (nI ho) (nI s.1) (nI hu) (nI y.1) (nI hs) (nI z.1) fl dr s.2.1 st fg ie pe la rm ln lw t.2.1 s.2.2.1 y.2.1 z.2.1 ct) : wX_receive_105 Q (nI m) (nI lc) (nI ic) (nI oc) (nI 0) (nI hi) (nI t.1) (nI ho) (nI s.1) (nI hu) (nI y.1) (nI hs) (nI z.1) fl dr s.2.1 st fg ie pe la rm ln lw t.2.1 s.2.2.1 y.2.1 z.2.1 ct := by
  unfold wX_receive_105
  refine xs_1 b ?_
  refine br_f (by decide) ?_
  exact br_t e2 (br_t rfl h)
theorem xr_er1 {l : Nat} (b : ¬ fl &&& 1 = 0) (e2 : nI m = ct 2) (hm : m < 256) (hl : ty_l lw (l + 1)) (hL : l + 1 ≤ 32) (hh : ho < 64) (hc : oc ≤ 64) (ok : ty_o oc ho s) (h : wX_receive_128 Q 4 (nI lc) (nI ic) (nI oc) (nI l) (nI hi) (nI t.1) (nI ho) (nI (ty_ee fl oc ho m (ty_cut (ty_rl fl oc ho ln lw) l (l + 1) s)).1) (nI hu) (nI y.1) (nI hs) (nI z.1) fl dr ((ty_ee fl oc ho m (ty_cut (ty_rl fl oc ho ln lw) l (l + 1) s)).2.1) st fg ie pe la rm ln lw t.2.1 ((ty_ee fl oc ho m (ty_cut (ty_rl fl oc ho ln lw) l (l + 1) s)).2.2.1) y.2.1 z.2.1 ct) : wX_receive_105 Q (nI m) (nI lc) (nI ic) (nI oc) (nI (l + 1)) (nI hi) (nI t.1) (nI ho) (nI s.1) (nI hu) (nI y.1) (nI hs) (nI z.1) fl dr s.2.1 st fg ie pe la rm ln lw t.2.1 s.2.2.1 y.2.1 z.2.1 ct := by
  unfold wX_receive_105
  refine xs_1 b ?_
  refine br_f (by decide) ?_
  refine br_t e2 ?_
  exact xe_last hm hl hL hh hc ok h
theorem xr_we0 (b : ¬ fl &&& 1 = 0) (e2 : ¬ nI m = ct 2) (e3 : nI m = ct 3) (h : wX_receive_128 Q 4 (nI lc) (nI ic) (nI oc) (nI 0) (nI hi) (nI t.1) (nI ho) (nI s.1) (nI hu) (nI y.1) (nI hs) (nI z.1) fl dr s.2.1 st fg ie pe la rm ln lw t.2.1 s.2.2.1 y.2.1 z.2.1 ct) : wX_receive_105 Q (nI m) (nI lc) (nI ic) (nI oc) (nI 0) (nI hi) (nI t.1) (nI ho) (nI s.1) (nI hu) (nI y.1) (nI hs) (nI z.1) fl dr s.2.1 st fg ie pe la rm ln lw t.2.1 s.2.2.1 y.2.1 z.2.1 ct := by
  unfold wX_receive_105
  refine xs_1 b ?_
  refine br_f (by decide) ?_
  exact br_f e2 (br_t e3 (br_t rfl h))
theorem xr_we1 {l : Nat} (b : ¬ fl &&& 1 = 0) (e2 : ¬ nI m = ct 2) (e3 : nI m = ct 3) (hm : m < 256) (hl : ty_l lw (l + 1)) (hL : l + 1 ≤ 32) (hh : ho < 64) (hc : oc ≤ 64) (ok : ty_o oc ho s) (h : wX_receive_128 Q 4 (nI lc) (nI ic) (nI oc) (nI (ty_ww ln (ty_wb ln (l + 1)))) (nI hi) (nI t.1) (nI ho) (nI (ty_ee fl oc ho m (ty_cut (ty_rl fl oc ho ln lw) (ty_ww ln (ty_wb ln (l + 1))) (l + 1) s)).1) (nI hu) (nI y.1) (nI hs) (nI z.1) fl dr ((ty_ee fl oc ho m (ty_cut (ty_rl fl oc ho ln lw) (ty_ww ln (ty_wb ln (l + 1))) (l + 1) s)).2.1) st fg ie pe la rm ln lw t.2.1 ((ty_ee fl oc ho m (ty_cut (ty_rl fl oc ho ln lw) (ty_ww ln (ty_wb ln (l + 1))) (l + 1) s)).2.2.1) y.2.1 z.2.1 ct) : wX_receive_105 Q (nI m) (nI lc) (nI ic) (nI oc) (nI (l + 1)) (nI hi) (nI t.1) (nI ho) (nI s.1) (nI hu) (nI y.1) (nI hs) (nI z.1) fl dr s.2.1 st fg ie pe la rm ln lw t.2.1 s.2.2.1 y.2.1 z.2.1 ct := by
  unfold wX_receive_105
  refine xs_1 b ?_
  refine br_f (by decide) ?_
  refine br_f e2 (br_t e3 ?_)
  exact xe_word hm hl hL hh hc ok h
theorem xr_ki0 (b : ¬ fl &&& 1 = 0) (e2 : ¬ nI m = ct 2) (e3 : ¬ nI m = ct 3) (e4 : nI m = ct 4) (h : wX_receive_128 Q 4 (nI lc) (nI ic) (nI oc) (nI 0) (nI hi) (nI t.1) (nI ho) (nI s.1) (nI hu) (nI y.1) (nI hs) (nI z.1) fl dr s.2.1 st fg ie pe la rm ln lw t.2.1 s.2.2.1 y.2.1 z.2.1 ct) : wX_receive_105 Q (nI m) (nI lc) (nI ic) (nI oc) (nI 0) (nI hi) (nI t.1) (nI ho) (nI s.1) (nI hu) (nI y.1) (nI hs) (nI z.1) fl dr s.2.1 st fg ie pe la rm ln lw t.2.1 s.2.2.1 y.2.1 z.2.1 ct := by
  unfold wX_receive_105
  refine xs_1 b ?_
  refine br_f (by decide) ?_
  exact br_f e2 (br_f e3 (br_t e4 (br_t rfl h)))
theorem xr_ki1 {l : Nat} (b : ¬ fl &&& 1 = 0) (e2 : ¬ nI m = ct 2) (e3 : ¬ nI m = ct 3) (e4 : nI m = ct 4) (hm : m < 256) (hl : ty_l lw (l + 1)) (hL : l + 1 ≤ 32) (hh : ho < 64) (hc : oc ≤ 64) (ok : ty_o oc ho s) (h : wX_receive_128 Q 4 (nI lc) (nI ic) (nI oc) (nI 0) (nI hi) (nI t.1) (nI ho) (nI (ty_ek fl oc ho m (ty_cut (ty_rl fl oc ho ln lw) 0 (l + 1) s)).1) (nI hu) (nI y.1) (nI hs) (nI z.1) fl dr ((ty_ek fl oc ho m (ty_cut (ty_rl fl oc ho ln lw) 0 (l + 1) s)).2.1) st fg ie pe la rm ln lw t.2.1 ((ty_ek fl oc ho m (ty_cut (ty_rl fl oc ho ln lw) 0 (l + 1) s)).2.2.1) y.2.1 z.2.1 ct) : wX_receive_105 Q (nI m) (nI lc) (nI ic) (nI oc) (nI (l + 1)) (nI hi) (nI t.1) (nI ho) (nI s.1) (nI hu) (nI y.1) (nI hs) (nI z.1) fl dr s.2.1 st fg ie pe la rm ln lw t.2.1 s.2.2.1 y.2.1 z.2.1 ct := by
  unfold wX_receive_105
  refine xs_1 b ?_
  refine br_f (by decide) ?_
  refine br_f e2 (br_f e3 (br_t e4 ?_))
  exact xe_kill hm hl hL hh hc ok h
theorem xr_ef1 (b : ¬ fl &&& 1 = 0) (e2 : ¬ nI m = ct 2) (e3 : ¬ nI m = ct 3) (e4 : ¬ nI m = ct 4) (e5 : nI m = ct 5) (hL : L ≤ 32) (hc : ic ≤ 64) (hh : hi < 64) (hr : t.1 + L + 1 ≤ ic) (h : wX_receive_128 Q 5 (nI lc) (nI ic) (nI oc) (nI 0) (nI hi) (nI (ty_in hi 256 (ty_pl hi ln L 0 t)).1) (nI ho) (nI s.1) (nI hu) (nI y.1) (nI hs) (nI z.1) fl dr s.2.1 st fg ie pe la rm ln lw ((ty_in hi 256 (ty_pl hi ln L 0 t)).2.1) s.2.2.1 y.2.1 z.2.1 ct) : wX_receive_105 Q (nI m) (nI lc) (nI ic) (nI oc) (nI L) (nI hi) (nI t.1) (nI ho) (nI s.1) (nI hu) (nI y.1) (nI hs) (nI z.1) fl dr s.2.1 st fg ie pe la rm ln lw t.2.1 s.2.2.1 y.2.1 z.2.1 ct := by
  unfold wX_receive_105
  refine xs_1 b ?_
  refine br_f (by decide) ?_
  refine br_f e2 (br_f e3 (br_f e4 (br_t e5 ?_)))
  exact pk_le (L + 1) (ic - t.1) (fun _ => xi_pass hh hL (by omega) h) (fun e => absurd e (by omega)) (hx := nI_1 L) (hy := pk_sub (by omega))
theorem xr_ef0 (b : ¬ fl &&& 1 = 0) (e2 : ¬ nI m = ct 2) (e3 : ¬ nI m = ct 3) (e4 : ¬ nI m = ct 4) (e5 : nI m = ct 5) (hL : L ≤ 32) (hc : ic ≤ 64) (ht : t.1 ≤ ic) (hr : ic < t.1 + L + 1) (h : wX_receive_128 Q 7 (nI lc) (nI ic) (nI oc) (nI 0) (nI hi) (nI t.1) (nI ho) (nI s.1) (nI hu) (nI y.1) (nI hs) (nI z.1) fl (dr + nI L) s.2.1 st fg ie pe la rm ln lw t.2.1 s.2.2.1 y.2.1 z.2.1 ct) : wX_receive_105 Q (nI m) (nI lc) (nI ic) (nI oc) (nI L) (nI hi) (nI t.1) (nI ho) (nI s.1) (nI hu) (nI y.1) (nI hs) (nI z.1) fl dr s.2.1 st fg ie pe la rm ln lw t.2.1 s.2.2.1 y.2.1 z.2.1 ct := by
  unfold wX_receive_105
  refine xs_1 b ?_
  refine br_f (by decide) ?_
  refine br_f e2 (br_f e3 (br_f e4 (br_t e5 ?_)))
  exact pk_le (L + 1) (ic - t.1) (fun e => absurd e (by omega)) (fun _ => nm_e h) (hx := nI_1 L) (hy := pk_sub (by omega))
theorem xr_nl1 (b : ¬ fl &&& 1 = 0) (e2 : ¬ nI m = ct 2) (e3 : ¬ nI m = ct 3) (e4 : ¬ nI m = ct 4) (e5 : ¬ nI m = ct 5) (e10 : nI m = 10) (hL : L ≤ 32) (hc : ic ≤ 64) (hh : hi < 64) (hr : t.1 + L + 1 ≤ ic) (hh' : ho < 64) (hc' : oc ≤ 64) (ok : ty_o oc ho s) (h : wX_receive_128 Q 5 (nI lc) (nI ic) (nI oc) (nI 0) (nI hi) (nI (ty_in hi 10 (ty_pl hi ln L 0 t)).1) (nI ho) (nI (ty_echo fl oc ho 10 s).1) (nI hu) (nI y.1) (nI hs) (nI z.1) fl dr ((ty_echo fl oc ho 10 s).2.1) st fg ie pe la rm ln lw ((ty_in hi 10 (ty_pl hi ln L 0 t)).2.1) ((ty_echo fl oc ho 10 s).2.2.1) y.2.1 z.2.1 ct) : wX_receive_105 Q (nI m) (nI lc) (nI ic) (nI oc) (nI L) (nI hi) (nI t.1) (nI ho) (nI s.1) (nI hu) (nI y.1) (nI hs) (nI z.1) fl dr s.2.1 st fg ie pe la rm ln lw t.2.1 s.2.2.1 y.2.1 z.2.1 ct := by
  unfold wX_receive_105
  refine xs_1 b ?_
  refine br_f (by decide) ?_
  refine br_f e2 (br_f e3 (br_f e4 (br_f e5 (br_t e10 ?_))))
  refine pk_le (L + 1) (ic - t.1) (fun _ => ?_) (fun e => absurd e (by omega)) (hx := nI_1 L) (hy := pk_sub (by omega))
  refine xi_pass hh hL (by omega) ?_
  exact xo_echo (m := 10) (by omega) hh' ok.1 hc' h
theorem xr_nl0 (b : ¬ fl &&& 1 = 0) (e2 : ¬ nI m = ct 2) (e3 : ¬ nI m = ct 3) (e4 : ¬ nI m = ct 4) (e5 : ¬ nI m = ct 5) (e10 : nI m = 10) (hL : L ≤ 32) (hc : ic ≤ 64) (ht : t.1 ≤ ic) (hr : ic < t.1 + L + 1) (h : wX_receive_128 Q 7 (nI lc) (nI ic) (nI oc) (nI 0) (nI hi) (nI t.1) (nI ho) (nI s.1) (nI hu) (nI y.1) (nI hs) (nI z.1) fl (dr + (nI L + 1)) s.2.1 st fg ie pe la rm ln lw t.2.1 s.2.2.1 y.2.1 z.2.1 ct) : wX_receive_105 Q (nI m) (nI lc) (nI ic) (nI oc) (nI L) (nI hi) (nI t.1) (nI ho) (nI s.1) (nI hu) (nI y.1) (nI hs) (nI z.1) fl dr s.2.1 st fg ie pe la rm ln lw t.2.1 s.2.2.1 y.2.1 z.2.1 ct := by
  unfold wX_receive_105
  refine xs_1 b ?_
  refine br_f (by decide) ?_
  refine br_f e2 (br_f e3 (br_f e4 (br_f e5 (br_t e10 ?_))))
  exact pk_le (L + 1) (ic - t.1) (fun e => absurd e (by omega)) (fun _ => nm_e h) (hx := nI_1 L) (hy := pk_sub (by omega))
theorem xr_st1 (b : ¬ fl &&& 1 = 0) (e2 : ¬ nI m = ct 2) (e3 : ¬ nI m = ct 3) (e4 : ¬ nI m = ct 4) (e5 : ¬ nI m = ct 5) (e10 : ¬ nI m = 10) (hm : m < 256) (hL : L < lc) (hlc : lc ≤ 32) (hh' : ho < 64) (hc' : oc ≤ 64) (ok : ty_o oc ho s) (h : wX_receive_128 Q 6 (nI lc) (nI ic) (nI oc) (nI (L + 1)) (nI hi) (nI t.1) (nI ho) (nI (ty_echo fl oc ho m s).1) (nI hu) (nI y.1) (nI hs) (nI z.1) fl dr ((ty_echo fl oc ho m s).2.1) st fg ie pe la rm (upd ln L (nI m)) (upd lw L ((ty_echo fl oc ho m s).2.1 - s.2.1)) t.2.1 ((ty_echo fl oc ho m s).2.2.1) y.2.1 z.2.1 ct) : wX_receive_105 Q (nI m) (nI lc) (nI ic) (nI oc) (nI L) (nI hi) (nI t.1) (nI ho) (nI s.1) (nI hu) (nI y.1) (nI hs) (nI z.1) fl dr s.2.1 st fg ie pe la rm ln lw t.2.1 s.2.2.1 y.2.1 z.2.1 ct := by
  unfold wX_receive_105
  refine xs_1 b ?_
  refine br_f (by decide) ?_
  refine br_f e2 (br_f e3 (br_f e4 (br_f e5 (br_f e10 ?_))))
  refine pk_lt L lc (fun _ => ?_) (fun e => absurd e (by omega))
  refine xo_echo hm hh' ok.1 hc' ?_
  exact ⟨vp_in_nI (by omega) (by omega), nm_r (congrArg (fun i => upd ln i (nI m)) (nI_clamp (by omega))) ⟨vp_in_nI (by omega) (by omega), nm_r (congrArg (fun i => upd lw i ((ty_echo fl oc ho m s).2.1 - s.2.1)) (nI_clamp (by omega))) (nm_r (nI_1 L) h)⟩⟩
theorem xr_st0 (b : ¬ fl &&& 1 = 0) (e2 : ¬ nI m = ct 2) (e3 : ¬ nI m = ct 3) (e4 : ¬ nI m = ct 4) (e5 : ¬ nI m = ct 5) (e10 : ¬ nI m = 10) (hL : lc ≤ L) (hlc : L ≤ 32) (h : wX_receive_128 Q 7 (nI lc) (nI ic) (nI oc) (nI L) (nI hi) (nI t.1) (nI ho) (nI s.1) (nI hu) (nI y.1) (nI hs) (nI z.1) fl (dr + 1) s.2.1 st fg ie pe la rm ln lw t.2.1 s.2.2.1 y.2.1 z.2.1 ct) : wX_receive_105 Q (nI m) (nI lc) (nI ic) (nI oc) (nI L) (nI hi) (nI t.1) (nI ho) (nI s.1) (nI hu) (nI y.1) (nI hs) (nI z.1) fl dr s.2.1 st fg ie pe la rm ln lw t.2.1 s.2.2.1 y.2.1 z.2.1 ct := by
  unfold wX_receive_105
  refine xs_1 b ?_
  refine br_f (by decide) ?_
  refine br_f e2 (br_f e3 (br_f e4 (br_f e5 (br_f e10 ?_))))
  exact pk_lt L lc (fun e => absurd e (by omega)) (fun _ => nm_e h)
theorem xr_ra1 (b : fl &&& 1 = 0) (hm : m < 256) (ht : t.1 < ic) (hc : ic ≤ 64) (hh : hi < 64) (hh' : ho < 64) (hc' : oc ≤ 64) (ok : ty_o oc ho s) (h : wX_receive_128 Q 6 (nI lc) (nI ic) (nI oc) (nI L) (nI hi) (nI (ty_in hi (nI m) t).1) (nI ho) (nI (ty_echo fl oc ho m s).1) (nI hu) (nI y.1) (nI hs) (nI z.1) fl dr ((ty_echo fl oc ho m s).2.1) st fg 0 pe la rm ln lw ((ty_in hi (nI m) t).2.1) ((ty_echo fl oc ho m s).2.2.1) y.2.1 z.2.1 ct) : wX_receive_105 Q (nI m) (nI lc) (nI ic) (nI oc) (nI L) (nI hi) (nI t.1) (nI ho) (nI s.1) (nI hu) (nI y.1) (nI hs) (nI z.1) fl dr s.2.1 st fg ie pe la rm ln lw t.2.1 s.2.2.1 y.2.1 z.2.1 ct := by
  unfold wX_receive_105
  refine xs_0 b ?_
  refine br_t rfl ?_
  refine pk_lt t.1 ic (fun _ => ?_) (fun e => absurd e (by omega))
  refine xi_app hh (by omega) ?_
  exact xo_echo hm hh' ok.1 hc' h
theorem xr_ra0 (b : fl &&& 1 = 0) (ht : ic ≤ t.1) (hc : t.1 ≤ 64) (h : wX_receive_128 Q 7 (nI lc) (nI ic) (nI oc) (nI L) (nI hi) (nI t.1) (nI ho) (nI s.1) (nI hu) (nI y.1) (nI hs) (nI z.1) fl (dr + 1) s.2.1 st fg ie pe la rm ln lw t.2.1 s.2.2.1 y.2.1 z.2.1 ct) : wX_receive_105 Q (nI m) (nI lc) (nI ic) (nI oc) (nI L) (nI hi) (nI t.1) (nI ho) (nI s.1) (nI hu) (nI y.1) (nI hs) (nI z.1) fl dr s.2.1 st fg ie pe la rm ln lw t.2.1 s.2.2.1 y.2.1 z.2.1 ct := by
  unfold wX_receive_105
  refine xs_0 b ?_
  refine br_t rfl ?_
  exact pk_lt t.1 ic (fun e => absurd e (by omega)) (fun _ => nm_e h)
/-! a signal -/
def ty_zs (hs : Nat) (x : Int32) (z : TyI) : TyI := if z.1 < 8 then (z.1 + 1, upd z.2.1 ((hs + z.1) % 8) x, upd z.2.2 z.1 x) else z
theorem ty_zOk {hs : Nat} {x : Int32} {z : TyI} (q : ty_q 8 z.2.1 z.2.2 hs z.1) : ty_q 8 (ty_zs hs x z).2.1 (ty_zs hs x z).2.2 hs (ty_zs hs x z).1 := by
  unfold ty_zs
  by_cases c : z.1 < 8
  · simp only [if_pos c]; exact ty_qPush x q c
  · simp only [if_neg c]; exact q
theorem xg_post {x : Int32} (q : ty_q 8 z.2.1 z.2.2 hs z.1) (h : P (nI lc, nI ic, nI oc, nI L, nI hi, nI t.1, nI ho, nI s.1, nI hu, nI y.1, nI hs, nI (ty_zs hs (fg * 32 + x) z).1, fl, dr, s.2.1, st, fg, ie, pe, la, rm, ln, lw, t.2.1, s.2.2.1, y.2.1, (ty_zs hs (fg * 32 + x) z).2.1, ct)) : wpX_postSignal P (nI lc, nI ic, nI oc, nI L, nI hi, nI t.1, nI ho, nI s.1, nI hu, nI y.1, nI hs, nI z.1, fl, dr, s.2.1, st, fg, ie, pe, la, rm, ln, lw, t.2.1, s.2.2.1, y.2.1, z.2.1, ct) x := by
  have q1 := q.1; have q2 := q.2.1
  unfold ty_zs at h
  by_cases c : z.1 < 8
  · simp only [if_pos c] at h
    exact pk_le 8 z.1 (fun e => absurd e (by omega)) (fun _ => ⟨ty_rungI q1 q2, nm_r (congrArg (fun i => upd z.2.1 i (fg * 32 + x)) (ty_rungC q1 q2)) (nm_r (nI_1 z.1) h)⟩)
  · simp only [if_neg c] at h
    exact pk_le 8 z.1 (fun _ => h) (fun e => absurd e (by omega))
/-- what a signal leaves of pending and last result -/
def ty_sp1 (pe : Int32) : Int32 := if pe = 0 then pe else 0
def ty_sp2 (pe la : Int32) : Int32 := if pe = 0 then la else -2
theorem xg_16 {x : Int32} (hm : m < 256) (qz : ty_q 8 z.2.1 z.2.2 hs z.1) (q : ty_i hi t) (hh : ho < 64) (hc : oc ≤ 64) (h : P (nI lc, nI ic, nI oc, nI 0, nI hi, nI ((0, t.2)).1, nI ho, nI (ty_echo fl oc ho m (0, s.2)).1, nI hu, nI y.1, nI hs, nI (ty_zs hs (fg * 32 + x) z).1, fl, dr + (nI L + nI (ty_cn t.2.2 t.1 0)), (ty_echo fl oc ho m (0, s.2)).2.1, 0, fg, ie, ty_sp1 pe, ty_sp2 pe la, rm, ln, lw, ((0, t.2)).2.1, (ty_echo fl oc ho m (0, s.2)).2.2.1, y.2.1, (ty_zs hs (fg * 32 + x) z).2.1, ct)) : wX_raiseSignal_16 P (nI m) x (nI lc) (nI ic) (nI oc) (nI L) (nI hi) (nI t.1) (nI ho) (nI s.1) (nI hu) (nI y.1) (nI hs) (nI z.1) fl dr s.2.1 st fg ie pe la rm ln lw t.2.1 s.2.2.1 y.2.1 z.2.1 ct := by
  unfold wX_raiseSignal_16
  refine xg_post qz ?_
  refine xn_cnt (z := ty_zs hs (fg * 32 + x) z) q ?_
  refine nm_e ?_
  unfold ty_sp1 ty_sp2 at h
  by_cases c : pe = 0
  · simp only [if_pos c] at h
    exact br_t c (xo_echo (L := 0) (t := (0, t.2)) (s := (0, s.2)) (z := ty_zs hs (fg * 32 + x) z) hm hh (Nat.zero_le _) hc h)
  · simp only [if_neg c] at h
    refine br_f c ?_
    unfold wpX_endRead
    exact (xo_echo (L := 0) (t := (0, t.2)) (s := (0, s.2)) (z := ty_zs hs (fg * 32 + x) z) hm hh (Nat.zero_le _) hc h)
theorem xr_sig (hm : m < 256) (qz : ty_q 8 z.2.1 z.2.2 hs z.1) (q : ty_i hi t) (hh : ho < 64) (hc : oc ≤ 64) (h : wX_receive_128 Q 3 (nI lc) (nI ic) (nI oc) (nI 0) (nI hi) (nI ((0, t.2)).1) (nI ho) (nI (ty_echo fl oc ho m (0, s.2)).1) (nI hu) (nI y.1) (nI hs) (nI (ty_zs hs (fg * 32 + (if nI m = ct 0 then 2 else 20)) z).1) fl (dr + (nI L + nI (ty_cn t.2.2 t.1 0))) ((ty_echo fl oc ho m (0, s.2)).2.1) 0 fg ie (ty_sp1 pe) (ty_sp2 pe la) rm ln lw (((0, t.2)).2.1) ((ty_echo fl oc ho m (0, s.2)).2.2.1) y.2.1 ((ty_zs hs (fg * 32 + (if nI m = ct 0 then 2 else 20)) z).2.1) ct) : wX_receive_95 Q (nI m) (nI lc) (nI ic) (nI oc) (nI L) (nI hi) (nI t.1) (nI ho) (nI s.1) (nI hu) (nI y.1) (nI hs) (nI z.1) fl dr s.2.1 st fg ie pe la rm ln lw t.2.1 s.2.2.1 y.2.1 z.2.1 ct := by
  unfold wX_receive_95
  by_cases c : nI m = ct 0
  · simp only [if_pos c] at h
    exact br_t c (xg_16 hm qz q hh hc h)
  · simp only [if_neg c] at h
    exact br_f c (xg_16 hm qz q hh hc h)
/-! the ways into receive -/
theorem xr_66 {v1 : Int32} (hv : v1 &&& 255 = nI m) (c : fl &&& 16 = 0 ∨ (¬ nI m = ct 7 ∧ ¬ nI m = ct 6)) (h : wX_receive_66 Q (nI m) (nI lc) (nI ic) (nI oc) (nI L) (nI hi) (nI t.1) (nI ho) (nI s.1) (nI hu) (nI y.1) (nI hs) (nI z.1) fl dr s.2.1 st fg ie pe la rm ln lw t.2.1 s.2.2.1 y.2.1 z.2.1 ct) : wpX_receive Q (nI lc, nI ic, nI oc, nI L, nI hi, nI t.1, nI ho, nI s.1, nI hu, nI y.1, nI hs, nI z.1, fl, dr, s.2.1, st, fg, ie, pe, la, rm, ln, lw, t.2.1, s.2.2.1, y.2.1, z.2.1, ct) v1 := by
  refine nm_r hv ?_
  by_cases f : fl &&& 16 = 0
  · refine xs_0 f ?_
    refine br_t rfl ?_
    unfold wX_receive_36
    refine xs_0 f ?_
    exact br_t rfl h
  · rcases c with c | ⟨c7, c6⟩
    · exact absurd c f
    · refine xs_1 f ?_
      refine br_f (by decide) (br_f c7 ?_)
      unfold wX_receive_36
      refine xs_1 f ?_
      exact br_f (by decide) (br_f c6 h)
theorem xr_stop {v1 : Int32} (hv : v1 &&& 255 = nI m) (f : ¬ fl &&& 16 = 0) (c : nI m = ct 7) (h : wX_receive_128 Q 1 (nI lc) (nI ic) (nI oc) (nI L) (nI hi) (nI t.1) (nI ho) (nI s.1) (nI hu) (nI y.1) (nI hs) (nI z.1) fl dr s.2.1 1 fg ie pe la rm ln lw t.2.1 s.2.2.1 y.2.1 z.2.1 ct) : wpX_receive Q (nI lc, nI ic, nI oc, nI L, nI hi, nI t.1, nI ho, nI s.1, nI hu, nI y.1, nI hs, nI z.1, fl, dr, s.2.1, st, fg, ie, pe, la, rm, ln, lw, t.2.1, s.2.2.1, y.2.1, z.2.1, ct) v1 := by
  refine nm_r hv ?_
  refine xs_1 f ?_
  exact br_f (by decide) (br_t c h)
theorem xr_start {v1 : Int32} (hv : v1 &&& 255 = nI m) (f : ¬ fl &&& 16 = 0) (c7 : ¬ nI m = ct 7) (c : nI m = ct 6) (h : wX_receive_128 Q 2 (nI lc) (nI ic) (nI oc) (nI L) (nI hi) (nI t.1) (nI ho) (nI s.1) (nI hu) (nI y.1) (nI hs) (nI z.1) fl dr s.2.1 0 fg ie pe la rm ln lw t.2.1 s.2.2.1 y.2.1 z.2.1 ct) : wpX_receive Q (nI lc, nI ic, nI oc, nI L, nI hi, nI t.1, nI ho, nI s.1, nI hu, nI y.1, nI hs, nI z.1, fl, dr, s.2.1, st, fg, ie, pe, la, rm, ln, lw, t.2.1, s.2.2.1, y.2.1, z.2.1, ct) v1 := by
  refine nm_r hv ?_
  refine xs_1 f ?_
  refine br_f (by decide) (br_f c7 ?_)
  unfold wX_receive_36
  refine xs_1 f ?_
  exact br_f (by decide) (br_t c h)
theorem xr_95 (f : ¬ fl &&& 8 = 0) (c : nI m = ct 0 ∨ nI m = ct 1) (h : wX_receive_95 Q (nI m) (nI lc) (nI ic) (nI oc) (nI L) (nI hi) (nI t.1) (nI ho) (nI s.1) (nI hu) (nI y.1) (nI hs) (nI z.1) fl dr s.2.1 st fg ie pe la rm ln lw t.2.1 s.2.2.1 y.2.1 z.2.1 ct) : wX_receive_66 Q (nI m) (nI lc) (nI ic) (nI oc) (nI L) (nI hi) (nI t.1) (nI ho) (nI s.1) (nI hu) (nI y.1) (nI hs) (nI z.1) fl dr s.2.1 st fg ie pe la rm ln lw t.2.1 s.2.2.1 y.2.1 z.2.1 ct := by
  unfold wX_receive_66
  refine xs_1 f ?_
  refine br_f (by decide) ?_
  by_cases d : nI m = ct 0
  · exact br_t d h
  · rcases c with c | c
    · exact absurd c d
    · exact br_f d (br_t c h)
theorem xr_105 (c : fl &&& 8 = 0 ∨ (¬ nI m = ct 0 ∧ ¬ nI m = ct 1)) (h : wX_receive_105 Q (nI m) (nI lc) (nI ic) (nI oc) (nI L) (nI hi) (nI t.1) (nI ho) (nI s.1) (nI hu) (nI y.1) (nI hs) (nI z.1) fl dr s.2.1 st fg ie pe la rm ln lw t.2.1 s.2.2.1 y.2.1 z.2.1 ct) : wX_receive_66 Q (nI m) (nI lc) (nI ic) (nI oc) (nI L) (nI hi) (nI t.1) (nI ho) (nI s.1) (nI hu) (nI y.1) (nI hs) (nI z.1) fl dr s.2.1 st fg ie pe la rm ln lw t.2.1 s.2.2.1 y.2.1 z.2.1 ct := by
  unfold wX_receive_66
  by_cases f : fl &&& 8 = 0
  · refine xs_0 f ?_
    exact br_t rfl h
  · rcases c with c | ⟨c0, c1⟩
    · exact absurd c f
    · refine xs_1 f ?_
      exact br_f (by decide) (br_f c0 (br_f c1 h))
end TD
end
section
section PE
/-! the law's two models as lists of codes, two bits a code -/
def pe_enc : List Nat → Nat
  | [] => 0
  | c :: cs => c + 4 * pe_enc cs
def pe_ok (k : Nat) (cs : List Nat) : Prop := ∀ c, c ∈ cs → c < k
theorem pe_okc {k c : Nat} {cs : List Nat} (h : pe_ok k (c :: cs)) : c < k ∧ pe_ok k cs := ⟨h c List.mem_cons_self, fun x hx => h x (List.mem_cons_of_mem _ hx)⟩
theorem pe_oka {k c : Nat} {cs : List Nat} (h : pe_ok k cs) (hc : c < k) : pe_ok k (cs ++ [c]) := by
  intro x hx
  rcases List.mem_append.mp hx with hx | hx
  · exact h x hx
  · rw [List.mem_singleton] at hx; omega
theorem pe_lt : ∀ cs, pe_ok 4 cs → pe_enc cs < 4 ^ cs.length := by
  intro cs
  induction cs with
  | nil => intro _; exact Nat.one_pos
  | cons c cs ih =>
    intro h
    have ⟨h1, h2⟩ := pe_okc h
    have := ih h2
    show c + 4 * pe_enc cs < 4 ^ (cs.length + 1)
    rw [Nat.pow_succ]
    omega
theorem pe_app (c : Nat) : ∀ cs, pe_enc (cs ++ [c]) = pe_enc cs + c * 4 ^ cs.length := by
  intro cs
  induction cs with
  | nil => show c + 4 * 0 = 0 + c * 1; omega
  | cons d cs ih =>
    show d + 4 * pe_enc (cs ++ [c]) = d + 4 * pe_enc cs + c * 4 ^ (cs.length + 1)
    rw [ih, Nat.pow_succ, ← Nat.mul_assoc]
    omega
theorem pe_dig : ∀ (cs : List Nat) (i : Nat), pe_ok 4 cs → i < cs.length → pe_enc cs / 4 ^ i % 4 = cs.getD i 0 := by
  intro cs
  induction cs with
  | nil => intro i _ h; exact absurd h (Nat.not_lt_zero i)
  | cons c cs ih =>
    intro i h hi
    have ⟨h1, h2⟩ := pe_okc h
    cases i with
    | zero =>
      show (c + 4 * pe_enc cs) / 1 % 4 = c
      omega
    | succ i =>
      show (c + 4 * pe_enc cs) / 4 ^ (i + 1) % 4 = cs.getD i 0
      rw [Nat.pow_succ, Nat.mul_comm (4 ^ i) 4, ← Nat.div_div_eq_div_mul, show (c + 4 * pe_enc cs) / 4 = pe_enc cs from by omega]
      exact ih i h2 (by simpa using hi)
theorem pe_take : ∀ (cs : List Nat) (n : Nat), pe_ok 4 cs → pe_enc cs % 4 ^ n = pe_enc (cs.take n) := by
  intro cs
  induction cs with
  | nil => intro n _; rw [List.take_nil]; exact Nat.zero_mod _
  | cons c cs ih =>
    intro n h
    have ⟨h1, h2⟩ := pe_okc h
    cases n with
    | zero => show (c + 4 * pe_enc cs) % 1 = 0; omega
    | succ n =>
      show (c + 4 * pe_enc cs) % 4 ^ (n + 1) = c + 4 * pe_enc (cs.take n)
      rw [← ih n h2, Nat.pow_succ, Nat.mul_comm (4 ^ n) 4, Nat.mod_mul]
      rw [show (c + 4 * pe_enc cs) % 4 = c from by omega, show (c + 4 * pe_enc cs) / 4 = pe_enc cs from by omega]
theorem pe_okt {k n : Nat} {cs : List Nat} (h : pe_ok k cs) : pe_ok k (cs.take n) := fun x hx => h x (List.mem_of_mem_take hx)
theorem pe_ok0 (k : Nat) : pe_ok k [] := fun _ hx => absurd hx List.not_mem_nil
theorem pe_okm {k l : Nat} {cs : List Nat} (h : pe_ok k cs) (hk : k ≤ l) : pe_ok l cs := fun x hx => Nat.lt_of_lt_of_le (h x hx) hk
end PE
end
section
section PL
/-! the queues as lists -/
def pe_by (c : Nat) : Int32 := if c = 0 then 97 else if c = 1 then 32 else if c = 2 then 9 else 10
def pe_us (b : TyF) : Nat → Nat → List Int32
  | 0, _ => []
  | n + 1, i => b i :: pe_us b n (i + 1)
theorem pe_usA (b : TyF) : ∀ n i, pe_us b (n + 1) i = pe_us b n i ++ [b (i + n)] := by
  intro n
  induction n with
  | zero => intro i; rfl
  | succ n ih =>
    intro i
    show b i :: pe_us b (n + 1) (i + 1) = b i :: (pe_us b n (i + 1) ++ [b (i + (n + 1))])
    rw [ih (i + 1), show i + 1 + n = i + (n + 1) by omega]
theorem pe_usE {a b : TyF} : ∀ n i, (∀ j, i ≤ j → j < i + n → a j = b j) → pe_us a n i = pe_us b n i := by
  intro n
  induction n with
  | zero => intro i _; rfl
  | succ n ih =>
    intro i h
    show a i :: pe_us a n (i + 1) = b i :: pe_us b n (i + 1)
    rw [h i (by omega) (by omega), ih (i + 1) (fun j h1 h2 => h j (by omega) (by omega))]
theorem pe_usS {a b : TyF} : ∀ n i, (∀ j, i ≤ j → j < i + n → a j = b (j + 1)) → pe_us a n i = pe_us b n (i + 1) := by
  intro n
  induction n with
  | zero => intro i _; rfl
  | succ n ih =>
    intro i h
    show a i :: pe_us a n (i + 1) = b (i + 1) :: pe_us b n (i + 1 + 1)
    rw [h i (by omega) (by omega), ih (i + 1) (fun j h1 h2 => h j (by omega) (by omega))]
theorem pe_usL (b : TyF) : ∀ n i, (pe_us b n i).length = n := by
  intro n
  induction n with
  | zero => intro i; rfl
  | succ n ih => intro i; show (pe_us b n (i + 1)).length + 1 = n + 1; rw [ih]
def pe_u (t : TyI) : List Int32 := pe_us t.2.2 t.1 0
def pe_i (t : TyI) : List Int32 := (pe_u t).filter (fun x => decide (¬ x = 256))
theorem pe_uIn (h : Nat) (x : Int32) (t : TyI) : pe_u (ty_in h x t) = pe_u t ++ [x] := by
  show pe_us (upd t.2.2 t.1 x) (t.1 + 1) 0 = pe_us t.2.2 t.1 0 ++ [x]
  rw [pe_usA, Nat.zero_add, pk_us, pe_usE (a := upd t.2.2 t.1 x) (b := t.2.2) t.1 0 (fun j _ hj => pk_un (by omega))]
theorem pe_uRm {t : TyI} (h : 0 < t.1) : pe_u t = t.2.2 0 :: pe_u (ty_rm t) := by
  obtain ⟨n, a, b⟩ := t
  obtain ⟨m, rfl⟩ : ∃ m, n = m + 1 := ⟨n - 1, by have : 0 < n := h; omega⟩
  show b 0 :: pe_us b m 1 = b 0 :: pe_us (ty_sh b (m + 1)) m 0
  rw [pe_usS (a := ty_sh b (m + 1)) (b := b) m 0 (fun j _ hj => ty_shd (by omega))]
theorem pe_u0 {t : TyI} (h : t.1 = 0) : pe_u t = [] := by
  unfold pe_u; rw [h]; rfl
theorem pe_iIn1 (h : Nat) {x : Int32} (t : TyI) (e : ¬ x = 256) : pe_i (ty_in h x t) = pe_i t ++ [x] := by
  unfold pe_i; rw [pe_uIn, List.filter_append]; simp [e]
theorem pe_iIn0 (h : Nat) (t : TyI) : pe_i (ty_in h 256 t) = pe_i t := by
  unfold pe_i; rw [pe_uIn, List.filter_append]; simp
theorem pe_iRm1 {t : TyI} (h : 0 < t.1) (e : ¬ t.2.2 0 = 256) : pe_i t = t.2.2 0 :: pe_i (ty_rm t) := by
  unfold pe_i; rw [pe_uRm h]; simp [e]
theorem pe_iRm0 {t : TyI} (h : 0 < t.1) (e : t.2.2 0 = 256) : pe_i t = pe_i (ty_rm t) := by
  unfold pe_i; rw [pe_uRm h]; simp [e]
theorem pe_pl (h : Nat) (ln : TyF) : ∀ (d k : Nat) (t : TyI), (∀ j, k ≤ j → j < k + d → ¬ ln j = 256) → pe_i (ty_pl h ln d k t) = pe_i t ++ pe_us ln d k := by
  intro d
  induction d with
  | zero => intro k t _; exact (List.append_nil _).symm
  | succ d ih =>
    intro k t hk
    show pe_i (ty_pl h ln d (k + 1) (ty_in h (ln k) t)) = pe_i t ++ (ln k :: pe_us ln d (k + 1))
    rw [ih (k + 1) _ (fun j h1 h2 => hk j (by omega) (by omega)), pe_iIn1 h t (hk k (by omega) (by omega)), List.append_assoc]
    rfl
/-- a delivery moves the input's entries to the user buffer, in order, and drops marks alone -/
theorem pe_dl {hu r : Nat} : ∀ (n c h : Nat) (t y : TyI), t.1 = n → pe_u (ty_dl hu r n c h t y).2.2.2 ++ pe_i (ty_dl hu r n c h t y).2.2.1 = pe_u y ++ pe_i t := by
  intro n
  induction n with
  | zero => intro c h t y _; rfl
  | succ n ih =>
    intro c h t y e
    have h0 : 0 < t.1 := by omega
    unfold ty_dl
    by_cases c1 : t.2.2 0 = 256
    · rw [if_pos c1]
      show pe_u y ++ pe_i (ty_rm t) = pe_u y ++ pe_i t
      rw [pe_iRm0 h0 c1]
    · rw [if_neg c1]
      have k : pe_u (ty_in hu (t.2.2 0) y) ++ pe_i (ty_rm t) = pe_u y ++ pe_i t := by
        rw [pe_uIn, pe_iRm1 h0 c1, List.append_assoc]; rfl
      by_cases c2 : c = r
      · rw [if_pos c2]
      · rw [if_neg c2]
        by_cases c3 : t.2.2 0 = 10
        · rw [if_pos c3]; exact k
        · rw [if_neg c3, ih (c + 1) ((h + 1) % 64) (ty_rm t) (ty_in hu (t.2.2 0) y) (by show t.1 - 1 = n; omega)]
          exact k
theorem pe_ck {fl pe la rm ie : Int32} {ct : TyF} {hi hu : Nat} {t y : TyI} (b : ¬ fl &&& 1 = 0) : pe_u (ty_ck fl pe la rm ie ct hi hu t y).2.2.1 ++ pe_i (ty_ck fl pe la rm ie ct hi hu t y).2.1 = pe_u y ++ pe_i t := by
  unfold ty_ck
  by_cases a : pe = 0
  · rw [if_pos a]
  · rw [if_neg a, if_neg b]
    by_cases c : ty_an t.2.2 t.1 0 = true
    · rw [if_pos c]; exact pe_dl t.1 0 hi t y rfl
    · rw [if_neg c]
end PL
end
section
section PB
/-! rows wb_, u_ and g_ are pasted from kit/laws/BITS -/
theorem wb_tb (n : Nat) : (lN n).toBitVec = BitVec.ofNat 64 n := rfl
theorem wb_inj {a b : Int64} (h : a.toBitVec = b.toBitVec) : a = b := Int64.toBitVec_inj.mp h
theorem wb_tn {n : Nat} (h : n < 2 ^ 64) : (lN n).toBitVec.toNat = n := by rw [wb_tb, BitVec.toNat_ofNat, Nat.mod_eq_of_lt h]
theorem wb_of (x : Int64) : ∃ n, n < 2 ^ 64 ∧ x = lN n := ⟨x.toBitVec.toNat, x.toBitVec.isLt, wb_inj (by rw [wb_tb]; simp)⟩
theorem wb_of32 (x : Int32) : ∃ n, n < 2 ^ 32 ∧ x = nI n := ⟨x.toBitVec.toNat, x.toBitVec.isLt, Int32.toBitVec_inj.mp (by show _ = BitVec.ofNat 32 _; simp)⟩
theorem wb_c : ∀ k, k < 64 → ((nI k).toInt64 &&& 63) = lN k := by decide +kernel
theorem wb_cu : ∀ k, k < 64 → ((nI k).toInt64.toUInt64 &&& Int64.toUInt64 63) = UInt64.ofNat k := by decide +kernel
theorem wb_sm : ∀ k, k < 64 → (BitVec.ofNat 64 k).smod 64 = BitVec.ofNat 64 k := by decide +kernel
theorem wb_pw {a b : Nat} (h : a ≤ b) : 2 ^ b = 2 ^ a * 2 ^ (b - a) := by rw [← Nat.pow_add]; congr 1; omega
theorem wb_lt2 {a b : Nat} (h : a < b) : 2 ^ a < 2 ^ b := Nat.pow_lt_pow_right (by decide) h
theorem wb_mod (n : Nat) : lN n = lN (n % 2 ^ 64) := wb_inj (by rw [wb_tb, wb_tb]; apply BitVec.eq_of_toNat_eq; rw [BitVec.toNat_ofNat, BitVec.toNat_ofNat, Nat.mod_mod])
theorem wb_shr {n k : Nat} (hn : n < 2 ^ 64) (hk : k < 64) : ((lN n).toUInt64 >>> ((nI k).toInt64.toUInt64 &&& Int64.toUInt64 63)).toInt64 = lN (n / 2 ^ k) := by
  rw [wb_cu k hk]
  apply wb_inj
  apply BitVec.eq_of_toNat_eq
  show ((lN n).toUInt64 >>> UInt64.ofNat k).toNat = (BitVec.ofNat 64 _).toNat
  have h1 : (UInt64.ofNat k).toNat = k := by
    show (BitVec.ofNat 64 k).toNat = k
    rw [BitVec.toNat_ofNat, Nat.mod_eq_of_lt (by omega)]
  have h2 : (lN n).toUInt64.toNat = n := wb_tn hn
  rw [UInt64.toNat_shiftRight, h1, h2, Nat.mod_eq_of_lt hk, Nat.shiftRight_eq_div_pow, BitVec.toNat_ofNat, Nat.mod_eq_of_lt (Nat.lt_of_le_of_lt (Nat.div_le_self _ _) hn)]
theorem wb_shl (n : Nat) {k : Nat} (hk : k < 64) : lN n <<< ((nI k).toInt64 &&& 63) = lN (n * 2 ^ k) := by
  rw [wb_c k hk]
  apply wb_inj
  rw [Int64.toBitVec_shiftLeft, wb_tb, wb_tb, wb_tb, wb_sm k hk]
  apply BitVec.eq_of_toNat_eq
  rw [BitVec.shiftLeft_eq', BitVec.toNat_shiftLeft, BitVec.toNat_ofNat, BitVec.toNat_ofNat, BitVec.toNat_ofNat, Nat.mod_eq_of_lt (show k < 2 ^ 64 by omega), Nat.shiftLeft_eq, Nat.mul_mod, Nat.mod_mod, ← Nat.mul_mod]
theorem wb_and {a b : Nat} (ha : a < 2 ^ 64) (hb : b < 2 ^ 64) : lN a &&& lN b = lN (a &&& b) := by
  apply wb_inj
  rw [Int64.toBitVec_and, wb_tb, wb_tb, wb_tb]
  apply BitVec.eq_of_toNat_eq
  rw [BitVec.toNat_and, BitVec.toNat_ofNat, BitVec.toNat_ofNat, BitVec.toNat_ofNat, Nat.mod_eq_of_lt ha, Nat.mod_eq_of_lt hb, Nat.mod_eq_of_lt (Nat.and_lt_two_pow _ hb)]
theorem wb_or {a b : Nat} (ha : a < 2 ^ 64) (hb : b < 2 ^ 64) : lN a ||| lN b = lN (a ||| b) := by
  apply wb_inj
  rw [Int64.toBitVec_or, wb_tb, wb_tb, wb_tb]
  apply BitVec.eq_of_toNat_eq
  rw [BitVec.toNat_or, BitVec.toNat_ofNat, BitVec.toNat_ofNat, BitVec.toNat_ofNat, Nat.mod_eq_of_lt ha, Nat.mod_eq_of_lt hb, Nat.mod_eq_of_lt (Nat.or_lt_two_pow ha hb)]
theorem wb_mask {n k : Nat} (hn : n < 2 ^ 64) (hk : k < 64) : lN n &&& lN (2 ^ k - 1) = lN (n % 2 ^ k) := by
  rw [wb_and hn (by have := wb_lt2 hk; omega), Nat.and_two_pow_sub_one_eq_mod]
theorem wb_a1 {n : Nat} (hn : n < 2 ^ 64) : lN n &&& 1 = lN (n % 2) := wb_mask (k := 1) hn (by decide)
theorem wb_bit {n k : Nat} (hn : n < 2 ^ 64) (hk : k < 64) : ((lN n).toUInt64 >>> ((nI k).toInt64.toUInt64 &&& Int64.toUInt64 63)).toInt64 &&& 1 = lN (n / 2 ^ k % 2) := by
  rw [wb_shr hn hk, wb_a1 (Nat.lt_of_le_of_lt (Nat.div_le_self _ _) hn)]
theorem wb_xor {q k : Nat} (hk : k < 63) (h : 2 ^ k ≤ q) (h2 : q < 2 ^ (k + 1)) : lN q ^^^ lN (2 ^ k) = lN (q - 2 ^ k) := by
  obtain ⟨r, rfl⟩ : ∃ r, q = 2 ^ k + r := ⟨q - 2 ^ k, by omega⟩
  have hr : r < 2 ^ k := by rw [Nat.pow_succ] at h2; omega
  have hx : (2 ^ k + r) ^^^ 2 ^ k = r := by
    apply Nat.eq_of_testBit_eq
    intro i
    rw [Nat.testBit_xor, Nat.testBit_two_pow]
    rcases Nat.lt_trichotomy i k with h | h | h
    · rw [Nat.testBit_two_pow_add_gt h]
      simp [show ¬ k = i by omega]
    · subst h
      rw [Nat.testBit_two_pow_add_eq]
      simp
    · have a1 : 2 ^ (k + 1) ≤ 2 ^ i := Nat.pow_le_pow_right (by decide) h
      rw [Nat.testBit_lt_two_pow (show 2 ^ k + r < 2 ^ i by omega), Nat.testBit_lt_two_pow (show r < 2 ^ i by omega)]
      simp [show ¬ k = i by omega]
  have b1 := wb_lt2 (show k + 1 < 64 by omega)
  have b2 := wb_lt2 (show k < 64 by omega)
  apply wb_inj
  rw [Int64.toBitVec_xor, wb_tb, wb_tb, wb_tb]
  apply BitVec.eq_of_toNat_eq
  rw [BitVec.toNat_xor, BitVec.toNat_ofNat, BitVec.toNat_ofNat, BitVec.toNat_ofNat, Nat.mod_eq_of_lt (by omega : 2 ^ k + r < 2 ^ 64), Nat.mod_eq_of_lt b2, hx, Nat.add_sub_cancel_left, Nat.mod_eq_of_lt (by omega)]
theorem u_tn {n : Nat} (h : n < 2 ^ 64) : (UInt64.ofNat n).toNat = n := Nat.mod_eq_of_lt h
theorem g_or {k p a b : Nat} (hp : 2 ^ k = p) (ha : a < p) (h : b * p + a < 2 ^ 64) : lN (b * p) ||| lN a = lN (b * p + a) := by
  subst hp
  have h1 : b * 2 ^ k ||| a = b * 2 ^ k + a := by rw [← Nat.shiftLeft_eq, Nat.shiftLeft_add_eq_or_of_lt ha]
  have h3 : UInt64.ofNat (b * 2 ^ k) ||| UInt64.ofNat a = UInt64.ofNat (b * 2 ^ k + a) := UInt64.toNat_inj.mp (by rw [UInt64.toNat_or, u_tn (by omega), u_tn (by omega), u_tn h, h1])
  have h2 := congrArg UInt64.toInt64 h3
  exact h2
theorem g_or' {k p a b : Nat} (hp : 2 ^ k = p) (ha : a < p) (h : a + b * p < 2 ^ 64) : lN a ||| lN (b * p) = lN (a + b * p) := by
  rw [Int64.or_comm, g_or hp ha (by omega), Nat.add_comm]
/-! the two bits of a code in the law's longs -/
theorem pb_p (n : Nat) : 2 ^ (2 * n) = 4 ^ n := by rw [Nat.pow_mul]
theorem pb_le {n : Nat} (h : n ≤ 32) : 4 ^ n ≤ 2 ^ 64 := by
  rw [← pb_p]; exact Nat.pow_le_pow_right (by decide) (by omega)
theorem pb_lt {cs : List Nat} (h : pe_ok 4 cs) (hl : cs.length ≤ 32) : pe_enc cs < 2 ^ 64 := Nat.lt_of_lt_of_le (pe_lt cs h) (pb_le hl)
theorem pb_2 (i : Nat) : 2 * nI i = nI (2 * i) := pk_mul 2 i
theorem pb_3 {n : Nat} (h : n < 2 ^ 64) : (lN n &&& 3).toInt32 = nI (n % 4) := by
  have e : lN n &&& 3 = lN (n % 4) := wb_mask (k := 2) h (by decide)
  rw [e]; exact lN_i _
theorem pb_code {cs : List Nat} {i : Nat} (h : pe_ok 4 cs) (hl : cs.length ≤ 32) (hi : i < cs.length) : (((lN (pe_enc cs)).toUInt64 >>> ((2 * nI i).toInt64.toUInt64 &&& Int64.toUInt64 63)).toInt64 &&& 3).toInt32 = nI (cs.getD i 0) := by
  rw [pb_2, wb_shr (pb_lt h hl) (by omega), pb_3 (Nat.lt_of_le_of_lt (Nat.div_le_self _ _) (pb_lt h hl)), pb_p, pe_dig cs i h hi]
theorem pb_codeAt {U : Int32 → Prop} {cs : List Nat} {i : Nat} (h : pe_ok 4 cs) (hl : cs.length ≤ 32) (hi : i < cs.length) (p : U (nI (cs.getD i 0))) : wpL_codeAt U () (lN (pe_enc cs)) (nI i) := by
  unfold wpL_codeAt; rw [pb_code h hl hi]; exact p
theorem pb_head {cs : List Nat} {c : Nat} (h : pe_ok 4 (c :: cs)) (hl : (c :: cs).length ≤ 32) : (lN (pe_enc (c :: cs)) &&& 3).toInt32 = nI c := by
  have k := (pe_okc h).1
  rw [pb_3 (pb_lt h hl)]
  show nI ((c + 4 * pe_enc cs) % 4) = nI c
  rw [show (c + 4 * pe_enc cs) % 4 = c by omega]
theorem pb_tail {cs : List Nat} {c : Nat} (h : pe_ok 4 (c :: cs)) (hl : (c :: cs).length ≤ 32) : ((lN (pe_enc (c :: cs))).toUInt64 >>> ((2 : Int32).toInt64.toUInt64 &&& Int64.toUInt64 63)).toInt64 = lN (pe_enc cs) := by
  have k := (pe_okc h).1
  have e := wb_shr (n := pe_enc (c :: cs)) (k := 2) (pb_lt h hl) (by decide)
  have f : pe_enc (c :: cs) / 2 ^ 2 = pe_enc cs := by show (c + 4 * pe_enc cs) / 4 = pe_enc cs; omega
  rw [f] at e
  exact e
theorem pb_push {cs : List Nat} {c : Nat} (h : pe_ok 4 cs) (hl : cs.length < 32) (hc : c < 4) : lN (pe_enc cs) ||| (lN c <<< ((2 * nI cs.length).toInt64 &&& 63)) = lN (pe_enc (cs ++ [c])) := by
  have k := pb_lt (pe_oka h hc) (by rw [List.length_append]; exact hl)
  rw [pe_app] at k ⊢
  rw [pb_2, wb_shl c (by omega), pb_p]
  exact g_or' (pb_p cs.length) (pe_lt cs h) k
theorem pb_keep {U : Int64 → Prop} {ds : List Nat} {n : Nat} (h : pe_ok 4 ds) (hl : ds.length ≤ 32) (hn : n ≤ 32) (p : U (lN (pe_enc (ds.take n)))) : wpL_keep U () (lN (pe_enc ds)) (nI n) := by
  refine pk_lt n 32 (fun e => ?_) (fun e => ?_)
  · have a : ((1 : Int64) <<< ((2 * nI n).toInt64 &&& 63)) - 1 = lN (2 ^ (2 * n) - 1) := by
      rw [pb_2]
      have k := wb_shl 1 (k := 2 * n) (by omega)
      rw [Nat.one_mul] at k
      have k' : (1 : Int64) <<< ((nI (2 * n)).toInt64 &&& 63) = lN (2 ^ (2 * n)) := k
      rw [k']
      exact lN_sub (b := 1) (Nat.one_le_two_pow)
    rw [a, wb_mask (pb_lt h hl) (by omega), pb_p, pe_take ds n h]
    exact p
  · obtain rfl : n = 32 := by omega
    rw [List.take_of_length_le hl] at p
    exact p
theorem pb_by {U : Int32 → Prop} {c : Nat} (hc : c < 4) (p : U (pe_by c)) : wpL_byteOf U () (nI c) := by
  unfold pe_by at p
  refine pk_eq c 0 (fun e => ?_) (fun n0 => pk_eq c 1 (fun e => ?_) (fun n1 => pk_eq c 2 (fun e => ?_) (fun n2 => ?_)))
  · rw [if_pos e] at p; exact p
  · rw [if_neg n0, if_pos e] at p; exact p
  · rw [if_neg n0, if_neg n1, if_pos e] at p; exact p
  · rw [if_neg n0, if_neg n1, if_neg n2] at p; exact p
end PB
end
section
section PM
variable {lc ic oc L hi ho hu hs m : Nat} {s : TyO} {t y z : TyI} {fl dr st fg ie pe la rm v1 : Int32} {ln lw ct : TyF} {P : St2 → Prop} {Q : Int32 → St2 → Prop} {U : Int32 → Prop}
theorem xm_take0 (h0 : y.1 = 0) (h : Q (-1) (nI lc, nI ic, nI oc, nI L, nI hi, nI t.1, nI ho, nI s.1, nI hu, nI y.1, nI hs, nI z.1, fl, dr, s.2.1, st, fg, ie, pe, la, rm, ln, lw, t.2.1, s.2.2.1, y.2.1, z.2.1, ct)) : wpX_takeByte Q (nI lc, nI ic, nI oc, nI L, nI hi, nI t.1, nI ho, nI s.1, nI hu, nI y.1, nI hs, nI z.1, fl, dr, s.2.1, st, fg, ie, pe, la, rm, ln, lw, t.2.1, s.2.2.1, y.2.1, z.2.1, ct) := br_t (by rw [h0]; rfl) h
theorem xm_take1 (p : ty_i hu y) (h0 : 0 < y.1) (h : Q (y.2.2 0) (nI lc, nI ic, nI oc, nI L, nI hi, nI t.1, nI ho, nI s.1, nI ((hu + 1) % 64), nI (ty_rm y).1, nI hs, nI z.1, fl, dr, s.2.1, st, fg, ie, pe, la, rm, ln, lw, t.2.1, s.2.2.1, (ty_rm y).2.1, z.2.1, ct)) : wpX_takeByte Q (nI lc, nI ic, nI oc, nI L, nI hi, nI t.1, nI ho, nI s.1, nI hu, nI y.1, nI hs, nI z.1, fl, dr, s.2.1, st, fg, ie, pe, la, rm, ln, lw, t.2.1, s.2.2.1, y.2.1, z.2.1, ct) := by
  have q1 := p.1
  have q2 := p.2.1
  have hd : y.2.1 (nI hu).toNatClampNeg = y.2.2 0 := by rw [nI_clamp (by omega)]; exact ty_iHd p h0
  exact br_f (nI_ne0 h0 (by omega)) ⟨vp_in_nI q1 (by omega), nm_r hd (nm_r (ty_ring1 q1) (nm_r (ty_pred h0) h))⟩
def ty_or (s : TyO) : TyO := (s.1 - 1, s.2.1, s.2.2.1, ty_sh s.2.2.2 s.1)
theorem ty_oOr (ok : ty_o oc ho s) (hn : 0 < s.1) : ty_o oc ((ho + 1) % 64) (ty_or s) := by
  have o1 := ok.1
  refine ⟨by show s.1 - 1 ≤ oc; omega, ?_⟩
  exact ty_iRm (t := (s.1, s.2.2.1, s.2.2.2)) ok.2 hn
theorem xm_trans (ok : ty_o oc ho s) (hc : oc ≤ 64) (h : ∀ (r : Int32) (ho : Nat) (s : TyO), ty_o oc ho s → Q r (nI lc, nI ic, nI oc, nI L, nI hi, nI t.1, nI ho, nI s.1, nI hu, nI y.1, nI hs, nI z.1, fl, dr, s.2.1, st, fg, ie, pe, la, rm, ln, lw, t.2.1, s.2.2.1, y.2.1, z.2.1, ct)) : wpX_transmit Q (nI lc, nI ic, nI oc, nI L, nI hi, nI t.1, nI ho, nI s.1, nI hu, nI y.1, nI hs, nI z.1, fl, dr, s.2.1, st, fg, ie, pe, la, rm, ln, lw, t.2.1, s.2.2.1, y.2.1, z.2.1, ct) := by
  have o1 := ok.1
  have q1 := ok.2.1
  by_cases a : st = 0
  · by_cases b : s.1 = 0
    · have b' : nI s.1 = 0 := by rw [b]; rfl
      exact br_t a (br_t b' (h _ ho s ok))
    · have b' : ¬ nI s.1 = 0 := nI_ne0 (by omega) (by omega)
      exact br_t a (br_f b' ⟨vp_in_nI q1 (by omega), nm_e (nm_r (ty_ring1 q1) (nm_r (ty_pred (by omega)) (h _ ((ho + 1) % 64) (ty_or s) (ty_oOr ok (by omega)))))⟩)
  · exact br_f a (h _ ho s ok)
theorem ty_b1n (oc : Nat) (s : TyO) : narrow .boolean (.int (ty_b1 oc s)) = .int (ty_b1 oc s) := by
  unfold ty_b1; split <;> rfl
theorem ty_b2n (oc : Nat) (s : TyO) : narrow .boolean (.int (ty_b2 oc s)) = .int (ty_b2 oc s) := by
  unfold ty_b2; split <;> rfl
theorem xm_write (ok : ty_o oc ho s) (hc : oc ≤ 64) (h : ∀ (r : Int32) (s : TyO), ty_o oc ho s → Q r (nI lc, nI ic, nI oc, nI L, nI hi, nI t.1, nI ho, nI s.1, nI hu, nI y.1, nI hs, nI z.1, fl, dr, s.2.1, st, fg, ie, pe, la, rm, ln, lw, t.2.1, s.2.2.1, y.2.1, z.2.1, ct)) : wpX_write Q (nI lc, nI ic, nI oc, nI L, nI hi, nI t.1, nI ho, nI s.1, nI hu, nI y.1, nI hs, nI z.1, fl, dr, s.2.1, st, fg, ie, pe, la, rm, ln, lw, t.2.1, s.2.2.1, y.2.1, z.2.1, ct) v1 := by
  obtain ⟨m, hm, hv⟩ := ty_byte v1
  refine nm_r hv (pk_eq m 10 (fun e => ?_) (fun e => ?_))
  · refine xo_2 (m := 13) (m' := 10) (by omega) (by omega) ok.2.1 ok.1 hc ?_
    exact ⟨ty_b2n oc s, h _ _ (ty_o2 ok hc)⟩
  · refine xo_1 hm ok.2.1 ok.1 hc ?_
    exact ⟨ty_b1n oc s, h _ _ (ty_o1 ok hc)⟩
theorem xm_tick (q : ty_i hi t) (p : ty_i hu y) (hp : ty_p pe rm y) (h0 : ∀ r, Q r (nI lc, nI ic, nI oc, nI L, nI hi, nI t.1, nI ho, nI s.1, nI hu, nI y.1, nI hs, nI z.1, fl, dr, s.2.1, st, fg, ie, pe, la, rm, ln, lw, t.2.1, s.2.2.1, y.2.1, z.2.1, ct)) (h1 : ∀ (r ie : Int32), Q r (nI lc, nI ic, nI oc, nI L, nI (ty_ck fl pe la rm ie ct hi hu t y).1, nI (ty_ck fl pe la rm ie ct hi hu t y).2.1.1, nI ho, nI s.1, nI hu, nI (ty_ck fl pe la rm ie ct hi hu t y).2.2.1.1, nI hs, nI z.1, fl, dr, s.2.1, st, fg, ie, (ty_ck fl pe la rm ie ct hi hu t y).2.2.2.1, (ty_ck fl pe la rm ie ct hi hu t y).2.2.2.2, rm, ln, lw, (ty_ck fl pe la rm ie ct hi hu t y).2.1.2.1, s.2.2.1, (ty_ck fl pe la rm ie ct hi hu t y).2.2.1.2.1, z.2.1, ct)) : wpX_tick Q (nI lc, nI ic, nI oc, nI L, nI hi, nI t.1, nI ho, nI s.1, nI hu, nI y.1, nI hs, nI z.1, fl, dr, s.2.1, st, fg, ie, pe, la, rm, ln, lw, t.2.1, s.2.2.1, y.2.1, z.2.1, ct) v1 := by
  by_cases a : v1 < 1
  · exact br_t a (h0 _)
  · by_cases b : v1 ≤ 1000
    · by_cases d : pe = 0
      · exact br_f a (br_t b (br_t d (h0 _)))
      · refine br_f a (br_t b (br_f d (nm_e ?_)))
        exact xc_check q p hp (h1 1 (ie + v1))
    · exact br_f a (br_f b (h0 _))
theorem xm_start (q : ty_i hi t) (p : ty_i hu y) (h0 : ∀ r, Q r (nI lc, nI ic, nI oc, nI L, nI hi, nI t.1, nI ho, nI s.1, nI hu, nI y.1, nI hs, nI z.1, fl, dr, s.2.1, st, fg, ie, pe, la, rm, ln, lw, t.2.1, s.2.2.1, y.2.1, z.2.1, ct)) (h1 : ∀ (r : Int32) (j : Nat), 1 ≤ j → y.1 + j ≤ 64 → Q r (nI lc, nI ic, nI oc, nI L, nI (ty_ck fl 1 la (nI j) 0 ct hi hu t y).1, nI (ty_ck fl 1 la (nI j) 0 ct hi hu t y).2.1.1, nI ho, nI s.1, nI hu, nI (ty_ck fl 1 la (nI j) 0 ct hi hu t y).2.2.1.1, nI hs, nI z.1, fl, dr, s.2.1, st, fg, 0, (ty_ck fl 1 la (nI j) 0 ct hi hu t y).2.2.2.1, (ty_ck fl 1 la (nI j) 0 ct hi hu t y).2.2.2.2, nI j, ln, lw, (ty_ck fl 1 la (nI j) 0 ct hi hu t y).2.1.2.1, s.2.2.1, (ty_ck fl 1 la (nI j) 0 ct hi hu t y).2.2.1.2.1, z.2.1, ct)) : wpX_startRead Q (nI lc, nI ic, nI oc, nI L, nI hi, nI t.1, nI ho, nI s.1, nI hu, nI y.1, nI hs, nI z.1, fl, dr, s.2.1, st, fg, ie, pe, la, rm, ln, lw, t.2.1, s.2.2.1, y.2.1, z.2.1, ct) v1 := by
  have p2 := p.2.1
  by_cases d : pe = 0
  · by_cases a : v1 < 1
    · exact br_t d (br_t a (h0 _))
    · by_cases b : v1 ≤ 64 - nI y.1
      · have e : (64 : Int32) - nI y.1 = nI (64 - y.1) := pk_sub (a := 64) p2
        have n0 : ¬ v1 < 0 := fun k => a (Int32.lt_trans k (by decide))
        obtain ⟨j, hj, rfl⟩ := nI_of n0
        have b2 : j ≤ 64 - y.1 := by rw [e] at b; exact (nI_leI hj (by omega)).mp b
        have a2 : 1 ≤ j := by
          refine Nat.le_of_not_lt (fun k => a ?_)
          exact nI_lt (b := 1) k (by decide)
        have hp' : ty_p 1 (nI j) y := fun _ => ⟨j, a2, by omega, rfl⟩
        refine br_t d (br_f a (br_t b ?_))
        exact xc_check q p hp' (h1 1 j a2 (by omega))
      · exact br_t d (br_f a (br_f b (h0 _)))
  · exact br_f d (h0 _)
theorem xm_27 {x2 : Int32} (q : ty_i hi t) (p : ty_i hu y) (hp : ty_p pe rm y) (h : ∀ st : Int32, P (nI lc, nI ic, nI oc, nI L, nI (ty_ck x2 pe la rm ie ct hi hu t y).1, nI (ty_ck x2 pe la rm ie ct hi hu t y).2.1.1, nI ho, nI s.1, nI hu, nI (ty_ck x2 pe la rm ie ct hi hu t y).2.2.1.1, nI hs, nI z.1, x2, dr, s.2.1, st, fg, ie, (ty_ck x2 pe la rm ie ct hi hu t y).2.2.2.1, (ty_ck x2 pe la rm ie ct hi hu t y).2.2.2.2, rm, ln, lw, (ty_ck x2 pe la rm ie ct hi hu t y).2.1.2.1, s.2.2.1, (ty_ck x2 pe la rm ie ct hi hu t y).2.2.1.2.1, z.2.1, ct)) : wX_setFlags_27 P x2 (nI lc) (nI ic) (nI oc) (nI L) (nI hi) (nI t.1) (nI ho) (nI s.1) (nI hu) (nI y.1) (nI hs) (nI z.1) fl dr s.2.1 st fg ie pe la rm ln lw t.2.1 s.2.2.1 y.2.1 z.2.1 ct := by
  by_cases c : x2 &&& 16 = 0
  · refine br_t c ?_
    exact xc_check q p hp (h 0)
  · refine br_f c ?_
    exact xc_check q p hp (h st)
theorem xm_flags (b : ¬ v1 &&& 31 &&& 1 = 0) (q : ty_i hi t) (p : ty_i hu y) (hp : ty_p pe rm y) (h : ∀ st : Int32, P (nI lc, nI ic, nI oc, nI L, nI (ty_ck (v1 &&& 31) pe la rm ie ct hi hu t y).1, nI (ty_ck (v1 &&& 31) pe la rm ie ct hi hu t y).2.1.1, nI ho, nI s.1, nI hu, nI (ty_ck (v1 &&& 31) pe la rm ie ct hi hu t y).2.2.1.1, nI hs, nI z.1, v1 &&& 31, dr, s.2.1, st, fg, ie, (ty_ck (v1 &&& 31) pe la rm ie ct hi hu t y).2.2.2.1, (ty_ck (v1 &&& 31) pe la rm ie ct hi hu t y).2.2.2.2, rm, ln, lw, (ty_ck (v1 &&& 31) pe la rm ie ct hi hu t y).2.1.2.1, s.2.2.1, (ty_ck (v1 &&& 31) pe la rm ie ct hi hu t y).2.2.1.2.1, z.2.1, ct)) : wpX_setFlags P (nI lc, nI ic, nI oc, nI L, nI hi, nI t.1, nI ho, nI s.1, nI hu, nI y.1, nI hs, nI z.1, fl, dr, s.2.1, st, fg, ie, pe, la, rm, ln, lw, t.2.1, s.2.2.1, y.2.1, z.2.1, ct) v1 := by
  refine nm_e ?_
  by_cases a : fl &&& 1 = 0
  · refine xs_0 a ?_
    refine br_t rfl ?_
    exact xm_27 q p hp h
  · refine xs_1 a ?_
    exact br_f (by decide) (br_f b (xm_27 q p hp h))
theorem xm_lineAt {j : Nat} (hj : j < L) (hL : L ≤ 32) (h : U (ln j)) : wpX_lineAt U (nI lc, nI ic, nI oc, nI L, nI hi, nI t.1, nI ho, nI s.1, nI hu, nI y.1, nI hs, nI z.1, fl, dr, s.2.1, st, fg, ie, pe, la, rm, ln, lw, t.2.1, s.2.2.1, y.2.1, z.2.1, ct) (nI j) := by
  have i : vp_in (nI j) 32 := vp_in_nI (by omega) (by omega)
  have e : ln (nI j).toNatClampNeg = ln j := by rw [nI_clamp (by omega)]
  refine br_f (nI_pos (by omega)) (pk_lt j L (fun _ => ⟨i, ?_⟩) (fun k => absurd k (by omega)))
  rw [e]; exact h
theorem xm_inputAt {j : Nat} (q : ty_i hi t) (hj : j < t.1) (h : U (t.2.2 j)) : wpX_inputAt U (nI lc, nI ic, nI oc, nI L, nI hi, nI t.1, nI ho, nI s.1, nI hu, nI y.1, nI hs, nI z.1, fl, dr, s.2.1, st, fg, ie, pe, la, rm, ln, lw, t.2.1, s.2.2.1, y.2.1, z.2.1, ct) (nI j) := by
  have q1 := q.1
  have q2 := q.2.1
  refine br_f (nI_pos (by omega)) (pk_lt j t.1 (fun _ => ⟨ty_ringI q1 (by omega), ?_⟩) (fun k => absurd k (by omega)))
  rw [ty_at q hj]; exact h
theorem xm_q0 (h : U (nI L)) : wpX_query U (nI lc, nI ic, nI oc, nI L, nI hi, nI t.1, nI ho, nI s.1, nI hu, nI y.1, nI hs, nI z.1, fl, dr, s.2.1, st, fg, ie, pe, la, rm, ln, lw, t.2.1, s.2.2.1, y.2.1, z.2.1, ct) 0 := br_f (by decide) (br_f (by decide) (br_t rfl h))
theorem xm_q1 (h : U (nI t.1)) : wpX_query U (nI lc, nI ic, nI oc, nI L, nI hi, nI t.1, nI ho, nI s.1, nI hu, nI y.1, nI hs, nI z.1, fl, dr, s.2.1, st, fg, ie, pe, la, rm, ln, lw, t.2.1, s.2.2.1, y.2.1, z.2.1, ct) 1 := br_f (by decide) (br_f (by decide) (br_f (by decide) (br_t rfl h)))
theorem xm_q3 (h : U (nI y.1)) : wpX_query U (nI lc, nI ic, nI oc, nI L, nI hi, nI t.1, nI ho, nI s.1, nI hu, nI y.1, nI hs, nI z.1, fl, dr, s.2.1, st, fg, ie, pe, la, rm, ln, lw, t.2.1, s.2.2.1, y.2.1, z.2.1, ct) 3 := br_f (by decide) (br_f (by decide) (br_f (by decide) (br_f (by decide) (br_f (by decide) (br_t rfl h)))))
theorem xm_q5 (h : U dr) : wpX_query U (nI lc, nI ic, nI oc, nI L, nI hi, nI t.1, nI ho, nI s.1, nI hu, nI y.1, nI hs, nI z.1, fl, dr, s.2.1, st, fg, ie, pe, la, rm, ln, lw, t.2.1, s.2.2.1, y.2.1, z.2.1, ct) 5 := br_f (by decide) (br_f (by decide) (br_f (by decide) (br_f (by decide) (br_f (by decide) (br_f (by decide) (br_f (by decide) (br_t rfl h)))))))
theorem ty_p0 (rm : Int32) (y : TyI) : ty_p 0 rm y := fun k => absurd rfl k
theorem ty_kdOk {n : Nat} {D : TyD} (C : ty_C lc ic oc L hi ho hu hs s t y z pe rm lw) (ok : ty_dOk hu n D) (hn : n = t.1) : ty_C lc ic oc L (ty_kd D).1 ho hu hs s (ty_kd D).2.1 (ty_kd D).2.2.1 z (ty_kd D).2.2.2.1 rm lw := by
  obtain ⟨⟨c1, c2, c3, c4, c5, c6, c7, c8⟩, o, q, p, qz, hl, hp⟩ := C
  have k := ok.2.2
  exact ⟨⟨c1, c2, c3, c4, c5, c6, c7, by show D.2.2.1.1 ≤ ic; omega⟩, o, ok.1, ok.2.1, qz, hl, ty_p0 _ _⟩
theorem ty_ckC (fl la ie : Int32) (ct : TyF) (C : ty_C lc ic oc L hi ho hu hs s t y z pe rm lw) : ty_C lc ic oc L (ty_ck fl pe la rm ie ct hi hu t y).1 ho hu hs s (ty_ck fl pe la rm ie ct hi hu t y).2.1 (ty_ck fl pe la rm ie ct hi hu t y).2.2.1 z (ty_ck fl pe la rm ie ct hi hu t y).2.2.2.1 rm lw := by
  have C' := C
  obtain ⟨⟨c1, c2, c3, c4, c5, c6, c7, c8⟩, o, q, p, qz, hl, hp⟩ := C'
  unfold ty_ck
  by_cases a : pe = 0
  · simp only [if_pos a]; exact C
  · obtain ⟨r, hr1, hr2, rfl⟩ := hp a
    simp only [if_neg a, nI_clamp (show r < 2 ^ 31 by omega)]
    have le : ty_mi r t.1 ≤ t.1 ∧ ty_mi r t.1 ≤ r := by unfold ty_mi; split <;> omega
    by_cases b : fl &&& 1 = 0
    · simp only [if_pos b]
      by_cases c : ty_du (ct 8) (ct 9) (ty_nd (ct 8) (nI r)) (nI t.1) ie = 0
      · simp only [if_pos c]; exact C
      · simp only [if_neg c]
        exact ty_kdOk C (ty_drOk _ 0 hi t y q p le.1 (by omega)).1 rfl
    · simp only [if_neg b]
      by_cases c : ty_an t.2.2 t.1 0 = true
      · simp only [if_pos c]
        exact ty_kdOk C (ty_dlOk t.1 0 hi t y rfl q p (by omega) (by omega)) rfl
      · simp only [if_neg c]; exact C
theorem ty_lLess {l : Nat} (hl : ty_l lw L) (h : l ≤ L) : ty_l lw l := fun j hj => hl j (by omega)
theorem ty_lPush {x : Int32} (hl : ty_l lw L) (hw : ∃ w : Nat, w ≤ 15 ∧ x = nI w) : ty_l (upd lw L x) (L + 1) := by
  intro j hj
  by_cases e : j = L
  · subst e; rw [pk_us]; exact hw
  · rw [pk_un e]; exact hl j (by omega)
end PM
end
section
section PI
abbrev PrJ : Type := Int64 → Int32 → Int64 → Int32 → Int32 → Int32 → Int32 → Int32 → Int32 → Int32 → Int32 → Int32 → Int32 → Int32 → Int32 → Int32 → Int32 → Int32 → Int32 → Int32 → Int32 → Int32 → Int32 → Int32 → Int32 → Int32 → Int32 → Int32 → (Nat → Int32) → (Nat → Int32) → (Nat → Int32) → (Nat → Int32) → (Nat → Int32) → (Nat → Int32) → (Nat → Int32) → Prop
variable {lc ic oc L hi ho hu hs m k p Ls kc ks : Nat} {s : TyO} {t y z : TyI} {fl dr st fg ie pe la rm v1 : Int32} {ln lw : TyF} {P : Int32 → Prop} {xs : Nat → Int32} {J : PrJ} {x3 x6 : Int64} {x5 x8 x9 x10 : Int32}
/-- the controls, which no step changes -/
def pr_ct : TyF := (upd (upd (upd (upd (upd (upd (upd (upd (upd (upd (fun _ => 0) 0 3) 1 26) 2 127) 3 23) 4 21) 5 4) 6 17) 7 19) 8 1) 9 0)
/-- the law's own models beside the state: ds the line, cs what is committed and not taken, d what was dropped -/
def pr_J (k : Nat) (x3 : Int64) (x5 : Int32) (x6 : Int64) (x8 x9 x10 : Int32) (L : Nat) (dr : Int32) (t y : TyI) (ln : TyF) : Prop :=
  ∃ (ds cs : List Nat) (d : Nat), (pe_ok 3 ds ∧ ds.length ≤ 32 ∧ x3 = lN (pe_enc ds) ∧ x5 = nI ds.length) ∧ (pe_ok 4 cs ∧ cs.length ≤ 32 ∧ x6 = lN (pe_enc cs) ∧ x8 = nI cs.length) ∧ dr = nI d ∧ d ≤ 40 * k ∧ (d = 0 → x9 = 0 ∧ x10 = 0 ∧ ds.length = L ∧ pe_us ln L 0 = ds.map pe_by ∧ pe_u y ++ pe_i t = cs.map pe_by)
theorem pr_Ju (h : pr_J k x3 x5 x6 x8 x9 x10 L dr t y ln) : pr_J (k + 1) x3 x5 x6 x8 x9 x10 L dr t y ln := by
  obtain ⟨ds, cs, d, h1, h2, h3, h4, h5⟩ := h
  exact ⟨ds, cs, d, h1, h2, h3, by omega, h5⟩
theorem pr_Jck (b : ¬ fl &&& 1 = 0) (h : pr_J k x3 x5 x6 x8 x9 x10 L dr t y ln) : pr_J k x3 x5 x6 x8 x9 x10 L dr (ty_ck fl pe la rm ie pr_ct hi hu t y).2.1 (ty_ck fl pe la rm ie pr_ct hi hu t y).2.2.1 ln := by
  obtain ⟨ds, cs, d, h1, h2, h3, h4, h5⟩ := h
  refine ⟨ds, cs, d, h1, h2, h3, h4, fun e => ?_⟩
  obtain ⟨a1, a2, a3, a4, a5⟩ := h5 e
  exact ⟨a1, a2, a3, a4, by rw [pe_ck b]; exact a5⟩
/-- what the next turn takes -/
def pr_H (k p : Nat) (J : PrJ) : Prop := ∀ (x3 : Int64) (x5 : Int32) (x6 : Int64) (x8 x9 x10 : Int32) (lc ic oc L hi ho hu hs : Nat) (s : TyO) (t y z : TyI) (fl dr st fg ie pe la rm : Int32) (ln lw : TyF), ty_C lc ic oc L hi ho hu hs s t y z pe rm lw → ic = 16 → ¬ fl &&& 1 = 0 → pr_J k x3 x5 x6 x8 x9 x10 L dr t y ln → (dr = 0 → y.1 = 0) → J x3 x5 x6 x8 x9 x10 (nI (p + 1)) (nI lc) (nI ic) (nI oc) (nI L) (nI hi) (nI t.1) (nI ho) (nI s.1) (nI hu) (nI y.1) (nI hs) (nI z.1) fl dr s.2.1 st fg ie pe la rm ln lw t.2.1 s.2.2.1 y.2.1 z.2.1 pr_ct
theorem pr_by1 (c : Nat) : ¬ pe_by c = -1 := by
  unfold pe_by
  by_cases a : c = 0
  · rw [if_pos a]; decide
  · rw [if_neg a]
    by_cases b : c = 1
    · rw [if_pos b]; decide
    · rw [if_neg b]
      by_cases e : c = 2
      · rw [if_pos e]; decide
      · rw [if_neg e]; decide
theorem pr_by2 (c : Nat) : ¬ pe_by c = 256 := by
  unfold pe_by
  by_cases a : c = 0
  · rw [if_pos a]; decide
  · rw [if_neg a]
    by_cases b : c = 1
    · rw [if_pos b]; decide
    · rw [if_neg b]
      by_cases e : c = 2
      · rw [if_pos e]; decide
      · rw [if_neg e]; decide
theorem pr_521 (H : pr_H k p J) (hk : k ≤ 1000) (hic : ic = 16) (hfl : ¬ fl &&& 1 = 0) : ∀ (n g fu hu : Nat) (y : TyI) (x6 : Int64) (x8 x9 : Int32), y.1 = n → g + n ≤ 64 → n < fu → ty_C lc ic oc L hi ho hu hs s t y z pe rm lw → pr_J k x3 x5 x6 x8 x9 x10 L dr t y ln → wL_law_521 P Ls xs J x3 x5 x10 (nI p) kc ks fu x6 x8 x9 (nI g) (nI lc) (nI ic) (nI oc) (nI L) (nI hi) (nI t.1) (nI ho) (nI s.1) (nI hu) (nI y.1) (nI hs) (nI z.1) fl dr s.2.1 st fg ie pe la rm ln lw t.2.1 s.2.2.1 y.2.1 z.2.1 pr_ct := by
  intro n
  induction n with
  | zero =>
    intro g fu hu y x6 x8 x9 hn hg hf C hJ
    obtain ⟨fu, rfl⟩ : ∃ k, fu = k + 1 := ⟨fu - 1, by omega⟩
    refine pk_le 80 g (fun e => absurd e (by omega)) (fun _ => ?_)
    refine xm_take0 hn ?_
    exact br_t rfl (nm_r (nI_1 p) (H _ _ _ _ _ _ _ _ _ _ _ _ _ _ s t y z _ _ _ _ _ _ _ _ _ _ C hic hfl hJ (fun _ => hn)))
  | succ n ih =>
    intro g fu hu y x6 x8 x9 hn hg hf C hJ
    obtain ⟨fu, rfl⟩ : ∃ k, fu = k + 1 := ⟨fu - 1, by omega⟩
    have C' := C
    obtain ⟨c, o, q, pq, qz, hl, hp⟩ := C'
    have y0 : 0 < y.1 := by omega
    have hp' : ty_p pe rm (ty_rm y) := fun e => by
      obtain ⟨r, a1, a2, a3⟩ := hp e
      exact ⟨r, a1, by show y.1 - 1 + r ≤ 64; omega, a3⟩
    have C2 : ty_C lc ic oc L hi ho ((hu + 1) % 64) hs s t (ty_rm y) z pe rm lw := ⟨c, o, q, ty_iRm pq y0, qz, hl, hp'⟩
    have n1 : (ty_rm y).1 = n := by show y.1 - 1 = n; omega
    obtain ⟨ds, cs, d, h1, ⟨o1, o2, rfl, rfl⟩, h3, h4, h5⟩ := hJ
    have bad : ∀ (x6 : Int64) (x8 x9 : Int32) (cs : List Nat), ¬ d = 0 → pe_ok 4 cs → cs.length ≤ 32 → x6 = lN (pe_enc cs) → x8 = nI cs.length → pr_J k x3 x5 x6 x8 x9 x10 L dr t (ty_rm y) ln := fun x6 x8 x9 cs dn a b e f => ⟨ds, cs, d, h1, ⟨a, b, e, f⟩, h3, h4, fun e => absurd e dn⟩
    refine pk_le 80 g (fun e => absurd e (by omega)) (fun _ => ?_)
    refine xm_take1 pq y0 ?_
    by_cases e : y.2.2 0 = -1
    · have dn : ¬ d = 0 := fun z0 => by
        have a5 := (h5 z0).2.2.2.2
        rw [pe_uRm y0, e] at a5
        cases cs with
        | nil => exact absurd a5 (by simp)
        | cons c cs => exact pr_by1 c (by have := (List.cons.inj a5).1; exact this.symm)
      exact br_t e (nm_r (nI_1 p) (H _ _ _ _ _ _ _ _ _ _ _ _ _ _ s t (ty_rm y) z _ _ _ _ _ _ _ _ _ _ C2 hic hfl (bad _ _ _ cs dn o1 o2 rfl rfl) (fun z0 => by rw [h3] at z0; exact absurd ((nI_eq (b := 0) (by omega) (by omega)).mp z0) dn)))
    · refine br_f e ?_
      cases cs with
      | nil =>
        have dn : ¬ d = 0 := fun z0 => by
          have a5 := (h5 z0).2.2.2.2
          rw [pe_uRm y0] at a5
          exact absurd a5 (by simp)
        exact br_t rfl (nm_r (nI_1 g) (ih (g + 1) fu _ (ty_rm y) _ _ 1 n1 (by omega) (by omega) C2 (bad _ _ 1 [] dn o1 o2 rfl rfl)))
      | cons c cs =>
        have oc := pe_okc o1
        have len : (c :: cs).length = cs.length + 1 := rfl
        refine br_f (nI_ne0 (by rw [len]; omega) (by omega)) ?_
        rw [pb_head o1 o2]
        refine pb_by oc.1 ?_
        by_cases e2 : y.2.2 0 = pe_by c
        · refine br_t e2 (nm_r (pb_tail o1 o2) (nm_r (pk_m1 cs.length) (nm_r (nI_1 g) (ih (g + 1) fu _ (ty_rm y) _ _ x9 n1 (by omega) (by omega) C2 ⟨ds, cs, d, h1, ⟨oc.2, by omega, rfl, rfl⟩, h3, h4, fun z0 => ?_⟩))))
          obtain ⟨a1, a2, a3, a4, a5⟩ := h5 z0
          refine ⟨a1, a2, a3, a4, ?_⟩
          rw [pe_uRm y0] at a5
          exact (List.cons.inj a5).2
        · have dn : ¬ d = 0 := fun z0 => by
            have a5 := (h5 z0).2.2.2.2
            rw [pe_uRm y0] at a5
            exact e2 (List.cons.inj a5).1
          exact br_f e2 (nm_r (pb_tail o1 o2) (nm_r (pk_m1 cs.length) (nm_r (nI_1 g) (ih (g + 1) fu _ (ty_rm y) _ _ 1 n1 (by omega) (by omega) C2 (bad _ _ 1 cs dn oc.2 (by omega) rfl rfl)))))
theorem pr_go (H : pr_H k p J) (hk : k ≤ 1000) (hic : ic = 16) (hfl : ¬ fl &&& 1 = 0) (C : ty_C lc ic oc L hi ho hu hs s t y z pe rm lw) (hJ : pr_J k x3 x5 x6 x8 x9 x10 L dr t y ln) : ∃ fu, wL_law_521 P Ls xs J x3 x5 x10 (nI p) kc ks fu x6 x8 x9 0 (nI lc) (nI ic) (nI oc) (nI L) (nI hi) (nI t.1) (nI ho) (nI s.1) (nI hu) (nI y.1) (nI hs) (nI z.1) fl dr s.2.1 st fg ie pe la rm ln lw t.2.1 s.2.2.1 y.2.1 z.2.1 pr_ct :=
  ⟨y.1 + 1, pr_521 H hk hic hfl y.1 0 (y.1 + 1) hu y x6 x8 x9 rfl (by have := C.2.2.2.1.2.1; omega) (by omega) C hJ⟩
end PI
end
section
section PF
variable {lc ic oc L hi ho hu hs m k p Ls kc ks : Nat} {s : TyO} {t y z : TyI} {fl dr st fg ie pe la rm v1 : Int32} {ln lw : TyF} {P : Int32 → Prop} {xs : Nat → Int32} {J : PrJ} {x3 x6 : Int64} {x5 x8 x9 x10 x11 : Int32}
theorem pe_usAt {b : TyF} : ∀ (n i : Nat) (ds : List Nat), pe_us b n i = ds.map pe_by → ∀ j, j < n → b (i + j) = pe_by (ds.getD j 0) := by
  intro n
  induction n with
  | zero => intro i ds _ j hj; exact absurd hj (Nat.not_lt_zero j)
  | succ n ih =>
    intro i ds h j hj
    cases ds with
    | nil => exact absurd h (by intro e; exact List.cons_ne_nil _ _ e)
    | cons c ds =>
      have a := List.cons.inj h
      cases j with
      | zero => exact a.1
      | succ j =>
        have r := ih (i + 1) ds a.2 j (by omega)
        rw [show i + (j + 1) = i + 1 + j by omega]
        exact r
theorem pe_usTk {b : TyF} : ∀ (n i m : Nat), m ≤ n → pe_us b m i = (pe_us b n i).take m := by
  intro n
  induction n with
  | zero =>
    intro i m hm
    obtain rfl : m = 0 := by omega
    rfl
  | succ n ih =>
    intro i m hm
    cases m with
    | zero => rfl
    | succ m =>
      show b i :: pe_us b m (i + 1) = b i :: (pe_us b n (i + 1)).take m
      rw [ih (i + 1) m (by omega)]
theorem pe_usTm {b : TyF} {n m : Nat} {ds : List Nat} (h : pe_us b n 0 = ds.map pe_by) (hm : m ≤ n) : pe_us b m 0 = (ds.take m).map pe_by := by
  rw [pe_usTk n 0 m hm, h, List.map_take]
/-! the law's last loops -/
theorem pr_740 {ds : List Nat} (hP : P 1) (od : pe_ok 3 ds) (hd : ds.length ≤ 32) (hL : L = ds.length) (hU : pe_us ln L 0 = ds.map pe_by) : ∀ (r j fu : Nat), j + r = L → r < fu → wL_law_740 P Ls xs (lN (pe_enc ds)) (nI L) kc ks (nI lc) (nI ic) (nI oc) (nI L) (nI hi) (nI t.1) (nI ho) (nI s.1) (nI hu) (nI y.1) (nI hs) (nI z.1) fl dr s.2.1 st fg ie pe la rm ln lw t.2.1 s.2.2.1 y.2.1 z.2.1 pr_ct fu (nI j) := by
  intro r
  induction r with
  | zero =>
    intro j fu hj hf
    obtain ⟨fu, rfl⟩ : ∃ k, fu = k + 1 := ⟨fu - 1, by omega⟩
    exact pk_le L j (fun _ => hP) (fun e => absurd e (by omega))
  | succ r ih =>
    intro j fu hj hf
    obtain ⟨fu, rfl⟩ : ∃ k, fu = k + 1 := ⟨fu - 1, by omega⟩
    refine pk_le L j (fun e => absurd e (by omega)) (fun _ => ?_)
    refine xm_lineAt (by omega) (by omega) ?_
    refine pb_codeAt (pe_okm od (by omega)) hd (by omega) ?_
    have hc : ds.getD j 0 < 4 := by
      have e : ds.getD j 0 = ds[j]'(by omega) := by rw [List.getD_eq_getElem?_getD, List.getElem?_eq_getElem (by omega)]; rfl
      rw [e]; exact Nat.lt_of_lt_of_le (od _ (List.getElem_mem _)) (by omega)
    refine pb_by hc ?_
    have e := pe_usAt L 0 ds hU j (by omega)
    rw [Nat.zero_add] at e
    exact br_t e (nm_r (nI_1 j) (ih (j + 1) fu (by omega) (by omega)))
theorem pr_649 {ds : List Nat} (hP : P 1) (q : ty_i hi t) (od : pe_ok 3 ds) (hd : ds.length ≤ 32) (hL : L = ds.length) (hU : pe_us ln L 0 = ds.map pe_by) : ∀ (r i fu : Nat) (cs : List Nat), i + r = t.1 → r < fu → pe_ok 4 cs → cs.length ≤ 32 → (pe_us t.2.2 r i).filter (fun x => decide (¬ x = 256)) = cs.map pe_by → wL_law_649 P Ls xs (lN (pe_enc ds)) (nI ds.length) (nI t.1) kc ks (nI lc) (nI ic) (nI oc) (nI L) (nI hi) (nI t.1) (nI ho) (nI s.1) (nI hu) (nI y.1) (nI hs) (nI z.1) fl dr s.2.1 st fg ie pe la rm ln lw t.2.1 s.2.2.1 y.2.1 z.2.1 pr_ct fu (lN (pe_enc cs)) (nI cs.length) (nI i) := by
  have q2 := q.2.1
  intro r
  induction r with
  | zero =>
    intro i fu cs hi' hf o1 o2 h
    obtain ⟨fu, rfl⟩ : ∃ k, fu = k + 1 := ⟨fu - 1, by omega⟩
    have e : cs = [] := by
      cases cs with
      | nil => rfl
      | cons c cs => exact absurd h (by intro e; exact List.cons_ne_nil _ _ e.symm)
    subst e
    refine pk_le t.1 i (fun _ => br_t rfl ?_) (fun e => absurd e (by omega))
    refine xm_q0 ?_
    exact br_t (by rw [hL]) ⟨L + 1, pr_740 hP od hd hL hU L 0 (L + 1) (by omega) (by omega)⟩
  | succ r ih =>
    intro i fu cs hi' hf o1 o2 h
    obtain ⟨fu, rfl⟩ : ∃ k, fu = k + 1 := ⟨fu - 1, by omega⟩
    refine pk_le t.1 i (fun e => absurd e (by omega)) (fun _ => ?_)
    refine xm_inputAt q (by omega) ?_
    have e0 : pe_us t.2.2 (r + 1) i = t.2.2 i :: pe_us t.2.2 r (i + 1) := rfl
    by_cases e : t.2.2 i = 256
    · rw [e0, List.filter_cons_of_neg (by simp [e])] at h
      exact br_t e (nm_r (nI_1 i) (ih (i + 1) fu cs (by omega) (by omega) o1 o2 h))
    · rw [e0, List.filter_cons_of_pos (by simp [e])] at h
      cases cs with
      | nil => exact absurd h (List.cons_ne_nil _ _)
      | cons c cs =>
        have a := List.cons.inj h
        have oc := pe_okc o1
        have len : (c :: cs).length = cs.length + 1 := rfl
        refine br_f e (br_f (nI_ne0 (by rw [len]; omega) (by omega)) ?_)
        rw [pb_head o1 o2]
        refine pb_by oc.1 ?_
        exact br_t a.1 (nm_r (pb_tail o1 o2) (nm_r (pk_m1 cs.length) (nm_r (nI_1 i) (ih (i + 1) fu cs (by omega) (by omega) oc.2 (by omega) a.2))))
/-- the law's answer -/
theorem pr_end {n : Nat} (hP : P 1) (hL : Ls < p) (hp : p ≤ 300) (C : ty_C lc ic oc L hi ho hu hs s t y z pe rm lw) (hJ : pr_J k x3 x5 x6 x8 x9 x10 L dr t y ln) (hk : k ≤ 1000) (hy : dr = 0 → y.1 = 0) : wL_law_60 P Ls xs kc ks (n + 1) x3 x5 x6 x8 x9 x10 (nI p) (nI lc) (nI ic) (nI oc) (nI L) (nI hi) (nI t.1) (nI ho) (nI s.1) (nI hu) (nI y.1) (nI hs) (nI z.1) fl dr s.2.1 st fg ie pe la rm ln lw t.2.1 s.2.2.1 y.2.1 z.2.1 pr_ct := by
  obtain ⟨c, o, q, pq, qz, hl, hp'⟩ := C
  obtain ⟨ds, cs, d, ⟨d1, d2, rfl, rfl⟩, ⟨o1, o2, rfl, rfl⟩, h3, h4, h5⟩ := hJ
  have q2 := q.2.1
  refine pk_lt Ls p (fun _ => ?_) (fun e => absurd e (by omega))
  refine xm_q5 ?_
  by_cases e : dr = 0
  · have d0 : d = 0 := by rw [h3] at e; exact (nI_eq (b := 0) (by omega) (by omega)).mp e
    obtain ⟨a1, a2, a3, a4, a5⟩ := h5 d0
    have y0 := hy e
    rw [pe_u0 y0, List.nil_append] at a5
    refine br_t e (br_t a2 (br_t a1 ?_))
    refine xm_q3 ?_
    refine br_t (by rw [y0]; rfl) ?_
    refine xm_q1 ?_
    refine br_f (nI_pos (by omega)) (pk_le t.1 64 (fun _ => ⟨t.1 + 1, ?_⟩) (fun k => absurd k (by omega)))
    exact pr_649 hP q d1 d2 a3.symm a4 t.1 0 (t.1 + 1) cs (by omega) (by omega) o1 o2 a5
  · exact br_f e hP
/-! the law's commit -/
theorem pr_getD {ds : List Nat} {b j : Nat} (od : pe_ok b ds) (hj : j < ds.length) : ds.getD j 0 < b ∧ ds.drop j = ds.getD j 0 :: ds.drop (j + 1) := by
  have e : ds.getD j 0 = ds[j]'hj := by rw [List.getD_eq_getElem?_getD, List.getElem?_eq_getElem hj]; rfl
  rw [e]
  exact ⟨od _ (List.getElem_mem _), List.drop_eq_getElem_cons hj⟩
theorem pr_249 {ds : List Nat} {x16 : Int32} (od : pe_ok 3 ds) (hd : ds.length ≤ 32) : ∀ (r i fu : Nat) (cs : List Nat) (x10 : Int32), i + r = ds.length → r < fu → pe_ok 4 cs → cs.length ≤ 32 → (∀ (n : Nat) (cs' : List Nat) (x10' : Int32), pe_ok 4 cs' → cs'.length ≤ 32 → (cs.length + r ≤ 32 → cs' = cs ++ ds.drop i ∧ x10' = x10) → wL_law_249 P Ls xs J (lN (pe_enc ds)) (nI ds.length) x9 x11 x16 kc ks (nI lc) (nI ic) (nI oc) (nI L) (nI hi) (nI t.1) (nI ho) (nI s.1) (nI hu) (nI y.1) (nI hs) (nI z.1) fl dr s.2.1 st fg ie pe la rm ln lw t.2.1 s.2.2.1 y.2.1 z.2.1 pr_ct (n + 1) (lN (pe_enc cs')) (nI cs'.length) x10' (nI ds.length)) → wL_law_249 P Ls xs J (lN (pe_enc ds)) (nI ds.length) x9 x11 x16 kc ks (nI lc) (nI ic) (nI oc) (nI L) (nI hi) (nI t.1) (nI ho) (nI s.1) (nI hu) (nI y.1) (nI hs) (nI z.1) fl dr s.2.1 st fg ie pe la rm ln lw t.2.1 s.2.2.1 y.2.1 z.2.1 pr_ct fu (lN (pe_enc cs)) (nI cs.length) x10 (nI i) := by
  intro r
  induction r with
  | zero =>
    intro i fu cs x10 hi' hf o1 o2 H
    obtain ⟨fu, rfl⟩ : ∃ k, fu = k + 1 := ⟨fu - 1, by omega⟩
    obtain rfl : i = ds.length := by omega
    exact H fu cs x10 o1 o2 (fun _ => ⟨by rw [List.drop_length, List.append_nil], rfl⟩)
  | succ r ih =>
    intro i fu cs x10 hi' hf o1 o2 H
    obtain ⟨fu, rfl⟩ : ∃ k, fu = k + 1 := ⟨fu - 1, by omega⟩
    have g := pr_getD od (show i < ds.length by omega)
    refine pk_le ds.length i (fun e => absurd e (by omega)) (fun _ => pk_lt cs.length 32 (fun c => ?_) (fun c => ?_))
    · refine pb_codeAt (pe_okm od (by omega)) hd (by omega) ?_
      have a : (nI (ds.getD i 0)).toInt64 = lN (ds.getD i 0) := nI_l (by omega)
      rw [a, pb_push o1 c (by omega)]
      have len : (cs ++ [ds.getD i 0]).length = cs.length + 1 := by rw [List.length_append]; rfl
      refine nm_e (nm_r (e' := nI (cs ++ [ds.getD i 0]).length) (by rw [len]; exact nI_1 _) (nm_r (nI_1 i) (ih (i + 1) fu (cs ++ [ds.getD i 0]) x10 (by omega) (by omega) (pe_oka o1 (by omega)) (by omega) (fun n cs' x10' b1 b2 b3 => H n cs' x10' b1 b2 (fun le => ?_)))))
      have r3 := b3 (by omega)
      refine ⟨?_, r3.2⟩
      rw [r3.1, g.2, List.append_assoc]
      rfl
    · exact nm_r (nI_1 i) (ih (i + 1) fu cs 1 (by omega) (by omega) o1 o2 (fun n cs' x10' b1 b2 b3 => H n cs' x10' b1 b2 (fun le => absurd le (by omega))))
end PF
end
section
section PR
variable {lc ic oc L hi ho hu hs m k p Ls kc ks n : Nat} {s : TyO} {t y z : TyI} {fl dr st fg ie pe la rm v1 : Int32} {ln lw : TyF} {P : Int32 → Prop} {xs : Nat → Int32} {J : PrJ} {x3 x6 : Int64} {x5 x8 x9 x10 x11 : Int32} {Q : Int32 → St2 → Prop} {ds cs : List Nat} {d : Nat}
/-! receive of a byte that is neither of the flow's nor a signal's -/
theorem xq_105 (hv : v1 &&& 255 = nI m) (n7 : ¬ nI m = pr_ct 7) (n6 : ¬ nI m = pr_ct 6) (n0 : ¬ nI m = pr_ct 0) (n1 : ¬ nI m = pr_ct 1) (h : wX_receive_105 Q (nI m) (nI lc) (nI ic) (nI oc) (nI L) (nI hi) (nI t.1) (nI ho) (nI s.1) (nI hu) (nI y.1) (nI hs) (nI z.1) fl dr s.2.1 st fg ie pe la rm ln lw t.2.1 s.2.2.1 y.2.1 z.2.1 pr_ct) : wpX_receive Q (nI lc, nI ic, nI oc, nI L, nI hi, nI t.1, nI ho, nI s.1, nI hu, nI y.1, nI hs, nI z.1, fl, dr, s.2.1, st, fg, ie, pe, la, rm, ln, lw, t.2.1, s.2.2.1, y.2.1, z.2.1, pr_ct) v1 :=
  xr_66 hv (Or.inr ⟨n7, n6⟩) (xr_105 (Or.inr ⟨n0, n1⟩) h)
theorem xq_er (C : ty_C lc ic oc L hi ho hu hs s t y z pe rm lw) (b : ¬ fl &&& 1 = 0) (hv : v1 &&& 255 = nI 127) (h : ∀ s : TyO, ty_o oc ho s → Q 4 (nI lc, nI ic, nI oc, nI (L - 1), nI (ty_ck fl pe la rm ie pr_ct hi hu t y).1, nI (ty_ck fl pe la rm ie pr_ct hi hu t y).2.1.1, nI ho, nI s.1, nI hu, nI (ty_ck fl pe la rm ie pr_ct hi hu t y).2.2.1.1, nI hs, nI z.1, fl, dr, s.2.1, st, fg, ie, (ty_ck fl pe la rm ie pr_ct hi hu t y).2.2.2.1, (ty_ck fl pe la rm ie pr_ct hi hu t y).2.2.2.2, rm, ln, lw, (ty_ck fl pe la rm ie pr_ct hi hu t y).2.1.2.1, s.2.2.1, (ty_ck fl pe la rm ie pr_ct hi hu t y).2.2.1.2.1, z.2.1, pr_ct)) : wpX_receive Q (nI lc, nI ic, nI oc, nI L, nI hi, nI t.1, nI ho, nI s.1, nI hu, nI y.1, nI hs, nI z.1, fl, dr, s.2.1, st, fg, ie, pe, la, rm, ln, lw, t.2.1, s.2.2.1, y.2.1, z.2.1, pr_ct) v1 := by
  obtain ⟨⟨c1, c2, c3, c4, c5, c6, c7, c8⟩, ok, q, pq, qz, hl, hp⟩ := C
  refine xq_105 hv (by decide) (by decide) (by decide) (by decide) ?_
  cases L with
  | zero =>
    refine xr_er0 b (by decide) ?_
    exact xr_128 (L := 0) q pq hp (h s ok)
  | succ l =>
    refine xr_er1 b (by decide) (by decide) hl (by omega) ok.2.1 c6 ok ?_
    exact xr_128 (L := l) q pq hp (h _ (ty_oEe (ty_oCl ok c6) c6))
theorem xq_we (C : ty_C lc ic oc L hi ho hu hs s t y z pe rm lw) (b : ¬ fl &&& 1 = 0) (hv : v1 &&& 255 = nI 23) (h : ∀ s : TyO, ty_o oc ho s → Q 4 (nI lc, nI ic, nI oc, nI (ty_ww ln (ty_wb ln L)), nI (ty_ck fl pe la rm ie pr_ct hi hu t y).1, nI (ty_ck fl pe la rm ie pr_ct hi hu t y).2.1.1, nI ho, nI s.1, nI hu, nI (ty_ck fl pe la rm ie pr_ct hi hu t y).2.2.1.1, nI hs, nI z.1, fl, dr, s.2.1, st, fg, ie, (ty_ck fl pe la rm ie pr_ct hi hu t y).2.2.2.1, (ty_ck fl pe la rm ie pr_ct hi hu t y).2.2.2.2, rm, ln, lw, (ty_ck fl pe la rm ie pr_ct hi hu t y).2.1.2.1, s.2.2.1, (ty_ck fl pe la rm ie pr_ct hi hu t y).2.2.1.2.1, z.2.1, pr_ct)) : wpX_receive Q (nI lc, nI ic, nI oc, nI L, nI hi, nI t.1, nI ho, nI s.1, nI hu, nI y.1, nI hs, nI z.1, fl, dr, s.2.1, st, fg, ie, pe, la, rm, ln, lw, t.2.1, s.2.2.1, y.2.1, z.2.1, pr_ct) v1 := by
  obtain ⟨⟨c1, c2, c3, c4, c5, c6, c7, c8⟩, ok, q, pq, qz, hl, hp⟩ := C
  refine xq_105 hv (by decide) (by decide) (by decide) (by decide) ?_
  cases L with
  | zero =>
    refine xr_we0 b (by decide) (by decide) ?_
    exact xr_128 (L := 0) q pq hp (h s ok)
  | succ l =>
    refine xr_we1 b (by decide) (by decide) (by decide) hl (by omega) ok.2.1 c6 ok ?_
    exact xr_128 (L := ty_ww ln (ty_wb ln (l + 1))) q pq hp (h _ (ty_oEe (ty_oCl ok c6) c6))
theorem xq_ki (C : ty_C lc ic oc L hi ho hu hs s t y z pe rm lw) (b : ¬ fl &&& 1 = 0) (hv : v1 &&& 255 = nI 21) (h : ∀ s : TyO, ty_o oc ho s → Q 4 (nI lc, nI ic, nI oc, nI 0, nI (ty_ck fl pe la rm ie pr_ct hi hu t y).1, nI (ty_ck fl pe la rm ie pr_ct hi hu t y).2.1.1, nI ho, nI s.1, nI hu, nI (ty_ck fl pe la rm ie pr_ct hi hu t y).2.2.1.1, nI hs, nI z.1, fl, dr, s.2.1, st, fg, ie, (ty_ck fl pe la rm ie pr_ct hi hu t y).2.2.2.1, (ty_ck fl pe la rm ie pr_ct hi hu t y).2.2.2.2, rm, ln, lw, (ty_ck fl pe la rm ie pr_ct hi hu t y).2.1.2.1, s.2.2.1, (ty_ck fl pe la rm ie pr_ct hi hu t y).2.2.1.2.1, z.2.1, pr_ct)) : wpX_receive Q (nI lc, nI ic, nI oc, nI L, nI hi, nI t.1, nI ho, nI s.1, nI hu, nI y.1, nI hs, nI z.1, fl, dr, s.2.1, st, fg, ie, pe, la, rm, ln, lw, t.2.1, s.2.2.1, y.2.1, z.2.1, pr_ct) v1 := by
  obtain ⟨⟨c1, c2, c3, c4, c5, c6, c7, c8⟩, ok, q, pq, qz, hl, hp⟩ := C
  refine xq_105 hv (by decide) (by decide) (by decide) (by decide) ?_
  cases L with
  | zero =>
    refine xr_ki0 b (by decide) (by decide) (by decide) ?_
    exact xr_128 (L := 0) q pq hp (h s ok)
  | succ l =>
    refine xr_ki1 b (by decide) (by decide) (by decide) (by decide) hl (by omega) ok.2.1 c6 ok ?_
    exact xr_128 (L := 0) q pq hp (h _ (ty_oEk (ty_oCl ok c6) c6))
theorem xq_pl (C : ty_C lc ic oc L hi ho hu hs s t y z pe rm lw) (x : Int32) (r : t.1 + L + 1 ≤ ic) : ty_C lc ic oc 0 hi ho hu hs s (ty_in hi x (ty_pl hi ln L 0 t)) y z pe rm lw := by
  obtain ⟨⟨c1, c2, c3, c4, c5, c6, c7, c8⟩, ok, q, pq, qz, hl, hp⟩ := C
  have n1 : (ty_pl hi ln L 0 t).1 = t.1 + L := ty_pl1 hi ln L 0 t
  have q' : ty_i hi (ty_in hi x (ty_pl hi ln L 0 t)) := ty_iIn _ (ty_iPl L 0 t q (by omega)) (by omega)
  exact ⟨⟨c1, c2, c3, c4, c5, c6, by omega, by show (ty_pl hi ln L 0 t).1 + 1 ≤ ic; omega⟩, ok, q', pq, qz, fun j hj => absurd hj (Nat.not_lt_zero j), hp⟩
theorem xq_ef (C : ty_C lc ic oc L hi ho hu hs s t y z pe rm lw) (b : ¬ fl &&& 1 = 0) (hv : v1 &&& 255 = nI 4) (h1 : t.1 + L + 1 ≤ ic → Q 5 (nI lc, nI ic, nI oc, nI 0, nI (ty_ck fl pe la rm ie pr_ct hi hu (ty_in hi 256 (ty_pl hi ln L 0 t)) y).1, nI (ty_ck fl pe la rm ie pr_ct hi hu (ty_in hi 256 (ty_pl hi ln L 0 t)) y).2.1.1, nI ho, nI s.1, nI hu, nI (ty_ck fl pe la rm ie pr_ct hi hu (ty_in hi 256 (ty_pl hi ln L 0 t)) y).2.2.1.1, nI hs, nI z.1, fl, dr, s.2.1, st, fg, ie, (ty_ck fl pe la rm ie pr_ct hi hu (ty_in hi 256 (ty_pl hi ln L 0 t)) y).2.2.2.1, (ty_ck fl pe la rm ie pr_ct hi hu (ty_in hi 256 (ty_pl hi ln L 0 t)) y).2.2.2.2, rm, ln, lw, (ty_ck fl pe la rm ie pr_ct hi hu (ty_in hi 256 (ty_pl hi ln L 0 t)) y).2.1.2.1, s.2.2.1, (ty_ck fl pe la rm ie pr_ct hi hu (ty_in hi 256 (ty_pl hi ln L 0 t)) y).2.2.1.2.1, z.2.1, pr_ct)) (h0 : ic < t.1 + L + 1 → Q 7 (nI lc, nI ic, nI oc, nI 0, nI (ty_ck fl pe la rm ie pr_ct hi hu t y).1, nI (ty_ck fl pe la rm ie pr_ct hi hu t y).2.1.1, nI ho, nI s.1, nI hu, nI (ty_ck fl pe la rm ie pr_ct hi hu t y).2.2.1.1, nI hs, nI z.1, fl, dr + nI L, s.2.1, st, fg, ie, (ty_ck fl pe la rm ie pr_ct hi hu t y).2.2.2.1, (ty_ck fl pe la rm ie pr_ct hi hu t y).2.2.2.2, rm, ln, lw, (ty_ck fl pe la rm ie pr_ct hi hu t y).2.1.2.1, s.2.2.1, (ty_ck fl pe la rm ie pr_ct hi hu t y).2.2.1.2.1, z.2.1, pr_ct)) : wpX_receive Q (nI lc, nI ic, nI oc, nI L, nI hi, nI t.1, nI ho, nI s.1, nI hu, nI y.1, nI hs, nI z.1, fl, dr, s.2.1, st, fg, ie, pe, la, rm, ln, lw, t.2.1, s.2.2.1, y.2.1, z.2.1, pr_ct) v1 := by
  have C0 := C
  obtain ⟨⟨c1, c2, c3, c4, c5, c6, c7, c8⟩, ok, q, pq, qz, hl, hp⟩ := C0
  refine xq_105 hv (by decide) (by decide) (by decide) (by decide) ?_
  by_cases r : t.1 + L + 1 ≤ ic
  · refine xr_ef1 b (by decide) (by decide) (by decide) (by decide) (by omega) c4 q.1 r ?_
    exact xr_128 (L := 0) (t := ty_in hi 256 (ty_pl hi ln L 0 t)) (xq_pl C 256 r).2.2.1 pq hp (h1 r)
  · refine xr_ef0 b (by decide) (by decide) (by decide) (by decide) (by omega) c4 c8 (by omega) ?_
    exact xr_128 (L := 0) q pq hp (h0 (by omega))
theorem xq_nl (C : ty_C lc ic oc L hi ho hu hs s t y z pe rm lw) (b : ¬ fl &&& 1 = 0) (hv : v1 &&& 255 = nI 10) (h1 : t.1 + L + 1 ≤ ic → ∀ s : TyO, ty_o oc ho s → Q 5 (nI lc, nI ic, nI oc, nI 0, nI (ty_ck fl pe la rm ie pr_ct hi hu (ty_in hi 10 (ty_pl hi ln L 0 t)) y).1, nI (ty_ck fl pe la rm ie pr_ct hi hu (ty_in hi 10 (ty_pl hi ln L 0 t)) y).2.1.1, nI ho, nI s.1, nI hu, nI (ty_ck fl pe la rm ie pr_ct hi hu (ty_in hi 10 (ty_pl hi ln L 0 t)) y).2.2.1.1, nI hs, nI z.1, fl, dr, s.2.1, st, fg, ie, (ty_ck fl pe la rm ie pr_ct hi hu (ty_in hi 10 (ty_pl hi ln L 0 t)) y).2.2.2.1, (ty_ck fl pe la rm ie pr_ct hi hu (ty_in hi 10 (ty_pl hi ln L 0 t)) y).2.2.2.2, rm, ln, lw, (ty_ck fl pe la rm ie pr_ct hi hu (ty_in hi 10 (ty_pl hi ln L 0 t)) y).2.1.2.1, s.2.2.1, (ty_ck fl pe la rm ie pr_ct hi hu (ty_in hi 10 (ty_pl hi ln L 0 t)) y).2.2.1.2.1, z.2.1, pr_ct)) (h0 : ic < t.1 + L + 1 → Q 7 (nI lc, nI ic, nI oc, nI 0, nI (ty_ck fl pe la rm ie pr_ct hi hu t y).1, nI (ty_ck fl pe la rm ie pr_ct hi hu t y).2.1.1, nI ho, nI s.1, nI hu, nI (ty_ck fl pe la rm ie pr_ct hi hu t y).2.2.1.1, nI hs, nI z.1, fl, dr + (nI L + 1), s.2.1, st, fg, ie, (ty_ck fl pe la rm ie pr_ct hi hu t y).2.2.2.1, (ty_ck fl pe la rm ie pr_ct hi hu t y).2.2.2.2, rm, ln, lw, (ty_ck fl pe la rm ie pr_ct hi hu t y).2.1.2.1, s.2.2.1, (ty_ck fl pe la rm ie pr_ct hi hu t y).2.2.1.2.1, z.2.1, pr_ct)) : wpX_receive Q (nI lc, nI ic, nI oc, nI L, nI hi, nI t.1, nI ho, nI s.1, nI hu, nI y.1, nI hs, nI z.1, fl, dr, s.2.1, st, fg, ie, pe, la, rm, ln, lw, t.2.1, s.2.2.1, y.2.1, z.2.1, pr_ct) v1 := by
  have C0 := C
  obtain ⟨⟨c1, c2, c3, c4, c5, c6, c7, c8⟩, ok, q, pq, qz, hl, hp⟩ := C0
  refine xq_105 hv (by decide) (by decide) (by decide) (by decide) ?_
  by_cases r : t.1 + L + 1 ≤ ic
  · refine xr_nl1 b (by decide) (by decide) (by decide) (by decide) (by decide) (by omega) c4 q.1 r ok.2.1 c6 ok ?_
    exact xr_128 (L := 0) (t := ty_in hi 10 (ty_pl hi ln L 0 t)) (xq_pl C 10 r).2.2.1 pq hp (h1 r _ (ty_oEcho ok c6))
  · refine xr_nl0 b (by decide) (by decide) (by decide) (by decide) (by decide) (by omega) c4 c8 (by omega) ?_
    exact xr_128 (L := 0) q pq hp (h0 (by omega))
theorem xq_st (C : ty_C lc ic oc L hi ho hu hs s t y z pe rm lw) (b : ¬ fl &&& 1 = 0) (hv : v1 &&& 255 = nI m) (hm : m = 97 ∨ m = 32 ∨ m = 9) (h1 : L < lc → ∀ (s : TyO) (w : Int32), ty_o oc ho s → (∃ a : Nat, a ≤ 15 ∧ w = nI a) → Q 6 (nI lc, nI ic, nI oc, nI (L + 1), nI (ty_ck fl pe la rm ie pr_ct hi hu t y).1, nI (ty_ck fl pe la rm ie pr_ct hi hu t y).2.1.1, nI ho, nI s.1, nI hu, nI (ty_ck fl pe la rm ie pr_ct hi hu t y).2.2.1.1, nI hs, nI z.1, fl, dr, s.2.1, st, fg, ie, (ty_ck fl pe la rm ie pr_ct hi hu t y).2.2.2.1, (ty_ck fl pe la rm ie pr_ct hi hu t y).2.2.2.2, rm, upd ln L (nI m), upd lw L w, (ty_ck fl pe la rm ie pr_ct hi hu t y).2.1.2.1, s.2.2.1, (ty_ck fl pe la rm ie pr_ct hi hu t y).2.2.1.2.1, z.2.1, pr_ct)) (h0 : lc ≤ L → Q 7 (nI lc, nI ic, nI oc, nI L, nI (ty_ck fl pe la rm ie pr_ct hi hu t y).1, nI (ty_ck fl pe la rm ie pr_ct hi hu t y).2.1.1, nI ho, nI s.1, nI hu, nI (ty_ck fl pe la rm ie pr_ct hi hu t y).2.2.1.1, nI hs, nI z.1, fl, dr + 1, s.2.1, st, fg, ie, (ty_ck fl pe la rm ie pr_ct hi hu t y).2.2.2.1, (ty_ck fl pe la rm ie pr_ct hi hu t y).2.2.2.2, rm, ln, lw, (ty_ck fl pe la rm ie pr_ct hi hu t y).2.1.2.1, s.2.2.1, (ty_ck fl pe la rm ie pr_ct hi hu t y).2.2.1.2.1, z.2.1, pr_ct)) : wpX_receive Q (nI lc, nI ic, nI oc, nI L, nI hi, nI t.1, nI ho, nI s.1, nI hu, nI y.1, nI hs, nI z.1, fl, dr, s.2.1, st, fg, ie, pe, la, rm, ln, lw, t.2.1, s.2.2.1, y.2.1, z.2.1, pr_ct) v1 := by
  have C0 := C
  obtain ⟨⟨c1, c2, c3, c4, c5, c6, c7, c8⟩, ok, q, pq, qz, hl, hp⟩ := C0
  have hm2 : m < 256 := by omega
  have hm10 : m ≠ 10 := by omega
  have go : wX_receive_105 Q (nI m) (nI lc) (nI ic) (nI oc) (nI L) (nI hi) (nI t.1) (nI ho) (nI s.1) (nI hu) (nI y.1) (nI hs) (nI z.1) fl dr s.2.1 st fg ie pe la rm ln lw t.2.1 s.2.2.1 y.2.1 z.2.1 pr_ct → wpX_receive Q (nI lc, nI ic, nI oc, nI L, nI hi, nI t.1, nI ho, nI s.1, nI hu, nI y.1, nI hs, nI z.1, fl, dr, s.2.1, st, fg, ie, pe, la, rm, ln, lw, t.2.1, s.2.2.1, y.2.1, z.2.1, pr_ct) v1 := fun g => by
    rcases hm with rfl | rfl | rfl <;> exact xq_105 hv (by decide) (by decide) (by decide) (by decide) g
  have d2 : ¬ nI m = pr_ct 2 := by rcases hm with rfl | rfl | rfl <;> decide
  have d3 : ¬ nI m = pr_ct 3 := by rcases hm with rfl | rfl | rfl <;> decide
  have d4 : ¬ nI m = pr_ct 4 := by rcases hm with rfl | rfl | rfl <;> decide
  have d5 : ¬ nI m = pr_ct 5 := by rcases hm with rfl | rfl | rfl <;> decide
  have d10 : ¬ nI m = 10 := by rcases hm with rfl | rfl | rfl <;> decide
  refine go ?_
  by_cases r : L < lc
  · refine xr_st1 b d2 d3 d4 d5 d10 hm2 r c2 ok.2.1 c6 ok ?_
    exact xr_128 (L := L + 1) q pq hp (h1 r _ _ (ty_oEcho ok c6) (ty_wE s hm2 hm10))
  · refine xr_st0 b d2 d3 d4 d5 d10 (by omega) (by omega) ?_
    exact xr_128 q pq hp (h0 (by omega))
/-! to the drain behind a check -/
theorem pr_goK (H : pr_H k p J) (hk : k ≤ 1000) (hic : ic = 16) (hfl : ¬ fl &&& 1 = 0) (C : ty_C lc ic oc L hi ho hu hs s t y z pe rm lw) (hJ : pr_J k x3 x5 x6 x8 x9 x10 L dr t y ln) : ∃ fu, wL_law_521 P Ls xs J x3 x5 x10 (nI p) kc ks fu x6 x8 x9 0 (nI lc) (nI ic) (nI oc) (nI L) (nI (ty_ck fl pe la rm ie pr_ct hi hu t y).1) (nI (ty_ck fl pe la rm ie pr_ct hi hu t y).2.1.1) (nI ho) (nI s.1) (nI hu) (nI (ty_ck fl pe la rm ie pr_ct hi hu t y).2.2.1.1) (nI hs) (nI z.1) fl dr s.2.1 st fg ie ((ty_ck fl pe la rm ie pr_ct hi hu t y).2.2.2.1) ((ty_ck fl pe la rm ie pr_ct hi hu t y).2.2.2.2) rm ln lw ((ty_ck fl pe la rm ie pr_ct hi hu t y).2.1.2.1) s.2.2.1 ((ty_ck fl pe la rm ie pr_ct hi hu t y).2.2.1.2.1) z.2.1 pr_ct :=
  pr_go (hi := (ty_ck fl pe la rm ie pr_ct hi hu t y).1) (t := (ty_ck fl pe la rm ie pr_ct hi hu t y).2.1) (y := (ty_ck fl pe la rm ie pr_ct hi hu t y).2.2.1) (pe := (ty_ck fl pe la rm ie pr_ct hi hu t y).2.2.2.1) (la := (ty_ck fl pe la rm ie pr_ct hi hu t y).2.2.2.2) H hk hic hfl (ty_ckC fl la ie pr_ct C) (pr_Jck hfl hJ)
/-- the line's model cut -/
theorem pr_Jtk (m L' : Nat) (h1 : pe_ok 3 ds ∧ ds.length ≤ 32) (h2 : pe_ok 4 cs ∧ cs.length ≤ 32) (h3 : dr = nI d) (h4 : d ≤ 40 * k) (h5 : d = 0 → x9 = 0 ∧ x10 = 0 ∧ ds.length = L ∧ pe_us ln L 0 = ds.map pe_by ∧ pe_u y ++ pe_i t = cs.map pe_by) (hm : m ≤ ds.length) (hL : d = 0 → L' = m) : pr_J k (lN (pe_enc (ds.take m))) (nI m) (lN (pe_enc cs)) (nI cs.length) x9 x10 L' dr t y ln := by
  have len : (ds.take m).length = m := by rw [List.length_take]; omega
  refine ⟨ds.take m, cs, d, ⟨pe_okt h1.1, by omega, rfl, by rw [len]⟩, ⟨h2.1, h2.2, rfl, rfl⟩, h3, h4, fun e => ?_⟩
  obtain ⟨a1, a2, a3, a4, a5⟩ := h5 e
  have e2 := hL e
  subst e2
  exact ⟨a1, a2, len, pe_usTm a4 (by omega), a5⟩
/-! the law's word erased -/
def pm_b (ds : List Nat) (j : Nat) : Nat := ty_ws (fun i => !(ds.getD i 0 == 0)) j
def pm_w (ds : List Nat) (j : Nat) : Nat := ty_ws (fun i => ds.getD i 0 == 0) j
theorem ty_wsE {f g : Nat → Bool} : ∀ n, (∀ j, j < n → f j = g j) → ty_ws f n = ty_ws g n := by
  intro n
  induction n with
  | zero => intro _; rfl
  | succ n ih =>
    intro h
    show (if f n = true then ty_ws f n else n + 1) = (if g n = true then ty_ws g n else n + 1)
    rw [h n (by omega), ih (fun j hj => h j (by omega))]
theorem pm_bl {c : Nat} (h : c < 3) : ty_bl (pe_by c) = !(c == 0) := by
  match c, h with
  | 0, _ => decide
  | 1, _ => decide
  | 2, _ => decide
theorem pm_eq (od : pe_ok 3 ds) (hL : ds.length = L) (h : pe_us ln L 0 = ds.map pe_by) : ty_ww ln (ty_wb ln L) = pm_w ds (pm_b ds ds.length) := by
  have hat : ∀ j, j < L → ty_bl (ln j) = !(ds.getD j 0 == 0) := fun j hj => by
    have e := pe_usAt L 0 ds h j hj
    rw [Nat.zero_add] at e
    rw [e]; exact pm_bl (pr_getD od (by omega)).1
  have e1 : ty_wb ln L = pm_b ds ds.length := by
    rw [hL]; exact ty_wsE L hat
  have le : ty_wb ln L ≤ L := ty_wble ln L
  rw [e1] at le ⊢
  refine ty_wsE _ (fun j hj => ?_)
  rw [hat j (by omega), Bool.not_not]
theorem pr_186 (od : pe_ok 3 ds) (hd : ds.length ≤ 32) : ∀ (j fu : Nat), j ≤ ds.length → j < fu → wL_law_208 P Ls xs J (lN (pe_enc ds)) (nI (pm_w ds j)) x6 x8 x9 x10 x11 kc ks (nI lc) (nI ic) (nI oc) (nI L) (nI hi) (nI t.1) (nI ho) (nI s.1) (nI hu) (nI y.1) (nI hs) (nI z.1) fl dr s.2.1 st fg ie pe la rm ln lw t.2.1 s.2.2.1 y.2.1 z.2.1 pr_ct → wL_law_186 P Ls xs J (lN (pe_enc ds)) x6 x8 x9 x10 x11 kc ks (nI lc) (nI ic) (nI oc) (nI L) (nI hi) (nI t.1) (nI ho) (nI s.1) (nI hu) (nI y.1) (nI hs) (nI z.1) fl dr s.2.1 st fg ie pe la rm ln lw t.2.1 s.2.2.1 y.2.1 z.2.1 pr_ct fu (nI j) := by
  intro j
  induction j with
  | zero =>
    intro fu hj hf h
    obtain ⟨fu, rfl⟩ : ∃ k, fu = k + 1 := ⟨fu - 1, by omega⟩
    exact pk_le 0 0 (fun _ => h) (fun e => absurd e (by omega))
  | succ j ih =>
    intro fu hj hf h
    obtain ⟨fu, rfl⟩ : ∃ k, fu = k + 1 := ⟨fu - 1, by omega⟩
    have g := (pr_getD od (show j < ds.length by omega)).1
    refine pk_le (j + 1) 0 (fun e => absurd e (by omega)) (fun _ => ?_)
    rw [nI_pred]
    refine pb_codeAt (pe_okm od (by omega)) hd (by omega) ?_
    refine pk_eq (ds.getD j 0) 0 (fun c => ?_) (fun c => ?_)
    · have e : pm_w ds (j + 1) = pm_w ds j := if_pos (by show (ds.getD j 0 == 0) = true; rw [c]; rfl)
      rw [e] at h
      exact nm_r (pk_m1 j) (ih fu (by omega) (by omega) h)
    · have e : pm_w ds (j + 1) = j + 1 := if_neg (by show ¬ (ds.getD j 0 == 0) = true; rw [beq_iff_eq]; exact c)
      rw [e] at h
      exact h
theorem pr_164 (od : pe_ok 3 ds) (hd : ds.length ≤ 32) : ∀ (j fu : Nat), j ≤ ds.length → j < fu → wL_law_208 P Ls xs J (lN (pe_enc ds)) (nI (pm_w ds (pm_b ds j))) x6 x8 x9 x10 x11 kc ks (nI lc) (nI ic) (nI oc) (nI L) (nI hi) (nI t.1) (nI ho) (nI s.1) (nI hu) (nI y.1) (nI hs) (nI z.1) fl dr s.2.1 st fg ie pe la rm ln lw t.2.1 s.2.2.1 y.2.1 z.2.1 pr_ct → wL_law_164 P Ls xs J (lN (pe_enc ds)) x6 x8 x9 x10 x11 kc ks (nI lc) (nI ic) (nI oc) (nI L) (nI hi) (nI t.1) (nI ho) (nI s.1) (nI hu) (nI y.1) (nI hs) (nI z.1) fl dr s.2.1 st fg ie pe la rm ln lw t.2.1 s.2.2.1 y.2.1 z.2.1 pr_ct fu (nI j) := by
  intro j
  induction j with
  | zero =>
    intro fu hj hf h
    obtain ⟨fu, rfl⟩ : ∃ k, fu = k + 1 := ⟨fu - 1, by omega⟩
    exact pk_le 0 0 (fun _ => ⟨1, pr_186 od hd 0 1 (by omega) (by omega) h⟩) (fun e => absurd e (by omega))
  | succ j ih =>
    intro fu hj hf h
    obtain ⟨fu, rfl⟩ : ∃ k, fu = k + 1 := ⟨fu - 1, by omega⟩
    have g := (pr_getD od (show j < ds.length by omega)).1
    refine pk_le (j + 1) 0 (fun e => absurd e (by omega)) (fun _ => ?_)
    rw [nI_pred]
    refine pb_codeAt (pe_okm od (by omega)) hd (by omega) ?_
    refine pk_eq (ds.getD j 0) 0 (fun c => ?_) (fun c => ?_)
    · have e : pm_b ds (j + 1) = j + 1 := if_neg (by show ¬ (!(ds.getD j 0 == 0)) = true; rw [c]; decide)
      rw [e] at h
      exact ⟨j + 2, pr_186 od hd (j + 1) (j + 2) (by omega) (by omega) h⟩
    · have e : pm_b ds (j + 1) = pm_b ds j := if_pos (by show (!(ds.getD j 0 == 0)) = true; rw [beq_false_of_ne c]; rfl)
      rw [e] at h
      exact nm_r (pk_m1 j) (ih fu (by omega) (by omega) h)
end PR
end
section
section PC
variable {lc ic oc L hi ho hu hs m k p Ls kc ks n : Nat} {s : TyO} {t y z : TyI} {fl dr st fg ie pe la rm v1 : Int32} {ln lw : TyF} {P : Int32 → Prop} {xs : Nat → Int32} {x3 x6 : Int64} {x5 x8 x9 x10 x11 : Int32} {ds cs : List Nat} {d : Nat}
theorem pr_v {m : Nat} (hm : m < 256) (w : Int32) : (nI m + 256 * (w &&& 3)) &&& 255 = nI m := by
  obtain ⟨j, hj, e⟩ := pk_andE w 2 (m := 3) (by decide)
  have e2 : (256 : Int32) * nI j = nI (256 * j) := pk_mul 256 j
  rw [e, e2, nI_add, pk_andN (by omega) 8 (by decide), show (m + 256 * j) % 2 ^ 8 = m by omega]
theorem pr_Jbad (ds cs : List Nat) (d L' : Nat) (x9 x10 : Int32) (dr : Int32) (t y : TyI) (ln : TyF) (h1 : pe_ok 3 ds ∧ ds.length ≤ 32) (h2 : pe_ok 4 cs ∧ cs.length ≤ 32) (h3 : dr = nI d) (h4 : d ≤ 40 * k) (dn : ¬ d = 0) : pr_J k (lN (pe_enc ds)) (nI ds.length) (lN (pe_enc cs)) (nI cs.length) x9 x10 L' dr t y ln :=
  ⟨ds, cs, d, ⟨h1.1, h1.2, rfl, rfl⟩, ⟨h2.1, h2.2, rfl, rfl⟩, h3, h4, fun e => absurd e dn⟩
theorem pr_len (h : pe_u y ++ pe_i t = cs.map pe_by) (y0 : y.1 = 0) : cs.length ≤ t.1 := by
  rw [pe_u0 y0, List.nil_append] at h
  have a : cs.length = (pe_i t).length := by rw [h, List.length_map]
  have b : (pe_i t).length ≤ (pe_u t).length := List.length_filter_le _ _
  have c : (pe_u t).length = t.1 := pe_usL _ _ _
  omega
theorem pr_sta (hP : P 1) (hLs : Ls ≤ 260) (hp : p < Ls) {a : Nat} (ha : xs (nI p).toNatClampNeg &&& 15 = nI a) (ha10 : a < 10) (H : pr_H (p + 1) p (wL_law_60 P Ls xs kc ks n)) (hic : ic = 16) (hfl : ¬ fl &&& 1 = 0) (C : ty_C lc ic oc L hi ho hu hs s t y z pe rm lw) (h1 : pe_ok 3 ds ∧ ds.length ≤ 32) (h2 : pe_ok 4 cs ∧ cs.length ≤ 32) (h3 : dr = nI d) (h4 : d ≤ 40 * p) (h5 : d = 0 → x9 = 0 ∧ x10 = 0 ∧ ds.length = L ∧ pe_us ln L 0 = ds.map pe_by ∧ pe_u y ++ pe_i t = cs.map pe_by) (hi8 : ((xs (nI p).toNatClampNeg).toUInt32 >>> ((4 : Int32).toUInt32 &&& Int32.toUInt32 31)).toInt32 &&& 7 = nI 0) : wL_law_60 P Ls xs kc ks (n + 1) (lN (pe_enc ds)) (nI ds.length) (lN (pe_enc cs)) (nI cs.length) x9 x10 (nI p) (nI lc) (nI ic) (nI oc) (nI L) (nI hi) (nI t.1) (nI ho) (nI s.1) (nI hu) (nI y.1) (nI hs) (nI z.1) fl dr s.2.1 st fg ie pe la rm ln lw t.2.1 s.2.2.1 y.2.1 z.2.1 pr_ct := by
  have C0 := C
  obtain ⟨⟨c1, c2, c3, c4, c5, c6, c7, c8⟩, ok, q, pq, qz, hl, hq⟩ := C0
  have lenA : (ds ++ [0]).length = ds.length + 1 := by rw [List.length_append]; rfl
  have okA : pe_ok 3 (ds ++ [0]) := pe_oka h1.1 (by omega)
  have eA : ds.length < 32 → lN (pe_enc ds) ||| ((nI 0).toInt64 <<< ((2 * nI ds.length).toInt64 &&& 63)) = lN (pe_enc (ds ++ [0])) := fun c => by
    rw [nI_l (by omega)]; exact pb_push (pe_okm h1.1 (by omega)) c (by omega)
  refine pk_lt Ls p (fun e => absurd e (by omega)) (fun _ => pk_le Ls p (fun e => absurd e (by omega)) (fun _ => ⟨vp_in_nI hp (by omega), nm_e (nm_r ha (nm_e (pk_le 10 a (fun e => absurd e (by omega)) (fun _ => nm_r hi8 (br_f (by decide) (br_f (by decide) (br_t rfl (?_))))))))⟩))
  refine xq_st (m := 97) C hfl (pr_v (m := 97) (by decide) _) (by omega) (fun r s w o' hw => ?_) (fun r => ?_)
  · have C' : ty_C lc ic oc (L + 1) hi ho hu hs s t y z pe rm (upd lw L w) := ⟨⟨c1, c2, c3, c4, c5, c6, r, c8⟩, o', q, pq, qz, ty_lPush hl hw, hq⟩
    refine br_f (by decide) (br_f (by decide) (br_f (by decide) (br_f (by decide) (br_f (by decide) (pk_lt ds.length 32 (fun c => nm_r (eA c) (nm_r (e' := nI (ds ++ [0]).length) (by rw [lenA]; exact nI_1 _) (pr_goK (L := L + 1) H (by omega) hic hfl C' ?_))) (fun c => pr_goK (L := L + 1) H (by omega) hic hfl C' ?_))))))
    · refine ⟨ds ++ [0], cs, d, ⟨okA, by omega, rfl, rfl⟩, ⟨h2.1, h2.2, rfl, rfl⟩, h3, by omega, fun e => ?_⟩
      obtain ⟨a1, a2, a3, a4, a5⟩ := h5 e
      refine ⟨a1, a2, by omega, ?_, a5⟩
      rw [pe_usA, Nat.zero_add, pk_us, pe_usE (a := upd ln L (nI 97)) (b := ln) L 0 (fun j _ hj => pk_un (by omega)), a4, List.map_append]
      rfl
    · exact pr_Jbad ds cs d (L + 1) x9 1 dr t y _ h1 h2 h3 (by omega) (fun e => by have := (h5 e).2.2.1; omega)
  · have e1 : dr + 1 = nI (d + 1) := by rw [h3]; exact nI_1 d
    refine br_f (by decide) (br_f (by decide) (br_f (by decide) (br_f (by decide) (br_f (by decide) (pk_lt ds.length 32 (fun c => nm_r (eA c) (nm_r (e' := nI (ds ++ [0]).length) (by rw [lenA]; exact nI_1 _) (pr_goK H (by omega) hic hfl C ?_))) (fun c => pr_goK H (by omega) hic hfl C ?_))))))
    · exact pr_Jbad (ds ++ [0]) cs (d + 1) L x9 x10 _ t y ln ⟨okA, by omega⟩ h2 e1 (by omega) (by omega)
    · exact pr_Jbad ds cs (d + 1) L x9 1 _ t y ln h1 h2 e1 (by omega) (by omega)
theorem pr_stb (hP : P 1) (hLs : Ls ≤ 260) (hp : p < Ls) {a : Nat} (ha : xs (nI p).toNatClampNeg &&& 15 = nI a) (ha10 : a < 10) (H : pr_H (p + 1) p (wL_law_60 P Ls xs kc ks n)) (hic : ic = 16) (hfl : ¬ fl &&& 1 = 0) (C : ty_C lc ic oc L hi ho hu hs s t y z pe rm lw) (h1 : pe_ok 3 ds ∧ ds.length ≤ 32) (h2 : pe_ok 4 cs ∧ cs.length ≤ 32) (h3 : dr = nI d) (h4 : d ≤ 40 * p) (h5 : d = 0 → x9 = 0 ∧ x10 = 0 ∧ ds.length = L ∧ pe_us ln L 0 = ds.map pe_by ∧ pe_u y ++ pe_i t = cs.map pe_by) (hi8 : ((xs (nI p).toNatClampNeg).toUInt32 >>> ((4 : Int32).toUInt32 &&& Int32.toUInt32 31)).toInt32 &&& 7 = nI 1) : wL_law_60 P Ls xs kc ks (n + 1) (lN (pe_enc ds)) (nI ds.length) (lN (pe_enc cs)) (nI cs.length) x9 x10 (nI p) (nI lc) (nI ic) (nI oc) (nI L) (nI hi) (nI t.1) (nI ho) (nI s.1) (nI hu) (nI y.1) (nI hs) (nI z.1) fl dr s.2.1 st fg ie pe la rm ln lw t.2.1 s.2.2.1 y.2.1 z.2.1 pr_ct := by
  have C0 := C
  obtain ⟨⟨c1, c2, c3, c4, c5, c6, c7, c8⟩, ok, q, pq, qz, hl, hq⟩ := C0
  have lenA : (ds ++ [1]).length = ds.length + 1 := by rw [List.length_append]; rfl
  have okA : pe_ok 3 (ds ++ [1]) := pe_oka h1.1 (by omega)
  have eA : ds.length < 32 → lN (pe_enc ds) ||| ((nI 1).toInt64 <<< ((2 * nI ds.length).toInt64 &&& 63)) = lN (pe_enc (ds ++ [1])) := fun c => by
    rw [nI_l (by omega)]; exact pb_push (pe_okm h1.1 (by omega)) c (by omega)
  refine pk_lt Ls p (fun e => absurd e (by omega)) (fun _ => pk_le Ls p (fun e => absurd e (by omega)) (fun _ => ⟨vp_in_nI hp (by omega), nm_e (nm_r ha (nm_e (pk_le 10 a (fun e => absurd e (by omega)) (fun _ => nm_r hi8 (br_f (by decide) (br_f (by decide) (br_f (by decide) (br_t rfl (?_)))))))))⟩))
  refine xq_st (m := 32) C hfl (pr_v (m := 32) (by decide) _) (by omega) (fun r s w o' hw => ?_) (fun r => ?_)
  · have C' : ty_C lc ic oc (L + 1) hi ho hu hs s t y z pe rm (upd lw L w) := ⟨⟨c1, c2, c3, c4, c5, c6, r, c8⟩, o', q, pq, qz, ty_lPush hl hw, hq⟩
    refine br_f (by decide) (br_f (by decide) (br_f (by decide) (br_f (by decide) (br_f (by decide) (pk_lt ds.length 32 (fun c => nm_r (eA c) (nm_r (e' := nI (ds ++ [1]).length) (by rw [lenA]; exact nI_1 _) (pr_goK (L := L + 1) H (by omega) hic hfl C' ?_))) (fun c => pr_goK (L := L + 1) H (by omega) hic hfl C' ?_))))))
    · refine ⟨ds ++ [1], cs, d, ⟨okA, by omega, rfl, rfl⟩, ⟨h2.1, h2.2, rfl, rfl⟩, h3, by omega, fun e => ?_⟩
      obtain ⟨a1, a2, a3, a4, a5⟩ := h5 e
      refine ⟨a1, a2, by omega, ?_, a5⟩
      rw [pe_usA, Nat.zero_add, pk_us, pe_usE (a := upd ln L (nI 32)) (b := ln) L 0 (fun j _ hj => pk_un (by omega)), a4, List.map_append]
      rfl
    · exact pr_Jbad ds cs d (L + 1) x9 1 dr t y _ h1 h2 h3 (by omega) (fun e => by have := (h5 e).2.2.1; omega)
  · have e1 : dr + 1 = nI (d + 1) := by rw [h3]; exact nI_1 d
    refine br_f (by decide) (br_f (by decide) (br_f (by decide) (br_f (by decide) (br_f (by decide) (pk_lt ds.length 32 (fun c => nm_r (eA c) (nm_r (e' := nI (ds ++ [1]).length) (by rw [lenA]; exact nI_1 _) (pr_goK H (by omega) hic hfl C ?_))) (fun c => pr_goK H (by omega) hic hfl C ?_))))))
    · exact pr_Jbad (ds ++ [1]) cs (d + 1) L x9 x10 _ t y ln ⟨okA, by omega⟩ h2 e1 (by omega) (by omega)
    · exact pr_Jbad ds cs (d + 1) L x9 1 _ t y ln h1 h2 e1 (by omega) (by omega)
theorem pr_stc (hP : P 1) (hLs : Ls ≤ 260) (hp : p < Ls) {a : Nat} (ha : xs (nI p).toNatClampNeg &&& 15 = nI a) (ha10 : a < 10) (H : pr_H (p + 1) p (wL_law_60 P Ls xs kc ks n)) (hic : ic = 16) (hfl : ¬ fl &&& 1 = 0) (C : ty_C lc ic oc L hi ho hu hs s t y z pe rm lw) (h1 : pe_ok 3 ds ∧ ds.length ≤ 32) (h2 : pe_ok 4 cs ∧ cs.length ≤ 32) (h3 : dr = nI d) (h4 : d ≤ 40 * p) (h5 : d = 0 → x9 = 0 ∧ x10 = 0 ∧ ds.length = L ∧ pe_us ln L 0 = ds.map pe_by ∧ pe_u y ++ pe_i t = cs.map pe_by) (hi8 : ((xs (nI p).toNatClampNeg).toUInt32 >>> ((4 : Int32).toUInt32 &&& Int32.toUInt32 31)).toInt32 &&& 7 = nI 2) : wL_law_60 P Ls xs kc ks (n + 1) (lN (pe_enc ds)) (nI ds.length) (lN (pe_enc cs)) (nI cs.length) x9 x10 (nI p) (nI lc) (nI ic) (nI oc) (nI L) (nI hi) (nI t.1) (nI ho) (nI s.1) (nI hu) (nI y.1) (nI hs) (nI z.1) fl dr s.2.1 st fg ie pe la rm ln lw t.2.1 s.2.2.1 y.2.1 z.2.1 pr_ct := by
  have C0 := C
  obtain ⟨⟨c1, c2, c3, c4, c5, c6, c7, c8⟩, ok, q, pq, qz, hl, hq⟩ := C0
  have lenA : (ds ++ [2]).length = ds.length + 1 := by rw [List.length_append]; rfl
  have okA : pe_ok 3 (ds ++ [2]) := pe_oka h1.1 (by omega)
  have eA : ds.length < 32 → lN (pe_enc ds) ||| ((nI 2).toInt64 <<< ((2 * nI ds.length).toInt64 &&& 63)) = lN (pe_enc (ds ++ [2])) := fun c => by
    rw [nI_l (by omega)]; exact pb_push (pe_okm h1.1 (by omega)) c (by omega)
  refine pk_lt Ls p (fun e => absurd e (by omega)) (fun _ => pk_le Ls p (fun e => absurd e (by omega)) (fun _ => ⟨vp_in_nI hp (by omega), nm_e (nm_r ha (nm_e (pk_le 10 a (fun e => absurd e (by omega)) (fun _ => nm_r hi8 (br_f (by decide) (br_f (by decide) (br_f (by decide) (br_f (by decide) (br_t rfl (?_))))))))))⟩))
  refine xq_st (m := 9) C hfl (pr_v (m := 9) (by decide) _) (by omega) (fun r s w o' hw => ?_) (fun r => ?_)
  · have C' : ty_C lc ic oc (L + 1) hi ho hu hs s t y z pe rm (upd lw L w) := ⟨⟨c1, c2, c3, c4, c5, c6, r, c8⟩, o', q, pq, qz, ty_lPush hl hw, hq⟩
    refine br_f (by decide) (br_f (by decide) (br_f (by decide) (br_f (by decide) (br_f (by decide) (pk_lt ds.length 32 (fun c => nm_r (eA c) (nm_r (e' := nI (ds ++ [2]).length) (by rw [lenA]; exact nI_1 _) (pr_goK (L := L + 1) H (by omega) hic hfl C' ?_))) (fun c => pr_goK (L := L + 1) H (by omega) hic hfl C' ?_))))))
    · refine ⟨ds ++ [2], cs, d, ⟨okA, by omega, rfl, rfl⟩, ⟨h2.1, h2.2, rfl, rfl⟩, h3, by omega, fun e => ?_⟩
      obtain ⟨a1, a2, a3, a4, a5⟩ := h5 e
      refine ⟨a1, a2, by omega, ?_, a5⟩
      rw [pe_usA, Nat.zero_add, pk_us, pe_usE (a := upd ln L (nI 9)) (b := ln) L 0 (fun j _ hj => pk_un (by omega)), a4, List.map_append]
      rfl
    · exact pr_Jbad ds cs d (L + 1) x9 1 dr t y _ h1 h2 h3 (by omega) (fun e => by have := (h5 e).2.2.1; omega)
  · have e1 : dr + 1 = nI (d + 1) := by rw [h3]; exact nI_1 d
    refine br_f (by decide) (br_f (by decide) (br_f (by decide) (br_f (by decide) (br_f (by decide) (pk_lt ds.length 32 (fun c => nm_r (eA c) (nm_r (e' := nI (ds ++ [2]).length) (by rw [lenA]; exact nI_1 _) (pr_goK H (by omega) hic hfl C ?_))) (fun c => pr_goK H (by omega) hic hfl C ?_))))))
    · exact pr_Jbad (ds ++ [2]) cs (d + 1) L x9 x10 _ t y ln ⟨okA, by omega⟩ h2 e1 (by omega) (by omega)
    · exact pr_Jbad ds cs (d + 1) L x9 1 _ t y ln h1 h2 e1 (by omega) (by omega)
theorem pr_er (hP : P 1) (hLs : Ls ≤ 260) (hp : p < Ls) {a : Nat} (ha : xs (nI p).toNatClampNeg &&& 15 = nI a) (ha10 : a < 10) (H : pr_H (p + 1) p (wL_law_60 P Ls xs kc ks n)) (hic : ic = 16) (hfl : ¬ fl &&& 1 = 0) (C : ty_C lc ic oc L hi ho hu hs s t y z pe rm lw) (h1 : pe_ok 3 ds ∧ ds.length ≤ 32) (h2 : pe_ok 4 cs ∧ cs.length ≤ 32) (h3 : dr = nI d) (h4 : d ≤ 40 * p) (h5 : d = 0 → x9 = 0 ∧ x10 = 0 ∧ ds.length = L ∧ pe_us ln L 0 = ds.map pe_by ∧ pe_u y ++ pe_i t = cs.map pe_by) (hi8 : ((xs (nI p).toNatClampNeg).toUInt32 >>> ((4 : Int32).toUInt32 &&& Int32.toUInt32 31)).toInt32 &&& 7 = nI 3) : wL_law_60 P Ls xs kc ks (n + 1) (lN (pe_enc ds)) (nI ds.length) (lN (pe_enc cs)) (nI cs.length) x9 x10 (nI p) (nI lc) (nI ic) (nI oc) (nI L) (nI hi) (nI t.1) (nI ho) (nI s.1) (nI hu) (nI y.1) (nI hs) (nI z.1) fl dr s.2.1 st fg ie pe la rm ln lw t.2.1 s.2.2.1 y.2.1 z.2.1 pr_ct := by
  have C0 := C
  obtain ⟨⟨c1, c2, c3, c4, c5, c6, c7, c8⟩, ok, q, pq, qz, hl, hq⟩ := C0
  refine pk_lt Ls p (fun e => absurd e (by omega)) (fun _ => pk_le Ls p (fun e => absurd e (by omega)) (fun _ => ⟨vp_in_nI hp (by omega), nm_e (nm_r ha (nm_e (pk_le 10 a (fun e => absurd e (by omega)) (fun _ => nm_r hi8 (br_f (by decide) (br_f (by decide) (br_f (by decide) (br_f (by decide) (br_f (by decide) (br_t rfl (?_)))))))))))⟩))
  refine xq_er C hfl (pr_v (m := 127) (by omega) _) (fun s o' => ?_)
  have C' : ty_C lc ic oc (L - 1) hi ho hu hs s t y z pe rm lw := ⟨⟨c1, c2, c3, c4, c5, c6, by omega, c8⟩, o', q, pq, qz, ty_lLess hl (by omega), hq⟩
  refine br_t rfl (pk_le ds.length 0 (fun e => pr_goK (L := L - 1) H (by omega) hic hfl C' ?_) (fun e => nm_r (e' := nI (ds.length - 1)) (by rw [ty_m1, ty_pred e]) ?_))
  · have g := pr_Jtk (k := p + 1) ds.length (L - 1) h1 h2 h3 (by omega) h5 (Nat.le_refl _) (fun z0 => by have := (h5 z0).2.2.1; omega)
    rw [List.take_length] at g
    exact g
  · refine pb_keep (pe_okm h1.1 (by omega)) h1.2 (by omega) ?_
    exact pr_goK (L := L - 1) H (by omega) hic hfl C' (pr_Jtk (ds.length - 1) (L - 1) h1 h2 h3 (by omega) h5 (by omega) (fun z0 => by have := (h5 z0).2.2.1; omega))
theorem pr_we (hP : P 1) (hLs : Ls ≤ 260) (hp : p < Ls) {a : Nat} (ha : xs (nI p).toNatClampNeg &&& 15 = nI a) (ha10 : a < 10) (H : pr_H (p + 1) p (wL_law_60 P Ls xs kc ks n)) (hic : ic = 16) (hfl : ¬ fl &&& 1 = 0) (C : ty_C lc ic oc L hi ho hu hs s t y z pe rm lw) (h1 : pe_ok 3 ds ∧ ds.length ≤ 32) (h2 : pe_ok 4 cs ∧ cs.length ≤ 32) (h3 : dr = nI d) (h4 : d ≤ 40 * p) (h5 : d = 0 → x9 = 0 ∧ x10 = 0 ∧ ds.length = L ∧ pe_us ln L 0 = ds.map pe_by ∧ pe_u y ++ pe_i t = cs.map pe_by) (hi8 : ((xs (nI p).toNatClampNeg).toUInt32 >>> ((4 : Int32).toUInt32 &&& Int32.toUInt32 31)).toInt32 &&& 7 = nI 4) : wL_law_60 P Ls xs kc ks (n + 1) (lN (pe_enc ds)) (nI ds.length) (lN (pe_enc cs)) (nI cs.length) x9 x10 (nI p) (nI lc) (nI ic) (nI oc) (nI L) (nI hi) (nI t.1) (nI ho) (nI s.1) (nI hu) (nI y.1) (nI hs) (nI z.1) fl dr s.2.1 st fg ie pe la rm ln lw t.2.1 s.2.2.1 y.2.1 z.2.1 pr_ct := by
  have C0 := C
  obtain ⟨⟨c1, c2, c3, c4, c5, c6, c7, c8⟩, ok, q, pq, qz, hl, hq⟩ := C0
  have le1 : ty_ww ln (ty_wb ln L) ≤ L := Nat.le_trans (ty_wwle _ _) (ty_wble _ _)
  have le2 : pm_w ds (pm_b ds ds.length) ≤ ds.length := Nat.le_trans (ty_wsle _ _) (ty_wsle _ _)
  refine pk_lt Ls p (fun e => absurd e (by omega)) (fun _ => pk_le Ls p (fun e => absurd e (by omega)) (fun _ => ⟨vp_in_nI hp (by omega), nm_e (nm_r ha (nm_e (pk_le 10 a (fun e => absurd e (by omega)) (fun _ => nm_r hi8 (br_f (by decide) (br_f (by decide) (br_f (by decide) (br_f (by decide) (br_f (by decide) (br_f (by decide) (br_t rfl (?_))))))))))))⟩))
  refine xq_we C hfl (pr_v (m := 23) (by omega) _) (fun s o' => ?_)
  have C' : ty_C lc ic oc (ty_ww ln (ty_wb ln L)) hi ho hu hs s t y z pe rm lw := ⟨⟨c1, c2, c3, c4, c5, c6, by omega, c8⟩, o', q, pq, qz, ty_lLess hl le1, hq⟩
  refine br_f (by decide) (br_t rfl ⟨ds.length + 1, pr_164 h1.1 h1.2 ds.length (ds.length + 1) (Nat.le_refl _) (by omega) ?_⟩)
  refine pb_keep (pe_okm h1.1 (by omega)) h1.2 (by omega) ?_
  exact pr_goK (L := ty_ww ln (ty_wb ln L)) H (by omega) hic hfl C' (pr_Jtk _ _ h1 h2 h3 (by omega) h5 le2 (fun z0 => pm_eq h1.1 (h5 z0).2.2.1 (h5 z0).2.2.2.1))
theorem pr_ki (hP : P 1) (hLs : Ls ≤ 260) (hp : p < Ls) {a : Nat} (ha : xs (nI p).toNatClampNeg &&& 15 = nI a) (ha10 : a < 10) (H : pr_H (p + 1) p (wL_law_60 P Ls xs kc ks n)) (hic : ic = 16) (hfl : ¬ fl &&& 1 = 0) (C : ty_C lc ic oc L hi ho hu hs s t y z pe rm lw) (h1 : pe_ok 3 ds ∧ ds.length ≤ 32) (h2 : pe_ok 4 cs ∧ cs.length ≤ 32) (h3 : dr = nI d) (h4 : d ≤ 40 * p) (h5 : d = 0 → x9 = 0 ∧ x10 = 0 ∧ ds.length = L ∧ pe_us ln L 0 = ds.map pe_by ∧ pe_u y ++ pe_i t = cs.map pe_by) (hi8 : ((xs (nI p).toNatClampNeg).toUInt32 >>> ((4 : Int32).toUInt32 &&& Int32.toUInt32 31)).toInt32 &&& 7 = nI 5) : wL_law_60 P Ls xs kc ks (n + 1) (lN (pe_enc ds)) (nI ds.length) (lN (pe_enc cs)) (nI cs.length) x9 x10 (nI p) (nI lc) (nI ic) (nI oc) (nI L) (nI hi) (nI t.1) (nI ho) (nI s.1) (nI hu) (nI y.1) (nI hs) (nI z.1) fl dr s.2.1 st fg ie pe la rm ln lw t.2.1 s.2.2.1 y.2.1 z.2.1 pr_ct := by
  have C0 := C
  obtain ⟨⟨c1, c2, c3, c4, c5, c6, c7, c8⟩, ok, q, pq, qz, hl, hq⟩ := C0
  refine pk_lt Ls p (fun e => absurd e (by omega)) (fun _ => pk_le Ls p (fun e => absurd e (by omega)) (fun _ => ⟨vp_in_nI hp (by omega), nm_e (nm_r ha (nm_e (pk_le 10 a (fun e => absurd e (by omega)) (fun _ => nm_r hi8 (br_f (by decide) (br_f (by decide) (br_f (by decide) (br_f (by decide) (br_f (by decide) (br_f (by decide) (br_f (by decide) (br_t rfl (?_)))))))))))))⟩))
  refine xq_ki C hfl (pr_v (m := 21) (by omega) _) (fun s o' => ?_)
  have C' : ty_C lc ic oc 0 hi ho hu hs s t y z pe rm lw := ⟨⟨c1, c2, c3, c4, c5, c6, by omega, c8⟩, o', q, pq, qz, ty_lLess hl (by omega), hq⟩
  have g : pr_J (p + 1) 0 0 (lN (pe_enc cs)) (nI cs.length) x9 x10 0 dr t y ln := pr_Jtk 0 0 h1 h2 h3 (by omega) h5 (by omega) (fun _ => rfl)
  exact br_f (by decide) (br_f (by decide) (br_t rfl (pr_goK (L := 0) H (by omega) hic hfl C' g)))
/-- the line's model taken away, the commit's put on -/
theorem pr_Jc (cs' : List Nat) (x10 dr : Int32) (d : Nat) (t : TyI) (b1 : pe_ok 4 cs') (b2 : cs'.length ≤ 32) (h3 : dr = nI d) (h4 : d ≤ 40 * k) (h5 : d = 0 → x9 = 0 ∧ x10 = 0 ∧ pe_u y ++ pe_i t = cs'.map pe_by) : pr_J k 0 0 (lN (pe_enc cs')) (nI cs'.length) x9 x10 0 dr t y ln :=
  ⟨[], cs', d, ⟨pe_ok0 3, Nat.zero_le _, rfl, rfl⟩, ⟨b1, b2, rfl, rfl⟩, h3, h4, fun e => ⟨(h5 e).1, (h5 e).2.1, rfl, rfl, (h5 e).2.2⟩⟩
theorem pr_pli (x : Int32) (a4 : pe_us ln L 0 = ds.map pe_by) : pe_i (ty_pl hi ln L 0 t) = pe_i t ++ ds.map pe_by := by
  rw [pe_pl hi ln L 0 t (fun j _ hj => ?_), a4]
  have e := pe_usAt L 0 ds a4 j (by omega)
  rw [Nat.zero_add] at e
  rw [e]; exact pr_by2 _
theorem pr_ef (hP : P 1) (hLs : Ls ≤ 260) (hp : p < Ls) {a : Nat} (ha : xs (nI p).toNatClampNeg &&& 15 = nI a) (ha10 : a < 10) (H : pr_H (p + 1) p (wL_law_60 P Ls xs kc ks n)) (hic : ic = 16) (hfl : ¬ fl &&& 1 = 0) (C : ty_C lc ic oc L hi ho hu hs s t y z pe rm lw) (h1 : pe_ok 3 ds ∧ ds.length ≤ 32) (h2 : pe_ok 4 cs ∧ cs.length ≤ 32) (h3 : dr = nI d) (h4 : d ≤ 40 * p) (h5 : d = 0 → x9 = 0 ∧ x10 = 0 ∧ ds.length = L ∧ pe_us ln L 0 = ds.map pe_by ∧ pe_u y ++ pe_i t = cs.map pe_by) (hy : dr = 0 → y.1 = 0) (hi8 : ((xs (nI p).toNatClampNeg).toUInt32 >>> ((4 : Int32).toUInt32 &&& Int32.toUInt32 31)).toInt32 &&& 7 = nI 6) : wL_law_60 P Ls xs kc ks (n + 1) (lN (pe_enc ds)) (nI ds.length) (lN (pe_enc cs)) (nI cs.length) x9 x10 (nI p) (nI lc) (nI ic) (nI oc) (nI L) (nI hi) (nI t.1) (nI ho) (nI s.1) (nI hu) (nI y.1) (nI hs) (nI z.1) fl dr s.2.1 st fg ie pe la rm ln lw t.2.1 s.2.2.1 y.2.1 z.2.1 pr_ct := by
  have C0 := C
  obtain ⟨⟨c1, c2, c3, c4, c5, c6, c7, c8⟩, ok, q, pq, qz, hl, hq⟩ := C0
  have hl0 : ty_l lw 0 := fun j hj => absurd hj (Nat.not_lt_zero j)
  refine pk_lt Ls p (fun e => absurd e (by omega)) (fun _ => pk_le Ls p (fun e => absurd e (by omega)) (fun _ => ⟨vp_in_nI hp (by omega), nm_e (nm_r ha (nm_e (pk_le 10 a (fun e => absurd e (by omega)) (fun _ => nm_r hi8 (br_f (by decide) (br_f (by decide) (br_f (by decide) (br_f (by decide) (br_f (by decide) (br_f (by decide) (br_f (by decide) (br_f (by decide) (br_t rfl (?_))))))))))))))⟩))
  refine xq_ef C hfl (pr_v (m := 4) (by omega) _) (fun r => ?_) (fun r => ?_)
  · refine br_f (by decide) (br_f (by decide) (br_f (by decide) (br_t rfl ⟨ds.length + 1, ?_⟩)))
    refine pr_249 h1.1 h1.2 ds.length 0 (ds.length + 1) cs x10 (by omega) (by omega) h2.1 h2.2 (fun n' cs' x10' b1 b2 b3 => ?_)
    refine pk_le ds.length ds.length (fun _ => br_f (by decide) ?_) (fun e => absurd e (by omega))
    refine pr_goK (L := 0) H (by omega) hic hfl (xq_pl (ln := ln) C 256 r) (pr_Jc cs' x10' dr d _ b1 b2 h3 (by omega) (fun e => ?_))
    obtain ⟨a1, a2, a3, a4, a5⟩ := h5 e
    have y0 : y.1 = 0 := hy (by rw [h3, e]; rfl)
    have le := pr_len a5 y0
    obtain ⟨f1, f2⟩ := b3 (by omega)
    rw [List.drop_zero] at f1
    refine ⟨a1, f2.trans a2, ?_⟩
    rw [pe_iIn0, pr_pli 0 a4, f1, List.map_append, ← a5, List.append_assoc]
  · have e1 : dr + nI L = nI (d + L) := by rw [h3]; exact nI_add d L
    have C' : ty_C lc ic oc 0 hi ho hu hs s t y z pe rm lw := ⟨⟨c1, c2, c3, c4, c5, c6, by omega, c8⟩, ok, q, pq, qz, hl0, hq⟩
    refine br_f (by decide) (br_f (by decide) (br_f (by decide) (br_t rfl ⟨ds.length + 1, ?_⟩)))
    refine pr_249 h1.1 h1.2 ds.length 0 (ds.length + 1) cs x10 (by omega) (by omega) h2.1 h2.2 (fun n' cs' x10' b1 b2 b3 => ?_)
    refine pk_le ds.length ds.length (fun _ => br_f (by decide) ?_) (fun e => absurd e (by omega))
    refine pr_goK (L := 0) H (by omega) hic hfl C' (pr_Jc cs' x10' _ (d + L) _ b1 b2 e1 (by omega) (fun e => ?_))
    obtain ⟨a1, a2, a3, a4, a5⟩ := h5 (by omega)
    have l0 : ds = [] := List.length_eq_zero_iff.mp (by omega)
    subst l0
    obtain ⟨f1, f2⟩ := b3 (by have := h2.2; exact this)
    refine ⟨a1, f2.trans a2, ?_⟩
    rw [f1, a5]
    simp
theorem pr_nl (hP : P 1) (hLs : Ls ≤ 260) (hp : p < Ls) {a : Nat} (ha : xs (nI p).toNatClampNeg &&& 15 = nI a) (ha10 : a < 10) (H : pr_H (p + 1) p (wL_law_60 P Ls xs kc ks n)) (hic : ic = 16) (hfl : ¬ fl &&& 1 = 0) (C : ty_C lc ic oc L hi ho hu hs s t y z pe rm lw) (h1 : pe_ok 3 ds ∧ ds.length ≤ 32) (h2 : pe_ok 4 cs ∧ cs.length ≤ 32) (h3 : dr = nI d) (h4 : d ≤ 40 * p) (h5 : d = 0 → x9 = 0 ∧ x10 = 0 ∧ ds.length = L ∧ pe_us ln L 0 = ds.map pe_by ∧ pe_u y ++ pe_i t = cs.map pe_by) (hy : dr = 0 → y.1 = 0) (hi8 : ((xs (nI p).toNatClampNeg).toUInt32 >>> ((4 : Int32).toUInt32 &&& Int32.toUInt32 31)).toInt32 &&& 7 = nI 7) : wL_law_60 P Ls xs kc ks (n + 1) (lN (pe_enc ds)) (nI ds.length) (lN (pe_enc cs)) (nI cs.length) x9 x10 (nI p) (nI lc) (nI ic) (nI oc) (nI L) (nI hi) (nI t.1) (nI ho) (nI s.1) (nI hu) (nI y.1) (nI hs) (nI z.1) fl dr s.2.1 st fg ie pe la rm ln lw t.2.1 s.2.2.1 y.2.1 z.2.1 pr_ct := by
  have C0 := C
  obtain ⟨⟨c1, c2, c3, c4, c5, c6, c7, c8⟩, ok, q, pq, qz, hl, hq⟩ := C0
  have hl0 : ty_l lw 0 := fun j hj => absurd hj (Nat.not_lt_zero j)
  have push : ∀ cs' : List Nat, pe_ok 4 cs' → cs'.length < 32 → lN (pe_enc cs') ||| ((3 : Int64) <<< ((2 * nI cs'.length).toInt64 &&& 63)) = lN (pe_enc (cs' ++ [3])) := fun cs' a b => pb_push (c := 3) a b (by decide)
  have lenA : ∀ cs' : List Nat, (cs' ++ [3]).length = cs'.length + 1 := fun cs' => by rw [List.length_append]; rfl
  refine pk_lt Ls p (fun e => absurd e (by omega)) (fun _ => pk_le Ls p (fun e => absurd e (by omega)) (fun _ => ⟨vp_in_nI hp (by omega), nm_e (nm_r ha (nm_e (pk_le 10 a (fun e => absurd e (by omega)) (fun _ => nm_r hi8 (br_f (by decide) (br_t (by decide) (?_)))))))⟩))
  refine xq_nl C hfl (pr_v (m := 10) (by omega) _) (fun r s o' => ?_) (fun r => ?_)
  · have C1 : ty_C lc ic oc 0 hi ho hu hs s (ty_in hi 10 (ty_pl hi ln L 0 t)) y z pe rm lw := by
      obtain ⟨g1, g2, g3⟩ := xq_pl (ln := ln) C 10 r
      exact ⟨g1, o', g3⟩
    refine br_f (by decide) (br_f (by decide) (br_f (by decide) (br_f (by decide) (br_t rfl ⟨ds.length + 1, ?_⟩))))
    refine pr_249 h1.1 h1.2 ds.length 0 (ds.length + 1) cs x10 (by omega) (by omega) h2.1 h2.2 (fun n' cs' x10' b1 b2 b3 => ?_)
    have fit : d = 0 → cs' = cs ++ ds ∧ x10' = x10 ∧ cs'.length < 32 := fun e => by
      obtain ⟨a1, a2, a3, a4, a5⟩ := h5 e
      have y0 : y.1 = 0 := hy (by rw [h3, e]; rfl)
      have le := pr_len a5 y0
      obtain ⟨f1, f2⟩ := b3 (by omega)
      rw [List.drop_zero] at f1
      exact ⟨f1, f2, by rw [f1, List.length_append]; omega⟩
    refine pk_le ds.length ds.length (fun _ => br_t rfl (pk_lt cs'.length 32 (fun c => nm_r (push cs' b1 c) (nm_r (e' := nI (cs' ++ [3]).length) (by rw [lenA]; exact nI_1 _) ?_)) (fun c => ?_))) (fun e => absurd e (by omega))
    · refine pr_goK (L := 0) H (by omega) hic hfl C1 (pr_Jc (cs' ++ [3]) x10' dr d _ (pe_oka b1 (by omega)) (by rw [lenA]; exact c) h3 (by omega) (fun e => ?_))
      obtain ⟨a1, a2, a3, a4, a5⟩ := h5 e
      obtain ⟨f1, f2, f3⟩ := fit e
      refine ⟨a1, f2.trans a2, ?_⟩
      rw [pe_iIn1 hi _ (by decide), pr_pli 0 a4, f1, List.map_append, List.map_append, ← a5]
      simp only [List.append_assoc]
      rfl
    · exact pr_goK (L := 0) H (by omega) hic hfl C1 (pr_Jc cs' 1 dr d _ b1 b2 h3 (by omega) (fun e => absurd (fit e).2.2 (by omega)))
  · have e1 : dr + (nI L + 1) = nI (d + (L + 1)) := by rw [h3, nI_1]; exact nI_add d (L + 1)
    have C' : ty_C lc ic oc 0 hi ho hu hs s t y z pe rm lw := ⟨⟨c1, c2, c3, c4, c5, c6, by omega, c8⟩, ok, q, pq, qz, hl0, hq⟩
    refine br_f (by decide) (br_f (by decide) (br_f (by decide) (br_f (by decide) (br_t rfl ⟨ds.length + 1, ?_⟩))))
    refine pr_249 h1.1 h1.2 ds.length 0 (ds.length + 1) cs x10 (by omega) (by omega) h2.1 h2.2 (fun n' cs' x10' b1 b2 b3 => ?_)
    refine pk_le ds.length ds.length (fun _ => br_t rfl (pk_lt cs'.length 32 (fun c => nm_r (push cs' b1 c) (nm_r (e' := nI (cs' ++ [3]).length) (by rw [lenA]; exact nI_1 _) ?_)) (fun c => ?_))) (fun e => absurd e (by omega))
    · exact pr_goK (L := 0) H (by omega) hic hfl C' (pr_Jc (cs' ++ [3]) x10' _ (d + (L + 1)) _ (pe_oka b1 (by omega)) (by rw [lenA]; exact c) e1 (by omega) (fun e => absurd e (by omega)))
    · exact pr_goK (L := 0) H (by omega) hic hfl C' (pr_Jc cs' 1 _ (d + (L + 1)) _ b1 b2 e1 (by omega) (fun e => absurd e (by omega)))
end PC
end
section
section PZ
variable {lc ic oc L hi ho hu hs m k p Ls kc ks n : Nat} {s : TyO} {t y z : TyI} {fl dr st fg ie pe la rm v1 : Int32} {ln lw : TyF} {P : Int32 → Prop} {xs : Nat → Int32} {J : PrJ} {x3 x6 : Int64} {x5 x8 x9 x10 x11 : Int32}
theorem pr_fl (a b : Int32) : ¬ ((1 ||| a) ||| b) &&& 31 &&& 1 = 0 := by
  intro h
  have k := congrArg (fun x : Int32 => x.toBitVec.getLsbD 0) h
  have a1 : (1 : Int32).toBitVec.getLsbD 0 = true := by decide
  have a2 : (31 : Int32).toBitVec.getLsbD 0 = true := by decide
  have a3 : (0 : Int32).toBitVec.getLsbD 0 = false := by decide
  simp only [Int32.toBitVec_and, Int32.toBitVec_or, BitVec.getLsbD_and, BitVec.getLsbD_or, a1, a2, a3, Bool.true_or, Bool.and_true, Bool.true_and] at k
  exact absurd k (by decide)
theorem pr_485 {nn : Nat} (H : pr_H k p J) (hk : k ≤ 1000) (hic : ic = 16) (hfl : ¬ fl &&& 1 = 0) (hN : nn ≤ 8) (hJ : pr_J k x3 x5 x6 x8 x9 x10 L dr t y ln) : ∀ (r i fu ho : Nat) (s : TyO), i + r = nn → r < fu → ty_C lc ic oc L hi ho hu hs s t y z pe rm lw → wL_law_485 P Ls xs J x3 x5 x6 x8 x9 x10 (nI p) (nI nn) kc ks fu (nI i) (nI lc) (nI ic) (nI oc) (nI L) (nI hi) (nI t.1) (nI ho) (nI s.1) (nI hu) (nI y.1) (nI hs) (nI z.1) fl dr s.2.1 st fg ie pe la rm ln lw t.2.1 s.2.2.1 y.2.1 z.2.1 pr_ct := by
  intro r
  induction r with
  | zero =>
    intro i fu ho s hi' hf C
    obtain ⟨fu, rfl⟩ : ∃ k, fu = k + 1 := ⟨fu - 1, by omega⟩
    exact pk_le nn i (fun _ => pr_go H hk hic hfl C hJ) (fun e => absurd e (by omega))
  | succ r ih =>
    intro i fu ho s hi' hf C
    obtain ⟨fu, rfl⟩ : ∃ k, fu = k + 1 := ⟨fu - 1, by omega⟩
    refine pk_le nn i (fun e => absurd e (by omega)) (fun _ => ?_)
    refine xm_trans C.2.1 C.1.2.2.2.2.2.1 (fun r ho' s' o' => ?_)
    exact nm_r (nI_1 i) (ih (i + 1) fu ho' s' (by omega) (by omega) ⟨C.1, o', C.2.2⟩)
theorem pr_oth (hLs : Ls ≤ 260) (hp : p < Ls) {a : Nat} (ha : xs (nI p).toNatClampNeg &&& 15 = nI a) (ha16 : a < 16) (ha10 : 10 ≤ a) (H : pr_H (p + 1) p (wL_law_60 P Ls xs kc ks n)) (hic : ic = 16) (hfl : ¬ fl &&& 1 = 0) (C : ty_C lc ic oc L hi ho hu hs s t y z pe rm lw) (hJ : pr_J (p + 1) x3 x5 x6 x8 x9 x10 L dr t y ln) : wL_law_60 P Ls xs kc ks (n + 1) x3 x5 x6 x8 x9 x10 (nI p) (nI lc) (nI ic) (nI oc) (nI L) (nI hi) (nI t.1) (nI ho) (nI s.1) (nI hu) (nI y.1) (nI hs) (nI z.1) fl dr s.2.1 st fg ie pe la rm ln lw t.2.1 s.2.2.1 y.2.1 z.2.1 pr_ct := by
  have C0 := C
  obtain ⟨c, ok, q, pq, qz, hl, hq⟩ := C0
  have c6 := c.2.2.2.2.2.1
  have st_ : ∀ w : Int32, wL_law_383 P Ls xs (wL_law_60 P Ls xs kc ks n) x3 x5 x6 x8 x9 x10 (nI p) w kc ks (nI lc) (nI ic) (nI oc) (nI L) (nI hi) (nI t.1) (nI ho) (nI s.1) (nI hu) (nI y.1) (nI hs) (nI z.1) fl dr s.2.1 st fg ie pe la rm ln lw t.2.1 s.2.2.1 y.2.1 z.2.1 pr_ct := fun w => by
    unfold wL_law_383
    refine xm_start q pq (fun r => ?_) (fun r j j1 j2 => ?_)
    · exact pr_go H (by omega) hic hfl C hJ
    · exact pr_goK (pe := 1) (rm := nI j) (ie := 0) H (by omega) hic hfl ⟨c, ok, q, pq, qz, hl, fun _ => ⟨j, j1, j2, rfl⟩⟩ hJ
  have wr : ∀ w : Int32, wL_law_459 P Ls xs (wL_law_60 P Ls xs kc ks n) x3 x5 x6 x8 x9 x10 (nI p) w kc ks (nI lc) (nI ic) (nI oc) (nI L) (nI hi) (nI t.1) (nI ho) (nI s.1) (nI hu) (nI y.1) (nI hs) (nI z.1) fl dr s.2.1 st fg ie pe la rm ln lw t.2.1 s.2.2.1 y.2.1 z.2.1 pr_ct := fun w => by
    unfold wL_law_459
    refine xm_write ok c6 (fun r s o' => ?_)
    exact pr_go H (by omega) hic hfl ⟨c, o', q, pq, qz, hl, hq⟩ hJ
  refine pk_lt Ls p (fun e => absurd e (by omega)) (fun _ => pk_le Ls p (fun e => absurd e (by omega)) (fun _ => ⟨vp_in_nI hp (by omega), nm_e (nm_r ha (nm_e (pk_le 10 a (fun _ => ?_) (fun e => absurd e (by omega)))))⟩))
  refine pk_eq a 10 (fun e => st_ _) (fun e10 => pk_eq a 11 (fun e => st_ _) (fun e11 => pk_eq a 12 (fun e => ?_) (fun e12 => pk_eq a 13 (fun e => br_c (fun _ => wr _) (fun _ => wr _)) (fun e13 => pk_eq a 14 (fun e => ?_) (fun e14 => ?_)))))
  · refine xm_flags (pr_fl _ _) q pq hq (fun st => ?_)
    exact pr_goK H (by omega) hic (pr_fl _ _) C hJ
  · obtain ⟨b, hb, eb⟩ := pk_andE ((xs (nI p).toNatClampNeg).toUInt32 >>> ((4 : Int32).toUInt32 &&& Int32.toUInt32 31)).toInt32 3 (m := 7) (by decide)
    refine nm_r (e' := nI (b + 1)) (by rw [eb]; exact nI_1 b) ⟨b + 2, ?_⟩
    exact pr_485 H (by omega) hic hfl (by omega) hJ (b + 1) 0 (b + 2) ho s (by omega) (by omega) C
  · refine xm_tick q pq hq (fun r => ?_) (fun r ie => ?_)
    · exact pr_go H (by omega) hic hfl C hJ
    · exact pr_goK H (by omega) hic hfl C hJ
theorem pr_60 (hP : P 1) (hLs : Ls ≤ 260) : ∀ (r p fu : Nat) (x3 : Int64) (x5 : Int32) (x6 : Int64) (x8 x9 x10 : Int32) (lc ic oc L hi ho hu hs : Nat) (s : TyO) (t y z : TyI) (fl dr st fg ie pe la rm : Int32) (ln lw : TyF), p + r = Ls + 1 → r < fu → ty_C lc ic oc L hi ho hu hs s t y z pe rm lw → ic = 16 → ¬ fl &&& 1 = 0 → pr_J p x3 x5 x6 x8 x9 x10 L dr t y ln → (dr = 0 → y.1 = 0) → wL_law_60 P Ls xs kc ks fu x3 x5 x6 x8 x9 x10 (nI p) (nI lc) (nI ic) (nI oc) (nI L) (nI hi) (nI t.1) (nI ho) (nI s.1) (nI hu) (nI y.1) (nI hs) (nI z.1) fl dr s.2.1 st fg ie pe la rm ln lw t.2.1 s.2.2.1 y.2.1 z.2.1 pr_ct := by
  intro r
  induction r with
  | zero =>
    intro p fu x3 x5 x6 x8 x9 x10 lc ic oc L hi ho hu hs s t y z fl dr st fg ie pe la rm ln lw hr hf C hic hfl hJ hy
    obtain ⟨fu, rfl⟩ : ∃ k, fu = k + 1 := ⟨fu - 1, by omega⟩
    exact pr_end hP (by omega) (by omega) C hJ (by omega) hy
  | succ r ih =>
    intro p fu x3 x5 x6 x8 x9 x10 lc ic oc L hi ho hu hs s t y z fl dr st fg ie pe la rm ln lw hr hf C hic hfl hJ hy
    obtain ⟨fu, rfl⟩ : ∃ k, fu = k + 1 := ⟨fu - 1, by omega⟩
    have H : pr_H (p + 1) p (wL_law_60 P Ls xs kc ks fu) := fun x3 x5 x6 x8 x9 x10 lc ic oc L hi ho hu hs s t y z fl dr st fg ie pe la rm ln lw C hic hfl hJ hy => ih (p + 1) fu x3 x5 x6 x8 x9 x10 lc ic oc L hi ho hu hs s t y z fl dr st fg ie pe la rm ln lw (by omega) (by omega) C hic hfl hJ hy
    by_cases e : p = Ls
    · exact pk_lt Ls p (fun k => absurd k (by omega)) (fun _ => pk_le Ls p (fun _ => pr_go H (by omega) hic hfl C (pr_Ju hJ)) (fun k => absurd k (by omega)))
    · obtain ⟨a, ha16, ha⟩ := pk_andE (xs (nI p).toNatClampNeg) 4 (m := 15) (by decide)
      by_cases a10 : 10 ≤ a
      · exact pr_oth hLs (by omega) ha ha16 a10 H hic hfl C (pr_Ju hJ)
      · obtain ⟨i, hi', hi8⟩ := pk_andE ((xs (nI p).toNatClampNeg).toUInt32 >>> ((4 : Int32).toUInt32 &&& Int32.toUInt32 31)).toInt32 3 (m := 7) (by decide)
        obtain ⟨ds, cs, d, ⟨d1, d2, rfl, rfl⟩, ⟨o1, o2, rfl, rfl⟩, h3, h4, h5⟩ := hJ
        match i, hi', hi8 with
        | 0, _, hi8 => exact pr_sta hP hLs (by omega) ha (by omega) H hic hfl C ⟨d1, d2⟩ ⟨o1, o2⟩ h3 h4 h5 hi8
        | 1, _, hi8 => exact pr_stb hP hLs (by omega) ha (by omega) H hic hfl C ⟨d1, d2⟩ ⟨o1, o2⟩ h3 h4 h5 hi8
        | 2, _, hi8 => exact pr_stc hP hLs (by omega) ha (by omega) H hic hfl C ⟨d1, d2⟩ ⟨o1, o2⟩ h3 h4 h5 hi8
        | 3, _, hi8 => exact pr_er hP hLs (by omega) ha (by omega) H hic hfl C ⟨d1, d2⟩ ⟨o1, o2⟩ h3 h4 h5 hi8
        | 4, _, hi8 => exact pr_we hP hLs (by omega) ha (by omega) H hic hfl C ⟨d1, d2⟩ ⟨o1, o2⟩ h3 h4 h5 hi8
        | 5, _, hi8 => exact pr_ki hP hLs (by omega) ha (by omega) H hic hfl C ⟨d1, d2⟩ ⟨o1, o2⟩ h3 h4 h5 hi8
        | 6, _, hi8 => exact pr_ef hP hLs (by omega) ha (by omega) H hic hfl C ⟨d1, d2⟩ ⟨o1, o2⟩ h3 h4 h5 hy hi8
        | 7, _, hi8 => exact pr_nl hP hLs (by omega) ha (by omega) H hic hfl C ⟨d1, d2⟩ ⟨o1, o2⟩ h3 h4 h5 hy hi8
/-! the constructor and the law -/
def ty_clp (p lo hi : Int32) : Int32 := if lo ≤ p then (if p ≤ hi then p else hi) else lo
theorem xi_clamp {U : Int32 → Prop} {p lo hi : Int32} (h : U (ty_clp p lo hi)) : wpX_clamp U () p lo hi := by
  unfold ty_clp at h
  by_cases a : lo ≤ p
  · rw [if_pos a] at h
    by_cases b : p ≤ hi
    · rw [if_pos b] at h; exact br_t a (br_t b h)
    · rw [if_neg b] at h; exact br_t a (br_f b h)
  · rw [if_neg a] at h; exact br_f a h
theorem ty_clpN (p : Int32) (a b : Nat) (hab : a ≤ b) (hb : b < 2 ^ 31) : ∃ n : Nat, a ≤ n ∧ n ≤ b ∧ ty_clp p (nI a) (nI b) = nI n := by
  unfold ty_clp
  by_cases c : nI a ≤ p
  · rw [if_pos c]
    by_cases d : p ≤ nI b
    · rw [if_pos d]
      have n0 : ¬ p < 0 := Int32.not_lt.mpr (Int32.le_trans (nI_pos' (n := a) (by omega)) c)
      obtain ⟨j, hj, rfl⟩ := nI_of n0
      exact ⟨j, (nI_leI (by omega) hj).mp c, (nI_leI hj hb).mp d, rfl⟩
    · rw [if_neg d]; exact ⟨b, hab, Nat.le_refl b, rfl⟩
  · rw [if_neg c]; exact ⟨a, Nat.le_refl a, hab, rfl⟩
theorem pr_cell {U : Int32 → Prop} {i : Nat} (hLs : Ls ≤ 260) (hi : i ≤ 2) (h : ∀ v, U v) : wpL_cell U Ls xs () (nI i) :=
  pk_le Ls i (fun _ => h 0) (fun c => ⟨vp_in_nI c (by omega), h _⟩)
theorem pr_fin (hP : P 1) (hLs : Ls ≤ 260) (lc oc : Nat) (l1 : 8 ≤ lc) (l2 : lc ≤ 32) (o1 : 32 ≤ oc) (o2 : oc ≤ 64) : ∃ fu, wL_law_60 P Ls xs kc ks fu 0 0 0 0 0 0 3 (nI lc) 16 (nI oc) 0 0 0 0 0 0 0 0 0 31 0 0 0 1 0 0 (-1) 0 (fun _ => 0) (fun _ => 0) (fun _ => 0) (fun _ => 0) (fun _ => 0) (fun _ => 0) pr_ct := by
  have C : ty_C lc 16 oc 0 0 0 0 0 (0, 0, (fun _ => 0), (fun _ => 0)) (0, (fun _ => 0), (fun _ => 0)) (0, (fun _ => 0), (fun _ => 0)) (0, (fun _ => 0), (fun _ => 0)) 0 0 (fun _ => 0) :=
    ⟨⟨l1, l2, by omega, by omega, o1, o2, by omega, Nat.zero_le _⟩, ⟨Nat.zero_le _, ty_q0 (by omega)⟩, ty_q0 (by omega), ty_q0 (by omega), ty_q0 (by omega), fun j hj => absurd hj (Nat.not_lt_zero j), ty_p0 _ _⟩
  have hJ : ∀ k, pr_J k 0 0 0 0 0 0 0 0 (0, (fun _ => 0), (fun _ => 0)) (0, (fun _ => 0), (fun _ => 0)) (fun _ => 0) := fun k =>
    ⟨[], [], 0, ⟨pe_ok0 3, Nat.zero_le _, rfl, rfl⟩, ⟨pe_ok0 4, Nat.zero_le _, rfl, rfl⟩, rfl, Nat.zero_le _, fun _ => ⟨rfl, rfl, rfl, rfl, rfl⟩⟩
  by_cases e : Ls < 3
  · exact ⟨1, pr_end (p := 3) (k := 3) (n := 0) hP e (by omega) C (hJ 3) (by omega) (fun _ => rfl)⟩
  · exact ⟨Ls, pr_60 hP hLs (Ls - 2) 3 Ls 0 0 0 0 0 0 lc 16 oc 0 0 0 0 0 _ _ _ _ 31 0 0 1 0 0 (-1) 0 (fun _ => 0) (fun _ => 0) (by omega) (by omega) C rfl (by decide) (hJ 3) (fun _ => rfl)⟩
theorem i_vc (xs : Nat → Int32) (L : Nat) (hL : L ≤ 260) : wpL_law (fun r => r = 1) L xs := by
  unfold wpL_law
  refine pr_cell (i := 0) hL (by omega) (fun r2 => ?_)
  refine pr_cell (i := 1) hL (by omega) (fun r3 => ?_)
  refine pr_cell (i := 2) hL (by omega) (fun r4 => ?_)
  obtain ⟨lc, l1, l2, l3⟩ := ty_clpN (8 + (r2 &&& 31)) 8 32 (by omega) (by omega)
  obtain ⟨oc, o1, o2, o3⟩ := ty_clpN (32 + (r4 &&& 31)) 32 64 (by omega) (by omega)
  have l3' : ty_clp (8 + (r2 &&& 31)) 8 32 = nI lc := l3
  have o3' : ty_clp (32 + (r4 &&& 31)) 32 64 = nI oc := o3
  have j3' : ty_clp (r3 &&& 15) 16 64 = 16 := by
    obtain ⟨j, hj, e⟩ := pk_andE r3 4 (m := 15) (by decide)
    rw [e]
    exact if_neg (nI_ge (b := 16) hj (by decide))
  refine ⟨7, 274, by omega, by omega, ?_⟩
  refine ⟨by omega, by omega, by omega, by omega, by omega, by omega, by omega, by omega, by omega, by omega, by omega, by omega, by omega, by omega, ?_⟩
  refine xi_clamp ?_
  refine xi_clamp ?_
  refine xi_clamp ?_
  rw [l3', j3', o3']
  refine nm_e (nm_e (nm_e (nm_e (nm_e (nm_e (nm_e (nm_e (nm_e (nm_e ?_)))))))))
  exact pr_fin (P := fun r => r = 1) rfl hL lc oc l1 l2 o1 o2
end PZ
end
