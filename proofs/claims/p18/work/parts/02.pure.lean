section TP
/-! pure pictures of what the methods do: the input (count, ring, flat array), the user buffer -/
abbrev TyF : Type := Nat → Int32
abbrev TyI : Type := Nat × TyF × TyF
def ty_in (h : Nat) (x : Int32) (t : TyI) : TyI := (t.1 + 1, upd t.2.1 ((h + t.1) % 64) x, upd t.2.2 t.1 x)
def ty_i (h : Nat) (t : TyI) : Prop := ty_q 64 t.2.1 t.2.2 h t.1
theorem ty_iIn {h : Nat} {t : TyI} (x : Int32) (q : ty_i h t) (hn : t.1 < 64) : ty_i h (ty_in h x t) := ty_qPush x q hn
/-- d bytes of the line from k on, appended -/
def ty_pl (h : Nat) (ln : TyF) : Nat → Nat → TyI → TyI
  | 0, _, t => t
  | d + 1, k, t => ty_pl h ln d (k + 1) (ty_in h (ln k) t)
theorem ty_pl1 (h : Nat) (ln : TyF) : ∀ (d k : Nat) (t : TyI), (ty_pl h ln d k t).1 = t.1 + d := by
  intro d
  induction d with
  | zero => intro k t; rfl
  | succ d ih =>
    intro k t
    show (ty_pl h ln d (k + 1) (ty_in h (ln k) t)).1 = t.1 + (d + 1)
    rw [ih]
    show t.1 + 1 + d = t.1 + (d + 1)
    omega
theorem ty_iPl {h : Nat} {ln : TyF} : ∀ (d k : Nat) (t : TyI), ty_i h t → t.1 + d ≤ 64 → ty_i h (ty_pl h ln d k t) := by
  intro d
  induction d with
  | zero => intro k t q _; exact q
  | succ d ih =>
    intro k t q hn
    exact ih (k + 1) _ (ty_iIn _ q (by omega)) (by show t.1 + 1 + d ≤ 64; omega)
/-- the entries of d places from i on that are no marks -/
def ty_cn (b : TyF) : Nat → Nat → Nat
  | 0, _ => 0
  | d + 1, i => (if b i = 256 then 0 else 1) + ty_cn b d (i + 1)
theorem ty_cnle (b : TyF) : ∀ d i, ty_cn b d i ≤ d := by
  intro d
  induction d with
  | zero => intro i; exact Nat.le_refl 0
  | succ d ih =>
    intro i
    show (if b i = 256 then 0 else 1) + ty_cn b d (i + 1) ≤ d + 1
    have := ih (i + 1)
    split <;> omega
/-- the marks taken out: d places from i on are left, j are kept -/
def ty_fl (h : Nat) : Nat → Nat → TyI → TyI
  | 0, _, t => t
  | d + 1, i, t => if t.2.2 i = 256 then ty_fl h d (i + 1) t else ty_fl h d (i + 1) (ty_in h (t.2.2 i) t)
/-! the filter's invariant: j kept, i seen, n in all -/
def ty_f (a b : TyF) (h j i n : Nat) : Prop := h < 64 ∧ n ≤ 64 ∧ j ≤ i ∧ i ≤ n ∧ (∀ m, m < j → a ((h + m) % 64) = b m) ∧ (∀ m, i ≤ m → m < n → a ((h + m) % 64) = b m)
theorem ty_f0 {a b : TyF} {h n : Nat} (q : ty_q 64 a b h n) : ty_f a b h 0 0 n := ⟨q.1, q.2.1, Nat.le_refl 0, Nat.zero_le _, fun _ hm => absurd hm (by omega), fun m _ hm => q.2.2 m hm⟩
theorem ty_fAt {a b : TyF} {h j i n : Nat} (f : ty_f a b h j i n) (hi : i < n) : a ((h + i) % 64) = b i := f.2.2.2.2.2 i (Nat.le_refl i) hi
theorem ty_fSkip {a b : TyF} {h j i n : Nat} (f : ty_f a b h j i n) (hi : i < n) : ty_f a b h j (i + 1) n := by
  obtain ⟨h1, h2, h3, h4, h5, h6⟩ := f
  exact ⟨h1, h2, by omega, by omega, h5, fun m a c => h6 m (by omega) c⟩
theorem ty_fKeep {a b : TyF} {h j i n : Nat} (x : Int32) (f : ty_f a b h j i n) (hi : i < n) : ty_f (upd a ((h + j) % 64) x) (upd b j x) h (j + 1) (i + 1) n := by
  obtain ⟨h1, h2, h3, h4, h5, h6⟩ := f
  refine ⟨h1, h2, by omega, by omega, fun m hm => ?_, fun m hm hn => ?_⟩
  · by_cases e : m = j
    · subst e; rw [pk_us, pk_us]
    · rw [pk_un e, pk_un (ty_mne h1 (by omega) (by omega))]; exact h5 m (by omega)
  · rw [pk_un (Ne.symm (ty_mne h1 (show j < m by omega) (show m < 64 by omega))), pk_un (show m ≠ j by omega)]; exact h6 m (by omega) hn
theorem ty_fEnd {a b : TyF} {h j n : Nat} (f : ty_f a b h j n n) : ty_q 64 a b h j := ⟨f.1, by have := f.2.1; have := f.2.2.1; omega, f.2.2.2.2.1⟩
theorem ty_iFl {h : Nat} : ∀ (d i : Nat) (t : TyI) (n : Nat), i + d = n → ty_f t.2.1 t.2.2 h t.1 i n → ty_i h (ty_fl h d i t) ∧ (ty_fl h d i t).1 ≤ t.1 + d := by
  intro d
  induction d with
  | zero =>
    intro i t n e f
    obtain rfl : i = n := by omega
    exact ⟨ty_fEnd f, Nat.le_refl _⟩
  | succ d ih =>
    intro i t n e f
    show ty_i h (if t.2.2 i = 256 then ty_fl h d (i + 1) t else ty_fl h d (i + 1) (ty_in h (t.2.2 i) t)) ∧ (if t.2.2 i = 256 then ty_fl h d (i + 1) t else ty_fl h d (i + 1) (ty_in h (t.2.2 i) t)).1 ≤ t.1 + (d + 1)
    by_cases c : t.2.2 i = 256
    · rw [if_pos c]
      have g := ih (i + 1) t n (by omega) (ty_fSkip f (by omega))
      exact ⟨g.1, by have := g.2; omega⟩
    · rw [if_neg c]
      have g := ih (i + 1) (ty_in h (t.2.2 i) t) n (by omega) (ty_fKeep _ f (by omega))
      have k : (ty_in h (t.2.2 i) t).1 = t.1 + 1 := rfl
      exact ⟨g.1, by have := g.2; omega⟩
/-- the line spilled into the input as far as there is room; the rest is counted -/
def ty_sp (h ic : Nat) (ln : TyF) : Nat → Nat → TyI → Int32 → TyI × Int32
  | 0, _, t, dr => (t, dr)
  | d + 1, k, t, dr => if t.1 < ic then ty_sp h ic ln d (k + 1) (ty_in h (ln k) t) dr else ty_sp h ic ln d (k + 1) t (dr + 1)
theorem ty_iSp {h ic : Nat} {ln : TyF} (hc : ic ≤ 64) : ∀ (d k : Nat) (t : TyI) (dr : Int32), ty_i h t → t.1 ≤ ic → ty_i h (ty_sp h ic ln d k t dr).1 ∧ (ty_sp h ic ln d k t dr).1.1 ≤ ic := by
  intro d
  induction d with
  | zero => intro k t dr q e; exact ⟨q, e⟩
  | succ d ih =>
    intro k t dr q e
    show ty_i h (if t.1 < ic then ty_sp h ic ln d (k + 1) (ty_in h (ln k) t) dr else ty_sp h ic ln d (k + 1) t (dr + 1)).1 ∧ (if t.1 < ic then ty_sp h ic ln d (k + 1) (ty_in h (ln k) t) dr else ty_sp h ic ln d (k + 1) t (dr + 1)).1.1 ≤ ic
    by_cases c : t.1 < ic
    · rw [if_pos c]; exact ih _ _ _ (ty_iIn _ q (by omega)) c
    · rw [if_neg c]; exact ih _ _ _ q e
/-- is one of d entries from i on a line's end? -/
def ty_an (b : TyF) : Nat → Nat → Bool
  | 0, _ => false
  | d + 1, i => if b i = 10 then true else if b i = 256 then true else ty_an b d (i + 1)
/-- the input's head taken out -/
def ty_rm (t : TyI) : TyI := (t.1 - 1, t.2.1, ty_sh t.2.2 t.1)
theorem ty_iRm {h : Nat} {t : TyI} (q : ty_i h t) (hn : 0 < t.1) : ty_i ((h + 1) % 64) (ty_rm t) := by
  obtain ⟨n, a, b⟩ := t
  obtain ⟨m, rfl⟩ : ∃ m, n = m + 1 := ⟨n - 1, by have : 0 < n := hn; omega⟩
  exact ty_qDrop (n := m) q (fun _ hi => ty_shd hi)
theorem ty_iHd {h : Nat} {t : TyI} (q : ty_i h t) (hn : 0 < t.1) : t.2.1 h = t.2.2 0 := by
  obtain ⟨n, a, b⟩ := t
  obtain ⟨m, rfl⟩ : ∃ m, n = m + 1 := ⟨n - 1, by have : 0 < n := hn; omega⟩
  exact ty_qHead q
/-! the reads: count, head, input, user buffer -/
abbrev TyD : Type := Nat × Nat × TyI × TyI
def ty_dl (hu r : Nat) : Nat → Nat → Nat → TyI → TyI → TyD
  | 0, c, h, t, y => (c, h, t, y)
  | n + 1, c, h, t, y =>
    if t.2.2 0 = 256 then (c, (h + 1) % 64, ty_rm t, y)
    else if c = r then (c, h, t, y)
    else if t.2.2 0 = 10 then (c + 1, (h + 1) % 64, ty_rm t, ty_in hu (t.2.2 0) y)
    else ty_dl hu r n (c + 1) ((h + 1) % 64) (ty_rm t) (ty_in hu (t.2.2 0) y)
def ty_dr (hu : Nat) : Nat → Nat → Nat → TyI → TyI → TyD
  | 0, c, h, t, y => (c, h, t, y)
  | d + 1, c, h, t, y => ty_dr hu d (c + 1) ((h + 1) % 64) (ty_rm t) (ty_in hu (t.2.2 0) y)
/-- what a delivery leaves: both queues in step, no more than there was -/
def ty_dOk (hu n : Nat) (D : TyD) : Prop := ty_i D.2.1 D.2.2.1 ∧ ty_i hu D.2.2.2 ∧ D.2.2.1.1 ≤ n
theorem ty_dlOk {hu r : Nat} : ∀ (n c h : Nat) (t y : TyI), t.1 = n → ty_i h t → ty_i hu y → c ≤ r → y.1 + (r - c) ≤ 64 → ty_dOk hu n (ty_dl hu r n c h t y) := by
  intro n
  induction n with
  | zero => intro c h t y e q p _ _; exact ⟨q, p, by show t.1 ≤ 0; omega⟩
  | succ n ih =>
    intro c h t y e q p hc hr
    have e1 : (ty_rm t).1 = n := by show t.1 - 1 = n; omega
    unfold ty_dl
    by_cases c1 : t.2.2 0 = 256
    · rw [if_pos c1]; exact ⟨ty_iRm q (by omega), p, by show (ty_rm t).1 ≤ n + 1; omega⟩
    · rw [if_neg c1]
      by_cases c2 : c = r
      · rw [if_pos c2]; exact ⟨q, p, by show t.1 ≤ n + 1; omega⟩
      · rw [if_neg c2]
        by_cases c3 : t.2.2 0 = 10
        · rw [if_pos c3]; exact ⟨ty_iRm q (by omega), ty_iIn _ p (by omega), by show (ty_rm t).1 ≤ n + 1; omega⟩
        · rw [if_neg c3]
          have g := ih (c + 1) ((h + 1) % 64) (ty_rm t) (ty_in hu (t.2.2 0) y) e1 (ty_iRm q (by omega)) (ty_iIn _ p (by omega)) (by omega) (by show y.1 + 1 + (r - (c + 1)) ≤ 64; omega)
          exact ⟨g.1, g.2.1, Nat.le_succ_of_le g.2.2⟩
theorem ty_drOk {hu : Nat} : ∀ (d c h : Nat) (t y : TyI), ty_i h t → ty_i hu y → d ≤ t.1 → y.1 + d ≤ 64 → ty_dOk hu t.1 (ty_dr hu d c h t y) ∧ (ty_dr hu d c h t y).1 = c + d := by
  intro d
  induction d with
  | zero => intro c h t y q p _ _; exact ⟨⟨q, p, Nat.le_refl _⟩, rfl⟩
  | succ d ih =>
    intro c h t y q p hd hr
    have e1 : (ty_rm t).1 = t.1 - 1 := rfl
    have g := ih (c + 1) ((h + 1) % 64) (ty_rm t) (ty_in hu (t.2.2 0) y) (ty_iRm q (by omega)) (ty_iIn _ p (by omega)) (by omega) (by show y.1 + 1 + d ≤ 64; omega)
    refine ⟨⟨g.1.1, g.1.2.1, ?_⟩, ?_⟩
    · have := g.1.2.2
      show (ty_dr hu d (c + 1) ((h + 1) % 64) (ty_rm t) (ty_in hu (t.2.2 0) y)).2.2.1.1 ≤ t.1
      omega
    · show (ty_dr hu d (c + 1) ((h + 1) % 64) (ty_rm t) (ty_in hu (t.2.2 0) y)).1 = c + (d + 1)
      rw [g.2]; omega
/-- is a raw read due? (MIN, TIME, what it needs, what there is, the idle time) -/
def ty_du (mn tm nd a ie : Int32) : Int32 :=
  if mn = 0 then (if tm = 0 then 1 else if 1 ≤ a then 1 else if ie < tm then 0 else 1)
  else if tm = 0 then (if a < nd then 0 else 1)
  else if nd ≤ a then 1 else if a < 1 then 0 else if ie < tm then 0 else 1
def ty_nd (mn rm : Int32) : Int32 := if rm ≤ mn then rm else mn
def ty_mi (r n : Nat) : Nat := if r ≤ n then r else n
/-- the COMPLETION CHECK: input's head, input, user buffer, pending, last result -/
abbrev TyK : Type := Nat × TyI × TyI × Int32 × Int32
def ty_kd (D : TyD) : TyK := (D.2.1, D.2.2.1, D.2.2.2, 0, nI D.1)
def ty_ck (fl pe la rm ie : Int32) (ct : TyF) (hi hu : Nat) (t y : TyI) : TyK :=
  if pe = 0 then (hi, t, y, pe, la)
  else if fl &&& 1 = 0 then (if ty_du (ct 8) (ct 9) (ty_nd (ct 8) rm) (nI t.1) ie = 0 then (hi, t, y, pe, la) else ty_kd (ty_dr hu (ty_mi rm.toNatClampNeg t.1) 0 hi t y))
  else if ty_an t.2.2 t.1 0 = true then ty_kd (ty_dl hu rm.toNatClampNeg t.1 0 hi t y) else (hi, t, y, pe, la)
/-- the widths of the line's bytes are small -/
def ty_l (lw : TyF) (L : Nat) : Prop := ∀ j, j < L → ∃ w : Nat, w ≤ 15 ∧ lw j = nI w
/-- a pending read has room in the user buffer -/
def ty_p (pe rm : Int32) (y : TyI) : Prop := ¬ pe = 0 → ∃ r : Nat, 1 ≤ r ∧ y.1 + r ≤ 64 ∧ rm = nI r
/-- all that the two states keep, but their fields -/
def ty_C (lc ic oc L hi ho hu hs : Nat) (s : TyO) (t y z : TyI) (pe rm : Int32) (lw : TyF) : Prop :=
  (8 ≤ lc ∧ lc ≤ 32 ∧ 16 ≤ ic ∧ ic ≤ 64 ∧ 32 ≤ oc ∧ oc ≤ 64 ∧ L ≤ lc ∧ t.1 ≤ ic) ∧ ty_o oc ho s ∧ ty_i hi t ∧ ty_i hu y ∧ ty_q 8 z.2.1 z.2.2 hs z.1 ∧ ty_l lw L ∧ ty_p pe rm y
/-- RUB OUT of the line's place j -/
def ty_rl (fl : Int32) (oc ho : Nat) (ln lw : TyF) (j : Nat) (s : TyO) : TyO := ty_rub fl oc ho (ln j) (lw j).toNatClampNeg s
end TP
