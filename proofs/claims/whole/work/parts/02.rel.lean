section TY
variable {lc ic oc L hi ni ho hu nu hs ns : Nat} {s : TyO} {fl dr st fg ie pe la rm : Int32} {ln lw qi bi qu bu qs bs ct : Nat → Int32}
/-- the widths of the line's bytes are small -/
def ty_l (lw : Nat → Int32) (L : Nat) : Prop := ∀ j, j < L → ∃ w : Nat, w ≤ 15 ∧ lw j = nI w
/-- a pending read has room in the user buffer -/
def ty_p (pe rm : Int32) (nu : Nat) : Prop := ¬ pe = 0 → ∃ r : Nat, 1 ≤ r ∧ nu + r ≤ 64 ∧ rm = nI r
def ty_C (lc ic oc L hi ni ho hu nu hs ns : Nat) (s : TyO) (pe rm : Int32) (lw qi bi qu bu qs bs : Nat → Int32) : Prop :=
  (8 ≤ lc ∧ lc ≤ 32 ∧ 16 ≤ ic ∧ ic ≤ 64 ∧ 32 ≤ oc ∧ oc ≤ 64 ∧ L ≤ lc ∧ ni ≤ ic) ∧ ty_o oc ho s ∧ ty_q 64 qi bi hi ni ∧ ty_q 64 qu bu hu nu ∧ ty_q 8 qs bs hs ns ∧ ty_l lw L ∧ ty_p pe rm nu
def ty_R (u : SX) (v : SY) : Prop :=
  ∃ (lc ic oc L hi ni ho hu nu hs ns : Nat) (s : TyO) (fl dr st fg ie pe la rm : Int32) (ln lw qi bi qu bu qs bs ct : Nat → Int32),
    u = (nI lc, nI ic, nI oc, nI L, nI hi, nI ni, nI ho, nI s.1, nI hu, nI nu, nI hs, nI ns, fl, dr, s.2.1, st, fg, ie, pe, la, rm, ln, lw, qi, s.2.2.1, qu, qs, ct) ∧ v = (nI lc, nI ic, nI oc, nI L, nI ni, nI s.1, nI nu, nI ns, fl, dr, s.2.1, fg, ie, rm, st, pe, la, ln, lw, bi, s.2.2.2, bu, bs, ct) ∧ ty_C lc ic oc L hi ni ho hu nu hs ns s pe rm lw qi bi qu bu qs bs
theorem ty_mk (h : ty_C lc ic oc L hi ni ho hu nu hs ns s pe rm lw qi bi qu bu qs bs) : ty_R (nI lc, nI ic, nI oc, nI L, nI hi, nI ni, nI ho, nI s.1, nI hu, nI nu, nI hs, nI ns, fl, dr, s.2.1, st, fg, ie, pe, la, rm, ln, lw, qi, s.2.2.1, qu, qs, ct) (nI lc, nI ic, nI oc, nI L, nI ni, nI s.1, nI nu, nI ns, fl, dr, s.2.1, fg, ie, rm, st, pe, la, ln, lw, bi, s.2.2.2, bu, bs, ct) :=
  ⟨lc, ic, oc, L, hi, ni, ho, hu, nu, hs, ns, s, fl, dr, st, fg, ie, pe, la, rm, ln, lw, qi, bi, qu, bu, qs, bs, ct, rfl, rfl, h⟩
def i_Rel (_ : Nat) (u : SX) (v : SY) : Prop := ty_R u v
theorem i_up {k : Nat} {u : SX} {v : SY} (h : i_Rel k u v) : i_Rel (k + 3) u v := h
/-! the filter of the input's marks: j kept, i seen, n in all -/
def ty_f (a b : Nat → Int32) (h j i n : Nat) : Prop := h < 64 ∧ n ≤ 64 ∧ j ≤ i ∧ i ≤ n ∧ (∀ m, m < j → a ((h + m) % 64) = b m) ∧ (∀ m, i ≤ m → m < n → a ((h + m) % 64) = b m)
theorem ty_f0 {a b : Nat → Int32} {h n : Nat} (q : ty_q 64 a b h n) : ty_f a b h 0 0 n := ⟨q.1, q.2.1, Nat.le_refl 0, Nat.zero_le _, fun _ hm => absurd hm (by omega), fun m _ hm => q.2.2 m hm⟩
theorem ty_fAt {a b : Nat → Int32} {h j i n : Nat} (f : ty_f a b h j i n) (hi : i < n) : a ((h + i) % 64) = b i := f.2.2.2.2.2 i (Nat.le_refl i) hi
theorem ty_fSkip {a b : Nat → Int32} {h j i n : Nat} (f : ty_f a b h j i n) (hi : i < n) : ty_f a b h j (i + 1) n := by
  obtain ⟨h1, h2, h3, h4, h5, h6⟩ := f
  exact ⟨h1, h2, by omega, by omega, h5, fun m a c => h6 m (by omega) c⟩
theorem ty_fKeep {a b : Nat → Int32} {h j i n : Nat} (x : Int32) (f : ty_f a b h j i n) (hi : i < n) (hx : x = b i) : ty_f (upd a ((h + j) % 64) x) (upd b j x) h (j + 1) (i + 1) n := by
  obtain ⟨h1, h2, h3, h4, h5, h6⟩ := f
  refine ⟨h1, h2, by omega, by omega, fun m hm => ?_, fun m hm hn => ?_⟩
  · by_cases e : m = j
    · subst e; rw [pk_us, pk_us]
    · rw [pk_un e, pk_un (ty_mne h1 (by omega) (by omega))]; exact h5 m (by omega)
  · rw [pk_un (by omega), pk_un (Ne.symm (ty_mne h1 (by omega) (by omega)))]; exact h6 m (by omega) hn
theorem ty_fEnd {a b : Nat → Int32} {h j n : Nat} (f : ty_f a b h j n n) : ty_q 64 a b h j := ⟨f.1, by have := f.2.1; have := f.2.2.1; omega, f.2.2.2.2.1⟩
end TY
