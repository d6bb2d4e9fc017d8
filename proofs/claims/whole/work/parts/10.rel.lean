section TR
variable {lc ic oc L hi ni ho hu nu hs ns : Nat} {s : TyO} {fl dr st fg ie pe la rm : Int32} {ln lw qi bi qu bu qs bs ct : TyF}
/-- the widths of the line's bytes are small -/
def ty_l (lw : TyF) (L : Nat) : Prop := ∀ j, j < L → ∃ w : Nat, w ≤ 15 ∧ lw j = nI w
/-- a pending read has room in the user buffer -/
def ty_p (pe rm : Int32) (nu : Nat) : Prop := ¬ pe = 0 → ∃ r : Nat, 1 ≤ r ∧ nu + r ≤ 64 ∧ rm = nI r
def ty_C (lc ic oc L hi ni ho hu nu hs ns : Nat) (s : TyO) (pe rm : Int32) (lw qi bi qu bu qs bs : TyF) : Prop :=
  (8 ≤ lc ∧ lc ≤ 32 ∧ 16 ≤ ic ∧ ic ≤ 64 ∧ 32 ≤ oc ∧ oc ≤ 64 ∧ L ≤ lc ∧ ni ≤ ic) ∧ ty_o oc ho s ∧ ty_q 64 qi bi hi ni ∧ ty_q 64 qu bu hu nu ∧ ty_q 8 qs bs hs ns ∧ ty_l lw L ∧ ty_p pe rm nu
def ty_R (u : SX) (v : SY) : Prop :=
  ∃ (lc ic oc L hi ni ho hu nu hs ns : Nat) (s : TyO) (fl dr st fg ie pe la rm : Int32) (ln lw qi bi qu bu qs bs ct : TyF),
    u = (nI lc, nI ic, nI oc, nI L, nI hi, nI ni, nI ho, nI s.1, nI hu, nI nu, nI hs, nI ns, fl, dr, s.2.1, st, fg, ie, pe, la, rm, ln, lw, qi, s.2.2.1, qu, qs, ct) ∧ v = (nI lc, nI ic, nI oc, nI L, nI ni, nI s.1, nI nu, nI ns, fl, dr, s.2.1, fg, ie, rm, st, pe, la, ln, lw, bi, s.2.2.2, bu, bs, ct) ∧ ty_C lc ic oc L hi ni ho hu nu hs ns s pe rm lw qi bi qu bu qs bs
theorem ty_mk (h : ty_C lc ic oc L hi ni ho hu nu hs ns s pe rm lw qi bi qu bu qs bs) : ty_R (nI lc, nI ic, nI oc, nI L, nI hi, nI ni, nI ho, nI s.1, nI hu, nI nu, nI hs, nI ns, fl, dr, s.2.1, st, fg, ie, pe, la, rm, ln, lw, qi, s.2.2.1, qu, qs, ct) (nI lc, nI ic, nI oc, nI L, nI ni, nI s.1, nI nu, nI ns, fl, dr, s.2.1, fg, ie, rm, st, pe, la, ln, lw, bi, s.2.2.2, bu, bs, ct) :=
  ⟨lc, ic, oc, L, hi, ni, ho, hu, nu, hs, ns, s, fl, dr, st, fg, ie, pe, la, rm, ln, lw, qi, bi, qu, bu, qs, bs, ct, rfl, rfl, h⟩
def i_Rel (_ : Nat) (u : SX) (v : SY) : Prop := ty_R u v
theorem i_up {k : Nat} {u : SX} {v : SY} (h : i_Rel k u v) : i_Rel (k + 3) u v := h
end TR
