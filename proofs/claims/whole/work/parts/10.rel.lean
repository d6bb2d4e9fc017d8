section TR
variable {lc ic oc L hi ho hu hs : Nat} {s : TyO} {t y z : TyI} {fl dr st fg ie pe la rm : Int32} {ln lw ct : TyF}
def ty_R (u : SX) (v : SY) : Prop :=
  ∃ (lc ic oc L hi ho hu hs : Nat) (s : TyO) (t y z : TyI) (fl dr st fg ie pe la rm : Int32) (ln lw ct : TyF),
    u = (nI lc, nI ic, nI oc, nI L, nI hi, nI t.1, nI ho, nI s.1, nI hu, nI y.1, nI hs, nI z.1, fl, dr, s.2.1, st, fg, ie, pe, la, rm, ln, lw, t.2.1, s.2.2.1, y.2.1, z.2.1, ct) ∧ v = (nI lc, nI ic, nI oc, nI L, nI t.1, nI s.1, nI y.1, nI z.1, fl, dr, s.2.1, fg, ie, rm, st, pe, la, ln, lw, t.2.2, s.2.2.2, y.2.2, z.2.2, ct) ∧ ty_C lc ic oc L hi ho hu hs s t y z pe rm lw
theorem ty_mk (h : ty_C lc ic oc L hi ho hu hs s t y z pe rm lw) : ty_R (nI lc, nI ic, nI oc, nI L, nI hi, nI t.1, nI ho, nI s.1, nI hu, nI y.1, nI hs, nI z.1, fl, dr, s.2.1, st, fg, ie, pe, la, rm, ln, lw, t.2.1, s.2.2.1, y.2.1, z.2.1, ct) (nI lc, nI ic, nI oc, nI L, nI t.1, nI s.1, nI y.1, nI z.1, fl, dr, s.2.1, fg, ie, rm, st, pe, la, ln, lw, t.2.2, s.2.2.2, y.2.2, z.2.2, ct) :=
  ⟨lc, ic, oc, L, hi, ho, hu, hs, s, t, y, z, fl, dr, st, fg, ie, pe, la, rm, ln, lw, ct, rfl, rfl, h⟩
def i_Rel (_ : Nat) (u : SX) (v : SY) : Prop := ty_R u v
theorem i_up {k : Nat} {u : SX} {v : SY} (h : i_Rel k u v) : i_Rel (k + 3) u v := h
end TR
