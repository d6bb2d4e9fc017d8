section TR
variable {lc ic oc L hi ho hu hs m : Nat} {s : TyO} {t y z : TyI} {fl dr st fg ie pe la rm : Int32} {ln lw ct : TyF}
def ty_R (u : SX) (v : SY) : Prop :=
  ∃ (lc ic oc L hi ho hu hs : Nat) (s : TyO) (t y z : TyI) (fl dr st fg ie pe la rm : Int32) (ln lw ct : TyF),
    u = (nI lc, nI ic, nI oc, nI L, nI hi, nI t.1, nI ho, nI s.1, nI hu, nI y.1, nI hs, nI z.1, fl, dr, s.2.1, st, fg, ie, pe, la, rm, ln, lw, t.2.1, s.2.2.1, y.2.1, z.2.1, ct) ∧ v = (nI lc, nI ic, nI oc, nI L, nI t.1, nI s.1, nI y.1, nI z.1, fl, dr, s.2.1, fg, ie, rm, st, pe, la, ln, lw, t.2.2, s.2.2.2, y.2.2, z.2.2, ct) ∧ ty_C lc ic oc L hi ho hu hs s t y z pe rm lw
theorem ty_mk (h : ty_C lc ic oc L hi ho hu hs s t y z pe rm lw) : ty_R (nI lc, nI ic, nI oc, nI L, nI hi, nI t.1, nI ho, nI s.1, nI hu, nI y.1, nI hs, nI z.1, fl, dr, s.2.1, st, fg, ie, pe, la, rm, ln, lw, t.2.1, s.2.2.1, y.2.1, z.2.1, ct) (nI lc, nI ic, nI oc, nI L, nI t.1, nI s.1, nI y.1, nI z.1, fl, dr, s.2.1, fg, ie, rm, st, pe, la, ln, lw, t.2.2, s.2.2.2, y.2.2, z.2.2, ct) :=
  ⟨lc, ic, oc, L, hi, ho, hu, hs, s, t, y, z, fl, dr, st, fg, ie, pe, la, rm, ln, lw, ct, rfl, rfl, h⟩
def i_Rel (_ : Nat) (u : SX) (v : SY) : Prop := ty_R u v
theorem i_up {k : Nat} {u : SX} {v : SY} (h : i_Rel k u v) : i_Rel (k + 3) u v := h
theorem ty_p0 (rm : Int32) (y : TyI) : ty_p 0 rm y := fun k => absurd rfl k
theorem ty_kdOk {n : Nat} {D : TyD} (C : ty_C lc ic oc L hi ho hu hs s t y z pe rm lw) (ok : ty_dOk hu n D) (hn : n = t.1) : ty_C lc ic oc L (ty_kd D).1 ho hu hs s (ty_kd D).2.1 (ty_kd D).2.2.1 z (ty_kd D).2.2.2.1 rm lw := by
  obtain ⟨⟨c1, c2, c3, c4, c5, c6, c7, c8⟩, o, q, p, qz, hl, hp⟩ := C
  have k := ok.2.2
  exact ⟨⟨c1, c2, c3, c4, c5, c6, c7, by show D.2.2.1.1 ≤ ic; omega⟩, o, ok.1, ok.2.1, qz, hl, ty_p0 _ _⟩
theorem ty_ckC (C : ty_C lc ic oc L hi ho hu hs s t y z pe rm lw) : ty_C lc ic oc L (ty_ck fl pe la rm ie ct hi hu t y).1 ho hu hs s (ty_ck fl pe la rm ie ct hi hu t y).2.1 (ty_ck fl pe la rm ie ct hi hu t y).2.2.1 z (ty_ck fl pe la rm ie ct hi hu t y).2.2.2.1 rm lw := by
  have C' := C
  obtain ⟨⟨c1, c2, c3, c4, c5, c6, c7, c8⟩, o, q, p, qz, hl, hp⟩ := C'
  unfold ty_ck
  by_cases a : pe = 0
  · simp only [if_pos a]; exact C
  · obtain ⟨r, hr1, hr2, rfl⟩ := hp a
    simp only [if_neg a, nI_clamp (show r < 2 ^ 31 by omega)]
    have le : ty_mi r t.1 ≤ t.1 ∧ ty_mi r t.1 ≤ r := by unfold ty_mi; split <;> omega
    by_cases b : fl &&& 1 = 0
    · simp only [if_pos b]
      by_cases c : ty_du (ct 8) (ct 9) (ty_nd (ct 8) (nI r)) (nI t.1) ie = 0
      · simp only [if_pos c]; exact C
      · simp only [if_neg c]
        exact ty_kdOk C (ty_drOk _ 0 hi t y q p le.1 (by omega)).1 rfl
    · simp only [if_neg b]
      by_cases c : ty_an t.2.2 t.1 0 = true
      · simp only [if_pos c]
        exact ty_kdOk C (ty_dlOk t.1 0 hi t y rfl q p (by omega) (by omega)) rfl
      · simp only [if_neg c]; exact C
theorem ty_mkK (C : ty_C lc ic oc L hi ho hu hs s t y z pe rm lw) : ty_R (nI lc, nI ic, nI oc, nI L, nI (ty_ck fl pe la rm ie ct hi hu t y).1, nI (ty_ck fl pe la rm ie ct hi hu t y).2.1.1, nI ho, nI s.1, nI hu, nI (ty_ck fl pe la rm ie ct hi hu t y).2.2.1.1, nI hs, nI z.1, fl, dr, s.2.1, st, fg, ie, (ty_ck fl pe la rm ie ct hi hu t y).2.2.2.1, (ty_ck fl pe la rm ie ct hi hu t y).2.2.2.2, rm, ln, lw, (ty_ck fl pe la rm ie ct hi hu t y).2.1.2.1, s.2.2.1, (ty_ck fl pe la rm ie ct hi hu t y).2.2.1.2.1, z.2.1, ct) (nI lc, nI ic, nI oc, nI L, nI (ty_ck fl pe la rm ie ct hi hu t y).2.1.1, nI s.1, nI (ty_ck fl pe la rm ie ct hi hu t y).2.2.1.1, nI z.1, fl, dr, s.2.1, fg, ie, rm, st, (ty_ck fl pe la rm ie ct hi hu t y).2.2.2.1, (ty_ck fl pe la rm ie ct hi hu t y).2.2.2.2, ln, lw, (ty_ck fl pe la rm ie ct hi hu t y).2.1.2.2, s.2.2.2, (ty_ck fl pe la rm ie ct hi hu t y).2.2.1.2.2, z.2.2, ct) :=
  ty_mk (hi := (ty_ck fl pe la rm ie ct hi hu t y).1) (t := (ty_ck fl pe la rm ie ct hi hu t y).2.1) (y := (ty_ck fl pe la rm ie ct hi hu t y).2.2.1) (pe := (ty_ck fl pe la rm ie ct hi hu t y).2.2.2.1) (la := (ty_ck fl pe la rm ie ct hi hu t y).2.2.2.2) (ty_ckC C)
theorem ty_lLess {l : Nat} (hl : ty_l lw L) (h : l ≤ L) : ty_l lw l := fun j hj => hl j (by omega)
theorem ty_lPush {x : Int32} (hl : ty_l lw L) (hw : ∃ w : Nat, w ≤ 15 ∧ x = nI w) : ty_l (upd lw L x) (L + 1) := by
  intro j hj
  by_cases e : j = L
  · subst e; rw [pk_us]; exact hw
  · rw [pk_un e]; exact hl j (by omega)
end TR
