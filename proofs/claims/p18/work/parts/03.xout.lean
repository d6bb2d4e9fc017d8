section TA
variable {lc ic oc L hi ho hu hs m m' : Nat} {s : TyO} {t y z : TyI} {fl dr st fg ie pe la rm : Int32} {ln lw ct : TyF} {P : St2 → Prop} {Q : Int32 → St2 → Prop} {U : Int32 → Prop}
theorem ty_e10 (oc ho : Nat) (s : TyO) : ty_e oc ho 10 s = ty_2 oc ho 13 10 s := if_pos rfl
theorem ty_e9 (oc ho : Nat) (s : TyO) : ty_e oc ho 9 s = ty_1 oc ho 9 s := (if_neg (by decide)).trans (if_pos rfl)
theorem ty_eC {oc ho m : Nat} {s : TyO} (h1 : m ≠ 10) (h2 : m ≠ 9) (h3 : m < 32) : ty_e oc ho m s = ty_2 oc ho 94 (m ^^^ 64) s := (if_neg h1).trans ((if_neg h2).trans (if_neg (by omega)))
theorem ty_eD {oc ho m : Nat} {s : TyO} (h : m = 127) : ty_e oc ho m s = ty_2 oc ho 94 (m ^^^ 64) s := (if_neg (by omega)).trans ((if_neg (by omega)).trans ((if_pos (by omega)).trans (if_pos h)))
theorem ty_eP {oc ho m : Nat} {s : TyO} (h1 : 32 ≤ m) (h2 : m ≠ 127) : ty_e oc ho m s = ty_1 oc ho m s := (if_neg (by omega)).trans ((if_neg (by omega)).trans ((if_pos h1).trans (if_neg h2)))
theorem xs_0 {k : Int32} (h : fl &&& k = 0) (p : U 0) : wpX_isSet U (nI lc, nI ic, nI oc, nI L, nI hi, nI t.1, nI ho, nI s.1, nI hu, nI y.1, nI hs, nI z.1, fl, dr, s.2.1, st, fg, ie, pe, la, rm, ln, lw, t.2.1, s.2.2.1, y.2.1, z.2.1, ct) k := br_t h p
theorem xs_1 {k : Int32} (h : ¬ fl &&& k = 0) (p : U 1) : wpX_isSet U (nI lc, nI ic, nI oc, nI L, nI hi, nI t.1, nI ho, nI s.1, nI hu, nI y.1, nI hs, nI z.1, fl, dr, s.2.1, st, fg, ie, pe, la, rm, ln, lw, t.2.1, s.2.2.1, y.2.1, z.2.1, ct) k := br_f h p
theorem xo_app (hm : m < 256) (hh : ho < 64) (hc : s.1 < 64) (h : P (nI lc, nI ic, nI oc, nI L, nI hi, nI t.1, nI ho, nI (ty_put ho m s).1, nI hu, nI y.1, nI hs, nI z.1, fl, dr, (ty_put ho m s).2.1, st, fg, ie, pe, la, rm, ln, lw, t.2.1, (ty_put ho m s).2.2.1, y.2.1, z.2.1, ct)) : wpX_appendOutput P (nI lc, nI ic, nI oc, nI L, nI hi, nI t.1, nI ho, nI s.1, nI hu, nI y.1, nI hs, nI z.1, fl, dr, s.2.1, st, fg, ie, pe, la, rm, ln, lw, t.2.1, s.2.2.1, y.2.1, z.2.1, ct) (nI m) := by
  have K : ∀ c', ty_cf m s.2.1 = c' → P (nI lc, nI ic, nI oc, nI L, nI hi, nI t.1, nI ho, nI (s.1 + 1), nI hu, nI y.1, nI hs, nI z.1, fl, dr, c', st, fg, ie, pe, la, rm, ln, lw, t.2.1, upd s.2.2.1 ((ho + s.1) % 64) (nI m), y.2.1, z.2.1, ct) := fun c' e => by subst e; exact h
  refine ⟨ty_ringI hh (by omega), nm_r (congrArg (fun i => upd s.2.2.1 i (nI m)) (ty_ringC hh (by omega))) (nm_r (nI_1 s.1) ?_)⟩
  refine pk_eq m 8 (fun e => br_c (fun d => K _ ?_) (fun d => nm_e (K _ ?_))) (fun n8 => pk_eq m 9 (fun e => ⟨by decide, nm_e (K _ ?_)⟩) (fun n9 => pk_eq m 10 (fun e => K _ ?_) (fun n10 => pk_eq m 13 (fun e => K _ ?_) (fun n13 => pk_lt m 32 (fun e => K _ ?_) (fun n32 => pk_eq m 127 (fun e => K _ ?_) (fun n127 => nm_e (K _ ?_)))))))
  · subst e; exact (if_pos rfl).trans (if_pos d)
  · subst e; exact (if_pos rfl).trans (if_neg d)
  · subst e; exact (if_neg (by decide)).trans (if_pos rfl)
  · subst e; exact (if_neg (by decide)).trans ((if_neg (by decide)).trans (if_pos rfl))
  · subst e; exact (if_neg (by decide)).trans ((if_neg (by decide)).trans ((if_neg (by decide)).trans (if_pos rfl)))
  · exact (if_neg n8).trans ((if_neg n9).trans ((if_neg n10).trans ((if_neg n13).trans (if_neg (by omega)))))
  · exact (if_neg n8).trans ((if_neg n9).trans ((if_neg n10).trans ((if_neg n13).trans ((if_pos n32).trans (if_pos e)))))
  · exact (if_neg n8).trans ((if_neg n9).trans ((if_neg n10).trans ((if_neg n13).trans ((if_pos n32).trans (if_neg n127)))))
theorem xo_1 (hm : m < 256) (hh : ho < 64) (hq : s.1 ≤ oc) (hc : oc ≤ 64) (h : Q (ty_b1 oc s) (nI lc, nI ic, nI oc, nI L, nI hi, nI t.1, nI ho, nI (ty_1 oc ho m s).1, nI hu, nI y.1, nI hs, nI z.1, fl, dr, (ty_1 oc ho m s).2.1, st, fg, ie, pe, la, rm, ln, lw, t.2.1, (ty_1 oc ho m s).2.2.1, y.2.1, z.2.1, ct)) : wpX_putSingle Q (nI lc, nI ic, nI oc, nI L, nI hi, nI t.1, nI ho, nI s.1, nI hu, nI y.1, nI hs, nI z.1, fl, dr, s.2.1, st, fg, ie, pe, la, rm, ln, lw, t.2.1, s.2.2.1, y.2.1, z.2.1, ct) (nI m) := by
  unfold ty_b1 ty_1 at h
  by_cases c : s.1 + 1 ≤ oc
  · simp only [if_pos c] at h
    exact pk_le 1 (oc - s.1) (fun _ => xo_app hm hh (by omega) h) (fun e => absurd e (by omega)) (hy := pk_sub hq)
  · simp only [if_neg c] at h
    exact pk_le 1 (oc - s.1) (fun e => absurd e (by omega)) (fun _ => h) (hy := pk_sub hq)
theorem xo_2 (hm : m < 256) (hm' : m' < 256) (hh : ho < 64) (hq : s.1 ≤ oc) (hc : oc ≤ 64) (h : Q (ty_b2 oc s) (nI lc, nI ic, nI oc, nI L, nI hi, nI t.1, nI ho, nI (ty_2 oc ho m m' s).1, nI hu, nI y.1, nI hs, nI z.1, fl, dr, (ty_2 oc ho m m' s).2.1, st, fg, ie, pe, la, rm, ln, lw, t.2.1, (ty_2 oc ho m m' s).2.2.1, y.2.1, z.2.1, ct)) : wpX_putPair Q (nI lc, nI ic, nI oc, nI L, nI hi, nI t.1, nI ho, nI s.1, nI hu, nI y.1, nI hs, nI z.1, fl, dr, s.2.1, st, fg, ie, pe, la, rm, ln, lw, t.2.1, s.2.2.1, y.2.1, z.2.1, ct) (nI m) (nI m') := by
  unfold ty_b2 ty_2 at h
  by_cases c : s.1 + 2 ≤ oc
  · simp only [if_pos c] at h
    exact pk_le 2 (oc - s.1) (fun _ => xo_app hm hh (by omega) (xo_app (s := ty_put ho m s) hm' hh (by show s.1 + 1 < 64; omega) h)) (fun e => absurd e (by omega)) (hy := pk_sub hq)
  · simp only [if_neg c] at h
    exact pk_le 2 (oc - s.1) (fun e => absurd e (by omega)) (fun _ => h) (hy := pk_sub hq)
theorem xo_echo (hm : m < 256) (hh : ho < 64) (hq : s.1 ≤ oc) (hc : oc ≤ 64) (h : Q ((ty_echo fl oc ho m s).2.1 - s.2.1) (nI lc, nI ic, nI oc, nI L, nI hi, nI t.1, nI ho, nI (ty_echo fl oc ho m s).1, nI hu, nI y.1, nI hs, nI z.1, fl, dr, (ty_echo fl oc ho m s).2.1, st, fg, ie, pe, la, rm, ln, lw, t.2.1, (ty_echo fl oc ho m s).2.2.1, y.2.1, z.2.1, ct)) : wpX_echoByte Q (nI lc, nI ic, nI oc, nI L, nI hi, nI t.1, nI ho, nI s.1, nI hu, nI y.1, nI hs, nI z.1, fl, dr, s.2.1, st, fg, ie, pe, la, rm, ln, lw, t.2.1, s.2.2.1, y.2.1, z.2.1, ct) (nI m) := by
  unfold ty_echo at h
  unfold wpX_echoByte
  by_cases c : fl &&& 2 = 0
  · simp only [if_pos c, Int32.sub_self] at h
    refine xs_0 c ?_
    exact br_t rfl h
  · simp only [if_neg c] at h
    refine xs_1 c ?_
    refine br_f (by decide) ?_
    refine pk_eq m 10 (fun e => ?_) (fun n10 => pk_eq m 9 (fun e => ?_) (fun n9 => pk_lt m 32 (fun e => ?_) (fun n32 => pk_eq m 127 (fun e => ?_) (fun n127 => ?_))))
    · subst e; rw [ty_e10] at h; exact xo_2 (m := 13) (m' := 10) (by omega) (by omega) hh hq hc h
    · subst e; rw [ty_e9] at h; exact xo_1 (m := 9) (by omega) hh hq hc h
    · rw [ty_eC n10 n9 e] at h
      have x := ty_xr m (by omega) (Or.inl e)
      unfold wX_echoByte_60
      rw [ty_xor]
      exact xo_2 (m := 94) (m' := m ^^^ 64) (by omega) (by omega) hh hq hc h
    · rw [ty_eD e] at h
      have x := ty_xr m (by omega) (Or.inr e)
      unfold wX_echoByte_60
      rw [ty_xor]
      exact xo_2 (m := 94) (m' := m ^^^ 64) (by omega) (by omega) hh hq hc h
    · rw [ty_eP n32 n127] at h; exact xo_1 hm hh hq hc h
theorem xo_bs {e x3 : Int32} {w0 : Nat} (hx : x3 = 0 ↔ e = 9) (hh : ho < 64) (hc : oc ≤ 64) (hw : w0 ≤ 15) : ∀ (w i n : Nat) (s : TyO), i + w = w0 → w < n → (if e = 9 then w else w * 3) + s.1 ≤ oc → P (nI lc, nI ic, nI oc, nI L, nI hi, nI t.1, nI ho, nI (ty_bs ho e w s).1, nI hu, nI y.1, nI hs, nI z.1, fl, dr, (ty_bs ho e w s).2.1, st, fg, ie, pe, la, rm, ln, lw, t.2.1, (ty_bs ho e w s).2.2.1, y.2.1, z.2.1, ct) → wX_rubOut_60 P (nI w0) x3 n (nI i) (nI lc) (nI ic) (nI oc) (nI L) (nI hi) (nI t.1) (nI ho) (nI s.1) (nI hu) (nI y.1) (nI hs) (nI z.1) fl dr s.2.1 st fg ie pe la rm ln lw t.2.1 s.2.2.1 y.2.1 z.2.1 ct := by
  intro w
  induction w with
  | zero =>
    intro i n s hi hn hr h
    obtain ⟨n, rfl⟩ : ∃ k, n = k + 1 := ⟨n - 1, by omega⟩
    exact pk_le w0 i (fun _ => h) (fun e => absurd e (by omega))
  | succ w ih =>
    intro i n s hi hn hr h
    obtain ⟨n, rfl⟩ : ∃ k, n = k + 1 := ⟨n - 1, by omega⟩
    refine pk_le w0 i (fun e => absurd e (by omega)) (fun _ => ?_)
    by_cases c : e = 9
    · rw [if_pos c] at hr
      have e1 : ty_bs ho e (w + 1) s = ty_bs ho e w (ty_put ho 8 s) := congrArg (ty_bs ho e w) (if_pos c)
      rw [e1] at h
      exact xo_app (m := 8) (by omega) hh (by omega) (br_t (hx.mpr c) (nm_r (nI_1 i) (ih (i + 1) n (ty_put ho 8 s) (by omega) (by omega) (by rw [if_pos c]; show w + (s.1 + 1) ≤ oc; omega) h)))
    · rw [if_neg c] at hr
      have e1 : ty_bs ho e (w + 1) s = ty_bs ho e w (ty_put ho 8 (ty_put ho 32 (ty_put ho 8 s))) := congrArg (ty_bs ho e w) (if_neg c)
      rw [e1] at h
      exact xo_app (m := 8) (by omega) hh (by omega) (br_f (fun k => c (hx.mp k)) (xo_app (m := 32) (s := ty_put ho 8 s) (by omega) hh (by show s.1 + 1 < 64; omega) (xo_app (m := 8) (s := ty_put ho 32 (ty_put ho 8 s)) (by omega) hh (by show s.1 + 1 + 1 < 64; omega) (nm_r (nI_1 i) (ih (i + 1) n _ (by omega) (by omega) (by rw [if_neg c]; show w * 3 + (s.1 + 1 + 1 + 1) ≤ oc; omega) h)))))
theorem xo_rub {e : Int32} {w : Nat} (hw : w ≤ 15) (hh : ho < 64) (hq : s.1 ≤ oc) (hc : oc ≤ 64) (h : P (nI lc, nI ic, nI oc, nI L, nI hi, nI t.1, nI ho, nI (ty_rub fl oc ho e w s).1, nI hu, nI y.1, nI hs, nI z.1, fl, dr, (ty_rub fl oc ho e w s).2.1, st, fg, ie, pe, la, rm, ln, lw, t.2.1, (ty_rub fl oc ho e w s).2.2.1, y.2.1, z.2.1, ct)) : wpX_rubOut P (nI lc, nI ic, nI oc, nI L, nI hi, nI t.1, nI ho, nI s.1, nI hu, nI y.1, nI hs, nI z.1, fl, dr, s.2.1, st, fg, ie, pe, la, rm, ln, lw, t.2.1, s.2.2.1, y.2.1, z.2.1, ct) e (nI w) := by
  unfold ty_rub at h
  unfold wpX_rubOut
  by_cases c : fl &&& 2 = 0
  · simp only [if_pos c] at h
    refine xs_0 c ?_
    exact br_t rfl h
  · simp only [if_neg c] at h
    refine xs_1 c ?_
    refine br_f (by decide) ?_
    by_cases d : fl &&& 4 = 0
    · simp only [if_pos d] at h
      refine xs_0 d ?_
      exact br_t rfl h
    · simp only [if_neg d] at h
      refine xs_1 d ?_
      refine br_f (by decide) ?_
      by_cases e9 : e = 9
      · simp only [if_pos e9] at h
        refine br_t e9 (br_t rfl ?_)
        by_cases r : w + s.1 ≤ oc
        · simp only [if_pos r] at h
          exact pk_le w (oc - s.1) (fun _ => ⟨w + 1, xo_bs (e := e) (by simp [e9]) hh hc hw w 0 (w + 1) s (by omega) (by omega) (by rw [if_pos e9]; exact r) h⟩) (fun e => absurd e (by omega)) (hy := pk_sub hq)
        · simp only [if_neg r] at h
          exact pk_le w (oc - s.1) (fun e => absurd e (by omega)) (fun _ => h) (hy := pk_sub hq)
      · simp only [if_neg e9] at h
        refine br_f e9 (br_f (by decide) ?_)
        by_cases r : w * 3 + s.1 ≤ oc
        · simp only [if_pos r] at h
          exact pk_le (w * 3) (oc - s.1) (fun _ => ⟨w + 1, xo_bs (e := e) (by simp [e9]) hh hc hw w 0 (w + 1) s (by omega) (by omega) (by rw [if_neg e9]; exact r) h⟩) (fun e => absurd e (by omega)) (hx := pk_mul w 3) (hy := pk_sub hq)
        · simp only [if_neg r] at h
          exact pk_le (w * 3) (oc - s.1) (fun e => absurd e (by omega)) (fun _ => h) (hx := pk_mul w 3) (hy := pk_sub hq)
theorem ty_m1 (x : Int32) : x + (-1) = x - 1 := (Int32.sub_eq_add_neg x 1).symm
theorem ty_m1lt {n : Nat} (h : n < 2 ^ 31) : nI n - 1 < nI n := by
  cases n with
  | zero => decide
  | succ n => rw [nI_pred]; exact nI_lt (by omega) h
theorem ty_rlE {j w : Nat} (ew : lw j = nI w) (hw : w ≤ 15) : ty_rl fl oc ho ln lw j s = ty_rub fl oc ho (ln j) w s := by
  unfold ty_rl; rw [ew, nI_clamp (by omega)]
theorem ty_oRl {j : Nat} (h : ty_o oc ho s) (hc : oc ≤ 64) : ty_o oc ho (ty_rl fl oc ho ln lw j s) := ty_oRub h hc
theorem xo_cutL {len : Nat} (hl : ty_l lw L) (hL : L ≤ 32) (hh : ho < 64) (hc : oc ≤ 64) : ∀ (j n : Nat) (s : TyO), len ≤ j → j ≤ L → j < n + len → ty_o oc ho s → P (nI lc, nI ic, nI oc, nI len, nI hi, nI t.1, nI ho, nI (ty_cut (ty_rl fl oc ho ln lw) len j s).1, nI hu, nI y.1, nI hs, nI z.1, fl, dr, (ty_cut (ty_rl fl oc ho ln lw) len j s).2.1, st, fg, ie, pe, la, rm, ln, lw, t.2.1, (ty_cut (ty_rl fl oc ho ln lw) len j s).2.2.1, y.2.1, z.2.1, ct) → wX_cutLine_7 P (nI len) n (nI j - 1) (nI lc) (nI ic) (nI oc) (nI L) (nI hi) (nI t.1) (nI ho) (nI s.1) (nI hu) (nI y.1) (nI hs) (nI z.1) fl dr s.2.1 st fg ie pe la rm ln lw t.2.1 s.2.2.1 y.2.1 z.2.1 ct := by
  intro j
  induction j with
  | zero =>
    intro n s h1 h2 h3 ok h
    obtain ⟨n, rfl⟩ : ∃ k, n = k + 1 := ⟨n - 1, by omega⟩
    obtain rfl : len = 0 := by omega
    exact br_t (ty_m1lt (by omega)) h
  | succ j ih =>
    intro n s h1 h2 h3 ok h
    obtain ⟨n, rfl⟩ : ∃ k, n = k + 1 := ⟨n - 1, by omega⟩
    by_cases c : len = j + 1
    · subst c
      rw [ty_cutE] at h
      exact br_t (ty_m1lt (by omega)) h
    · rw [ty_cutS _ _ (show len ≤ j by omega)] at h
      obtain ⟨w, hw, ew⟩ := hl j (by omega)
      rw [ty_rlE ew hw] at h
      rw [nI_pred]
      refine pk_lt j len (fun e => absurd e (by omega)) (fun _ => ⟨vp_in_nI (by omega) (by omega), vp_in_nI (by omega) (by omega), ?_⟩)
      rw [nI_clamp (n := j) (by omega), ew]
      exact xo_rub hw hh ok.1 hc (nm_r (ty_m1 (nI j)) (ih n _ (by omega) (by omega) (by omega) (ty_oRub ok hc) h))
theorem xo_cut {len : Nat} (hl : ty_l lw L) (hL : L ≤ 32) (hh : ho < 64) (hc : oc ≤ 64) (ok : ty_o oc ho s) (h1 : len ≤ L) (h : P (nI lc, nI ic, nI oc, nI len, nI hi, nI t.1, nI ho, nI (ty_cut (ty_rl fl oc ho ln lw) len L s).1, nI hu, nI y.1, nI hs, nI z.1, fl, dr, (ty_cut (ty_rl fl oc ho ln lw) len L s).2.1, st, fg, ie, pe, la, rm, ln, lw, t.2.1, (ty_cut (ty_rl fl oc ho ln lw) len L s).2.2.1, y.2.1, z.2.1, ct)) : wpX_cutLine P (nI lc, nI ic, nI oc, nI L, nI hi, nI t.1, nI ho, nI s.1, nI hu, nI y.1, nI hs, nI z.1, fl, dr, s.2.1, st, fg, ie, pe, la, rm, ln, lw, t.2.1, s.2.2.1, y.2.1, z.2.1, ct) (nI len) :=
  nm_e ⟨L + 1, xo_cutL hl hL hh hc L (L + 1) s h1 (Nat.le_refl L) (by omega) ok h⟩
end TA
