section TB
variable {lc ic oc L hi ho hu hs m m' : Nat} {s : TyO} {t y z : TyI} {fl dr st fg ie pe la rm : Int32} {ln lw ct : TyF} {P : St2 → Prop} {Q : Int32 → St2 → Prop} {U : Int32 → Prop}
/-- a blank -/
def ty_bl (x : Int32) : Bool := if x = 32 then true else if x = 9 then true else false
theorem ty_bl1 {x : Int32} (h : ty_bl x = true) : x = 32 ∨ x = 9 := by
  unfold ty_bl at h
  by_cases a : x = 32
  · exact Or.inl a
  · by_cases b : x = 9
    · exact Or.inr b
    · rw [if_neg a, if_neg b] at h; exact absurd h (by decide)
theorem ty_bl0 {x : Int32} (h : ¬ ty_bl x = true) : ¬ x = 32 ∧ ¬ x = 9 := by
  refine ⟨fun a => h (if_pos a), fun b => h ?_⟩
  by_cases a : x = 32
  · exact if_pos a
  · exact (if_neg a).trans (if_pos b)
/-- where the blanks at the line's end begin, and where the word ahead of them -/
def ty_wb (ln : TyF) (L : Nat) : Nat := ty_ws (fun j => ty_bl (ln j)) L
def ty_ww (ln : TyF) (L : Nat) : Nat := ty_ws (fun j => !ty_bl (ln j)) L
theorem ty_wbS {ln : TyF} {j : Nat} (h : ty_bl (ln j) = true) : ty_wb ln (j + 1) = ty_wb ln j := if_pos h
theorem ty_wbE {ln : TyF} {j : Nat} (h : ¬ ty_bl (ln j) = true) : ty_wb ln (j + 1) = j + 1 := if_neg h
theorem ty_wwS {ln : TyF} {j : Nat} (h : ¬ ty_bl (ln j) = true) : ty_ww ln (j + 1) = ty_ww ln j := if_pos (by simp at h; simp [h])
theorem ty_wwE {ln : TyF} {j : Nat} (h : ty_bl (ln j) = true) : ty_ww ln (j + 1) = j + 1 := if_neg (by simp [h])
theorem ty_wble (ln : TyF) (j : Nat) : ty_wb ln j ≤ j := ty_wsle _ j
theorem ty_wwle (ln : TyF) (j : Nat) : ty_ww ln j ≤ j := ty_wsle _ j
theorem xb_1 {x : Int32} (h : ty_bl x = true) (p : U 1) : wpX_isBlank U () x := by
  by_cases a : x = 32
  · exact br_t a p
  · rcases ty_bl1 h with b | b
    · exact absurd b a
    · exact br_f a (br_t b p)
theorem xb_0 {x : Int32} (h : ¬ ty_bl x = true) (p : U 0) : wpX_isBlank U () x := br_f (ty_bl0 h).1 (br_f (ty_bl0 h).2 p)
theorem xw_29 : ∀ (j n : Nat), j < n → j ≤ 32 → U (nI (ty_ww ln j)) → wX_lastWordStart_29 U (nI lc) (nI ic) (nI oc) (nI L) (nI hi) (nI t.1) (nI ho) (nI s.1) (nI hu) (nI y.1) (nI hs) (nI z.1) fl dr s.2.1 st fg ie pe la rm ln lw t.2.1 s.2.2.1 y.2.1 z.2.1 ct n (nI j) := by
  intro j
  induction j with
  | zero =>
    intro n hn _ h
    obtain ⟨n, rfl⟩ : ∃ k, n = k + 1 := ⟨n - 1, by omega⟩
    exact pk_le 0 0 (fun _ => h) (fun e => absurd e (by omega))
  | succ j ih =>
    intro n hn h32 h
    obtain ⟨n, rfl⟩ : ∃ k, n = k + 1 := ⟨n - 1, by omega⟩
    refine pk_le (j + 1) 0 (fun e => absurd e (by omega)) (fun _ => ?_)
    rw [nI_pred]
    refine ⟨vp_in_nI (by omega) (by omega), ?_⟩
    rw [nI_clamp (n := j) (by omega)]
    by_cases c : ty_bl (ln j) = true
    · rw [ty_wwE c] at h
      exact xb_1 c (br_f (by decide) h)
    · rw [ty_wwS c] at h
      exact xb_0 c (br_t rfl (nm_r (pk_m1 j) (ih n (by omega) (by omega) h)))
theorem xw_5 : ∀ (j n : Nat), j < n → j ≤ 32 → U (nI (ty_ww ln (ty_wb ln j))) → wX_lastWordStart_5 U (nI lc) (nI ic) (nI oc) (nI L) (nI hi) (nI t.1) (nI ho) (nI s.1) (nI hu) (nI y.1) (nI hs) (nI z.1) fl dr s.2.1 st fg ie pe la rm ln lw t.2.1 s.2.2.1 y.2.1 z.2.1 ct n (nI j) := by
  intro j
  induction j with
  | zero =>
    intro n hn _ h
    obtain ⟨n, rfl⟩ : ∃ k, n = k + 1 := ⟨n - 1, by omega⟩
    exact pk_le 0 0 (fun _ => ⟨1, xw_29 0 1 (by omega) (by omega) h⟩) (fun e => absurd e (by omega))
  | succ j ih =>
    intro n hn h32 h
    obtain ⟨n, rfl⟩ : ∃ k, n = k + 1 := ⟨n - 1, by omega⟩
    refine pk_le (j + 1) 0 (fun e => absurd e (by omega)) (fun _ => ?_)
    rw [nI_pred]
    refine ⟨vp_in_nI (by omega) (by omega), ?_⟩
    rw [nI_clamp (n := j) (by omega)]
    by_cases c : ty_bl (ln j) = true
    · rw [ty_wbS c] at h
      exact xb_1 c (br_f (by decide) (nm_r (pk_m1 j) (ih n (by omega) (by omega) h)))
    · rw [ty_wbE c] at h
      exact xb_0 c (br_t rfl ⟨j + 2, xw_29 (j + 1) (j + 2) (by omega) (by omega) h⟩)
theorem xw_start (hL : L ≤ 32) (h : U (nI (ty_ww ln (ty_wb ln L)))) : wpX_lastWordStart U (nI lc, nI ic, nI oc, nI L, nI hi, nI t.1, nI ho, nI s.1, nI hu, nI y.1, nI hs, nI z.1, fl, dr, s.2.1, st, fg, ie, pe, la, rm, ln, lw, t.2.1, s.2.2.1, y.2.1, z.2.1, ct) := ⟨L + 1, xw_5 L (L + 1) (by omega) hL h⟩
/-- the echo behind an edit: only without ECHOE -/
def ty_ee (fl : Int32) (oc ho m : Nat) (s : TyO) : TyO := if fl &&& 4 = 0 then ty_echo fl oc ho m s else s
def ty_ek (fl : Int32) (oc ho m : Nat) (s : TyO) : TyO := if fl &&& 4 = 0 then ty_echo fl oc ho 10 (ty_echo fl oc ho m s) else s
theorem ty_oEe {oc ho m : Nat} {s : TyO} {fl : Int32} (h : ty_o oc ho s) (hc : oc ≤ 64) : ty_o oc ho (ty_ee fl oc ho m s) := by
  unfold ty_ee; split
  · exact ty_oEcho h hc
  · exact h
theorem ty_oEk {oc ho m : Nat} {s : TyO} {fl : Int32} (h : ty_o oc ho s) (hc : oc ≤ 64) : ty_o oc ho (ty_ek fl oc ho m s) := by
  unfold ty_ek; split
  · exact ty_oEcho (ty_oEcho h hc) hc
  · exact h
theorem ty_oCl {len : Nat} (ok : ty_o oc ho s) (hc : oc ≤ 64) : ty_o oc ho (ty_cut (ty_rl fl oc ho ln lw) len L s) := ty_oCut (fun _ _ h => ty_oRl h hc) L s ok
theorem xe_last {l : Nat} (hm : m < 256) (hl : ty_l lw (l + 1)) (hL : l + 1 ≤ 32) (hh : ho < 64) (hc : oc ≤ 64) (ok : ty_o oc ho s) (h : P (nI lc, nI ic, nI oc, nI l, nI hi, nI t.1, nI ho, nI (ty_ee fl oc ho m (ty_cut (ty_rl fl oc ho ln lw) l (l + 1) s)).1, nI hu, nI y.1, nI hs, nI z.1, fl, dr, (ty_ee fl oc ho m (ty_cut (ty_rl fl oc ho ln lw) l (l + 1) s)).2.1, st, fg, ie, pe, la, rm, ln, lw, t.2.1, (ty_ee fl oc ho m (ty_cut (ty_rl fl oc ho ln lw) l (l + 1) s)).2.2.1, y.2.1, z.2.1, ct)) : wpX_eraseLast P (nI lc, nI ic, nI oc, nI (l + 1), nI hi, nI t.1, nI ho, nI s.1, nI hu, nI y.1, nI hs, nI z.1, fl, dr, s.2.1, st, fg, ie, pe, la, rm, ln, lw, t.2.1, s.2.2.1, y.2.1, z.2.1, ct) (nI m) := by
  refine br_f (nI_ne0 (by omega) (by omega)) ?_
  rw [nI_pred]
  refine xo_cut hl hL hh hc ok (by omega) ?_
  unfold ty_ee at h
  have ok' : ty_o oc ho (ty_cut (ty_rl fl oc ho ln lw) l (l + 1) s) := ty_oCl ok hc
  by_cases c : fl &&& 4 = 0
  · simp only [if_pos c] at h
    refine xs_0 c ?_
    refine br_t rfl ?_
    exact xo_echo hm hh ok'.1 hc h
  · simp only [if_neg c] at h
    refine xs_1 c ?_
    exact br_f (by decide) h
theorem xe_word {l : Nat} (hm : m < 256) (hl : ty_l lw (l + 1)) (hL : l + 1 ≤ 32) (hh : ho < 64) (hc : oc ≤ 64) (ok : ty_o oc ho s) (h : P (nI lc, nI ic, nI oc, nI (ty_ww ln (ty_wb ln (l + 1))), nI hi, nI t.1, nI ho, nI (ty_ee fl oc ho m (ty_cut (ty_rl fl oc ho ln lw) (ty_ww ln (ty_wb ln (l + 1))) (l + 1) s)).1, nI hu, nI y.1, nI hs, nI z.1, fl, dr, (ty_ee fl oc ho m (ty_cut (ty_rl fl oc ho ln lw) (ty_ww ln (ty_wb ln (l + 1))) (l + 1) s)).2.1, st, fg, ie, pe, la, rm, ln, lw, t.2.1, (ty_ee fl oc ho m (ty_cut (ty_rl fl oc ho ln lw) (ty_ww ln (ty_wb ln (l + 1))) (l + 1) s)).2.2.1, y.2.1, z.2.1, ct)) : wpX_eraseWord P (nI lc, nI ic, nI oc, nI (l + 1), nI hi, nI t.1, nI ho, nI s.1, nI hu, nI y.1, nI hs, nI z.1, fl, dr, s.2.1, st, fg, ie, pe, la, rm, ln, lw, t.2.1, s.2.2.1, y.2.1, z.2.1, ct) (nI m) := by
  refine br_f (nI_ne0 (by omega) (by omega)) ?_
  refine xw_start hL ?_
  refine xo_cut hl hL hh hc ok (Nat.le_trans (ty_wwle _ _) (ty_wble _ _)) ?_
  unfold ty_ee at h
  have ok' : ty_o oc ho (ty_cut (ty_rl fl oc ho ln lw) (ty_ww ln (ty_wb ln (l + 1))) (l + 1) s) := ty_oCl ok hc
  by_cases c : fl &&& 4 = 0
  · simp only [if_pos c] at h
    refine xs_0 c ?_
    refine br_t rfl ?_
    exact xo_echo hm hh ok'.1 hc h
  · simp only [if_neg c] at h
    refine xs_1 c ?_
    exact br_f (by decide) h
theorem xe_kill {l : Nat} (hm : m < 256) (hl : ty_l lw (l + 1)) (hL : l + 1 ≤ 32) (hh : ho < 64) (hc : oc ≤ 64) (ok : ty_o oc ho s) (h : P (nI lc, nI ic, nI oc, nI 0, nI hi, nI t.1, nI ho, nI (ty_ek fl oc ho m (ty_cut (ty_rl fl oc ho ln lw) 0 (l + 1) s)).1, nI hu, nI y.1, nI hs, nI z.1, fl, dr, (ty_ek fl oc ho m (ty_cut (ty_rl fl oc ho ln lw) 0 (l + 1) s)).2.1, st, fg, ie, pe, la, rm, ln, lw, t.2.1, (ty_ek fl oc ho m (ty_cut (ty_rl fl oc ho ln lw) 0 (l + 1) s)).2.2.1, y.2.1, z.2.1, ct)) : wpX_killLine P (nI lc, nI ic, nI oc, nI (l + 1), nI hi, nI t.1, nI ho, nI s.1, nI hu, nI y.1, nI hs, nI z.1, fl, dr, s.2.1, st, fg, ie, pe, la, rm, ln, lw, t.2.1, s.2.2.1, y.2.1, z.2.1, ct) (nI m) := by
  refine br_f (nI_ne0 (by omega) (by omega)) ?_
  refine xo_cut (len := 0) hl hL hh hc ok (by omega) ?_
  unfold ty_ek at h
  have ok' : ty_o oc ho (ty_cut (ty_rl fl oc ho ln lw) 0 (l + 1) s) := ty_oCl ok hc
  by_cases c : fl &&& 4 = 0
  · simp only [if_pos c] at h
    refine xs_0 c ?_
    refine br_t rfl ?_
    refine xo_echo hm hh ok'.1 hc ?_
    exact xo_echo (m := 10) (by omega) hh (ty_oEcho ok' hc).1 hc h
  · simp only [if_neg c] at h
    refine xs_1 c ?_
    exact br_f (by decide) h
theorem xi_app {x : Int32} (hh : hi < 64) (hn : t.1 ≤ 64) (h : P (nI lc, nI ic, nI oc, nI L, nI hi, nI (ty_in hi x t).1, nI ho, nI s.1, nI hu, nI y.1, nI hs, nI z.1, fl, dr, s.2.1, st, fg, ie, pe, la, rm, ln, lw, (ty_in hi x t).2.1, s.2.2.1, y.2.1, z.2.1, ct)) : wpX_appendInput P (nI lc, nI ic, nI oc, nI L, nI hi, nI t.1, nI ho, nI s.1, nI hu, nI y.1, nI hs, nI z.1, fl, dr, s.2.1, st, fg, ie, pe, la, rm, ln, lw, t.2.1, s.2.2.1, y.2.1, z.2.1, ct) x :=
  ⟨ty_ringI hh hn, nm_r (congrArg (fun i => upd t.2.1 i x) (ty_ringC hh hn)) (nm_r (nI_1 t.1) h)⟩
theorem xi_passL {x : Int32} (hh : hi < 64) (hL : L ≤ 32) : ∀ (d k n : Nat) (t : TyI), k + d = L → d < n → t.1 + d ≤ 64 → P (nI lc, nI ic, nI oc, nI 0, nI hi, nI (ty_in hi x (ty_pl hi ln d k t)).1, nI ho, nI s.1, nI hu, nI y.1, nI hs, nI z.1, fl, dr, s.2.1, st, fg, ie, pe, la, rm, ln, lw, (ty_in hi x (ty_pl hi ln d k t)).2.1, s.2.2.1, y.2.1, z.2.1, ct) → wX_passLine_2 P x n (nI k) (nI lc) (nI ic) (nI oc) (nI L) (nI hi) (nI t.1) (nI ho) (nI s.1) (nI hu) (nI y.1) (nI hs) (nI z.1) fl dr s.2.1 st fg ie pe la rm ln lw t.2.1 s.2.2.1 y.2.1 z.2.1 ct := by
  intro d
  induction d with
  | zero =>
    intro k n t hk hn ht h
    obtain ⟨n, rfl⟩ : ∃ k, n = k + 1 := ⟨n - 1, by omega⟩
    exact pk_le L k (fun _ => xi_app hh (by omega) h) (fun e => absurd e (by omega))
  | succ d ih =>
    intro k n t hk hn ht h
    obtain ⟨n, rfl⟩ : ∃ k, n = k + 1 := ⟨n - 1, by omega⟩
    refine pk_le L k (fun e => absurd e (by omega)) (fun _ => ⟨vp_in_nI (by omega) (by omega), ?_⟩)
    rw [nI_clamp (n := k) (by omega)]
    exact xi_app hh (by omega) (nm_r (nI_1 k) (ih (k + 1) n (ty_in hi (ln k) t) (by omega) (by omega) (by show t.1 + 1 + d ≤ 64; omega) h))
theorem xi_pass {x : Int32} (hh : hi < 64) (hL : L ≤ 32) (ht : t.1 + L ≤ 64) (h : P (nI lc, nI ic, nI oc, nI 0, nI hi, nI (ty_in hi x (ty_pl hi ln L 0 t)).1, nI ho, nI s.1, nI hu, nI y.1, nI hs, nI z.1, fl, dr, s.2.1, st, fg, ie, pe, la, rm, ln, lw, (ty_in hi x (ty_pl hi ln L 0 t)).2.1, s.2.2.1, y.2.1, z.2.1, ct)) : wpX_passLine P (nI lc, nI ic, nI oc, nI L, nI hi, nI t.1, nI ho, nI s.1, nI hu, nI y.1, nI hs, nI z.1, fl, dr, s.2.1, st, fg, ie, pe, la, rm, ln, lw, t.2.1, s.2.2.1, y.2.1, z.2.1, ct) x :=
  ⟨L + 1, xi_passL hh hL L 0 (L + 1) t (by omega) (by omega) ht h⟩
end TB
