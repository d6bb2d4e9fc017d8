section TC
variable {lc ic oc L hi ho hu hs m m' : Nat} {s : TyO} {t y z : TyI} {fl dr st fg ie pe la rm : Int32} {ln lw ct : TyF} {P : St2 → Prop} {Q : Int32 → St2 → Prop} {U : Int32 → Prop}
theorem ty_at {i : Nat} (q : ty_i hi t) (h : i < t.1) : t.2.1 ((nI hi + nI i) &&& 63).toNatClampNeg = t.2.2 i := by
  rw [ty_ringC q.1 (by have := q.2.1; omega)]; exact q.2.2 i h
theorem ty_pred {n : Nat} (h : 0 < n) : nI n - 1 = nI (n - 1) := by
  obtain ⟨k, rfl⟩ : ∃ k, n = k + 1 := ⟨n - 1, by omega⟩
  exact nI_pred k
/-! the input's bytes counted -/
theorem xn_cntL (q : ty_i hi t) : ∀ (d i n c : Nat), i + d = t.1 → d < n → U (nI (c + ty_cn t.2.2 d i)) → wX_countInputBytes_4 U (nI lc) (nI ic) (nI oc) (nI L) (nI hi) (nI t.1) (nI ho) (nI s.1) (nI hu) (nI y.1) (nI hs) (nI z.1) fl dr s.2.1 st fg ie pe la rm ln lw t.2.1 s.2.2.1 y.2.1 z.2.1 ct n (nI c) (nI i) := by
  have q1 := q.1
  have q2 := q.2.1
  intro d
  induction d with
  | zero =>
    intro i n c hi' hn h
    obtain ⟨n, rfl⟩ : ∃ k, n = k + 1 := ⟨n - 1, by omega⟩
    exact pk_le t.1 i (fun _ => h) (fun e => absurd e (by omega))
  | succ d ih =>
    intro i n c hi' hn h
    obtain ⟨n, rfl⟩ : ∃ k, n = k + 1 := ⟨n - 1, by omega⟩
    refine pk_le t.1 i (fun e => absurd e (by omega)) (fun _ => ⟨ty_ringI q.1 (by omega), ?_⟩)
    rw [ty_at q (by omega)]
    by_cases e : t.2.2 i = 256
    · have e1 : c + ty_cn t.2.2 (d + 1) i = c + ty_cn t.2.2 d (i + 1) := by
        show c + ((if t.2.2 i = 256 then 0 else 1) + ty_cn t.2.2 d (i + 1)) = _
        rw [if_pos e]; omega
      rw [e1] at h
      exact br_t e (nm_r (nI_1 i) (ih (i + 1) n c (by omega) (by omega) h))
    · have e1 : c + ty_cn t.2.2 (d + 1) i = (c + 1) + ty_cn t.2.2 d (i + 1) := by
        show c + ((if t.2.2 i = 256 then 0 else 1) + ty_cn t.2.2 d (i + 1)) = _
        rw [if_neg e]; omega
      rw [e1] at h
      exact br_f e (nm_r (nI_1 c) (nm_r (nI_1 i) (ih (i + 1) n (c + 1) (by omega) (by omega) h)))
theorem xn_cnt (q : ty_i hi t) (h : U (nI (ty_cn t.2.2 t.1 0))) : wpX_countInputBytes U (nI lc, nI ic, nI oc, nI L, nI hi, nI t.1, nI ho, nI s.1, nI hu, nI y.1, nI hs, nI z.1, fl, dr, s.2.1, st, fg, ie, pe, la, rm, ln, lw, t.2.1, s.2.2.1, y.2.1, z.2.1, ct) :=
  ⟨t.1 + 1, xn_cntL q t.1 0 (t.1 + 1) 0 (by omega) (by omega) (by rw [Nat.zero_add]; exact h)⟩
/-! the marks taken out -/
theorem xf_rmL {N : Nat} : ∀ (d i n : Nat) (t : TyI), i + d = N → d < n → ty_f t.2.1 t.2.2 hi t.1 i N → P (nI lc, nI ic, nI oc, nI L, nI hi, nI (ty_fl hi d i t).1, nI ho, nI s.1, nI hu, nI y.1, nI hs, nI z.1, fl, dr, s.2.1, st, fg, ie, pe, la, rm, ln, lw, (ty_fl hi d i t).2.1, s.2.2.1, y.2.1, z.2.1, ct) → wX_removeEofMarks_4 P (nI lc) (nI ic) (nI oc) (nI L) (nI hi) (nI N) (nI ho) (nI s.1) (nI hu) (nI y.1) (nI hs) (nI z.1) fl dr s.2.1 st fg ie pe la rm n (nI t.1) (nI i) ln lw t.2.1 s.2.2.1 y.2.1 z.2.1 ct := by
  intro d
  induction d with
  | zero =>
    intro i n t hi' hn f h
    have f1 := f.1; have f2 := f.2.1; have f3 := f.2.2.1
    obtain ⟨n, rfl⟩ : ∃ k, n = k + 1 := ⟨n - 1, by omega⟩
    exact pk_le N i (fun _ => h) (fun e => absurd e (by omega))
  | succ d ih =>
    intro i n t hi' hn f h
    have f1 := f.1; have f2 := f.2.1; have f3 := f.2.2.1
    obtain ⟨n, rfl⟩ : ∃ k, n = k + 1 := ⟨n - 1, by omega⟩
    refine pk_le N i (fun e => absurd e (by omega)) (fun _ => ⟨ty_ringI f.1 (by omega), nm_r (e' := t.2.2 i) (by rw [ty_ringC f.1 (by omega)]; exact ty_fAt f (by omega)) ?_⟩)
    by_cases e : t.2.2 i = 256
    · have e1 : ty_fl hi (d + 1) i t = ty_fl hi d (i + 1) t := if_pos e
      rw [e1] at h
      exact br_t e (nm_r (nI_1 i) (ih (i + 1) n t (by omega) (by omega) (ty_fSkip f (by omega)) h))
    · have e1 : ty_fl hi (d + 1) i t = ty_fl hi d (i + 1) (ty_in hi (t.2.2 i) t) := if_neg e
      rw [e1] at h
      exact br_f e ⟨ty_ringI f.1 (by omega), nm_r (congrArg (fun k => upd t.2.1 k (t.2.2 i)) (ty_ringC f.1 (by omega))) (nm_r (nI_1 t.1) (nm_r (nI_1 i) (ih (i + 1) n (ty_in hi (t.2.2 i) t) (by omega) (by omega) (ty_fKeep _ f (by omega)) h)))⟩
theorem xf_rm (q : ty_i hi t) (h : P (nI lc, nI ic, nI oc, nI L, nI hi, nI (ty_fl hi t.1 0 (0, t.2)).1, nI ho, nI s.1, nI hu, nI y.1, nI hs, nI z.1, fl, dr, s.2.1, st, fg, ie, pe, la, rm, ln, lw, (ty_fl hi t.1 0 (0, t.2)).2.1, s.2.2.1, y.2.1, z.2.1, ct)) : wpX_removeEofMarks P (nI lc, nI ic, nI oc, nI L, nI hi, nI t.1, nI ho, nI s.1, nI hu, nI y.1, nI hs, nI z.1, fl, dr, s.2.1, st, fg, ie, pe, la, rm, ln, lw, t.2.1, s.2.2.1, y.2.1, z.2.1, ct) :=
  ⟨t.1 + 1, xf_rmL (N := t.1) t.1 0 (t.1 + 1) (0, t.2) (by omega) (by omega) (ty_f0 q) h⟩
theorem xf_spL (hh : hi < 64) (hL : L ≤ 32) (hc : ic ≤ 64) : ∀ (d k n : Nat) (t : TyI) (dr : Int32), k + d = L → d < n → t.1 ≤ ic → P (nI lc, nI ic, nI oc, nI 0, nI hi, nI ((ty_sp hi ic ln d k t dr).1).1, nI ho, nI s.1, nI hu, nI y.1, nI hs, nI z.1, fl, (ty_sp hi ic ln d k t dr).2, s.2.1, st, fg, ie, pe, la, rm, ln, lw, ((ty_sp hi ic ln d k t dr).1).2.1, s.2.2.1, y.2.1, z.2.1, ct) → wX_spillLine_2 P n (nI k) (nI lc) (nI ic) (nI oc) (nI L) (nI hi) (nI t.1) (nI ho) (nI s.1) (nI hu) (nI y.1) (nI hs) (nI z.1) fl dr s.2.1 st fg ie pe la rm ln lw t.2.1 s.2.2.1 y.2.1 z.2.1 ct := by
  intro d
  induction d with
  | zero =>
    intro k n t dr hk hn ht h
    obtain ⟨n, rfl⟩ : ∃ k, n = k + 1 := ⟨n - 1, by omega⟩
    exact pk_le L k (fun _ => h) (fun e => absurd e (by omega))
  | succ d ih =>
    intro k n t dr hk hn ht h
    obtain ⟨n, rfl⟩ : ∃ k, n = k + 1 := ⟨n - 1, by omega⟩
    refine pk_le L k (fun e => absurd e (by omega)) (fun _ => pk_le ic t.1 (fun c => ?_) (fun c => ⟨vp_in_nI (by omega) (by omega), ?_⟩))
    · have e1 : ty_sp hi ic ln (d + 1) k t dr = ty_sp hi ic ln d (k + 1) t (dr + 1) := if_neg (by omega)
      rw [e1] at h
      exact nm_e (nm_r (nI_1 k) (ih (k + 1) n t (dr + 1) (by omega) (by omega) ht h))
    · have e1 : ty_sp hi ic ln (d + 1) k t dr = ty_sp hi ic ln d (k + 1) (ty_in hi (ln k) t) dr := if_pos c
      rw [e1] at h
      rw [nI_clamp (n := k) (by omega)]
      exact xi_app hh (by omega) (nm_r (nI_1 k) (ih (k + 1) n (ty_in hi (ln k) t) dr (by omega) (by omega) c h))
theorem xf_sp (hh : hi < 64) (hL : L ≤ 32) (hc : ic ≤ 64) (ht : t.1 ≤ ic) (h : P (nI lc, nI ic, nI oc, nI 0, nI hi, nI ((ty_sp hi ic ln L 0 t dr).1).1, nI ho, nI s.1, nI hu, nI y.1, nI hs, nI z.1, fl, (ty_sp hi ic ln L 0 t dr).2, s.2.1, st, fg, ie, pe, la, rm, ln, lw, ((ty_sp hi ic ln L 0 t dr).1).2.1, s.2.2.1, y.2.1, z.2.1, ct)) : wpX_spillLine P (nI lc, nI ic, nI oc, nI L, nI hi, nI t.1, nI ho, nI s.1, nI hu, nI y.1, nI hs, nI z.1, fl, dr, s.2.1, st, fg, ie, pe, la, rm, ln, lw, t.2.1, s.2.2.1, y.2.1, z.2.1, ct) :=
  ⟨L + 1, xf_spL hh hL hc L 0 (L + 1) t dr (by omega) (by omega) ht h⟩
/-! the completion check -/
theorem xc_holdL (q : ty_i hi t) : ∀ (d i n : Nat), i + d = t.1 → d < n → U (if ty_an t.2.2 d i = true then 1 else 0) → wX_holdsLineEnd_2 U (nI lc) (nI ic) (nI oc) (nI L) (nI hi) (nI t.1) (nI ho) (nI s.1) (nI hu) (nI y.1) (nI hs) (nI z.1) fl dr s.2.1 st fg ie pe la rm ln lw t.2.1 s.2.2.1 y.2.1 z.2.1 ct n (nI i) := by
  have q1 := q.1
  have q2 := q.2.1
  intro d
  induction d with
  | zero =>
    intro i n hi' hn h
    obtain ⟨n, rfl⟩ : ∃ k, n = k + 1 := ⟨n - 1, by omega⟩
    exact pk_le t.1 i (fun _ => h) (fun e => absurd e (by omega))
  | succ d ih =>
    intro i n hi' hn h
    obtain ⟨n, rfl⟩ : ∃ k, n = k + 1 := ⟨n - 1, by omega⟩
    refine pk_le t.1 i (fun e => absurd e (by omega)) (fun _ => ⟨ty_ringI q.1 (by omega), nm_r (ty_at q (by omega)) ?_⟩)
    unfold ty_an at h
    by_cases e : t.2.2 i = 10
    · rw [if_pos e, if_pos rfl] at h; exact br_t e h
    · rw [if_neg e] at h
      by_cases e2 : t.2.2 i = 256
      · rw [if_pos e2, if_pos rfl] at h; exact br_f e (br_t e2 h)
      · rw [if_neg e2] at h
        exact br_f e (br_f e2 (nm_r (nI_1 i) (ih (i + 1) n (by omega) (by omega) h)))
theorem xc_hold (q : ty_i hi t) (h : U (if ty_an t.2.2 t.1 0 = true then 1 else 0)) : wpX_holdsLineEnd U (nI lc, nI ic, nI oc, nI L, nI hi, nI t.1, nI ho, nI s.1, nI hu, nI y.1, nI hs, nI z.1, fl, dr, s.2.1, st, fg, ie, pe, la, rm, ln, lw, t.2.1, s.2.2.1, y.2.1, z.2.1, ct) := ⟨t.1 + 1, xc_holdL q t.1 0 (t.1 + 1) (by omega) (by omega) h⟩
theorem xd_drop (hh : hi < 64) (hn : 0 < t.1) (h : P (nI lc, nI ic, nI oc, nI L, nI ((hi + 1) % 64), nI (ty_rm t).1, nI ho, nI s.1, nI hu, nI y.1, nI hs, nI z.1, fl, dr, s.2.1, st, fg, ie, pe, la, rm, ln, lw, (ty_rm t).2.1, s.2.2.1, y.2.1, z.2.1, ct)) : wpX_dropInputHead P (nI lc, nI ic, nI oc, nI L, nI hi, nI t.1, nI ho, nI s.1, nI hu, nI y.1, nI hs, nI z.1, fl, dr, s.2.1, st, fg, ie, pe, la, rm, ln, lw, t.2.1, s.2.2.1, y.2.1, z.2.1, ct) := nm_r (ty_ring1 hh) (nm_r (ty_pred hn) h)
theorem xd_user {x : Int32} (hh : hu < 64) (hn : y.1 ≤ 64) (h : P (nI lc, nI ic, nI oc, nI L, nI hi, nI t.1, nI ho, nI s.1, nI hu, nI (ty_in hu x y).1, nI hs, nI z.1, fl, dr, s.2.1, st, fg, ie, pe, la, rm, ln, lw, t.2.1, s.2.2.1, (ty_in hu x y).2.1, z.2.1, ct)) : wpX_appendUser P (nI lc, nI ic, nI oc, nI L, nI hi, nI t.1, nI ho, nI s.1, nI hu, nI y.1, nI hs, nI z.1, fl, dr, s.2.1, st, fg, ie, pe, la, rm, ln, lw, t.2.1, s.2.2.1, y.2.1, z.2.1, ct) x :=
  ⟨ty_ringI hh hn, nm_r (congrArg (fun i => upd y.2.1 i x) (ty_ringC hh hn)) (nm_r (nI_1 y.1) h)⟩
theorem xd_lineL {r : Nat} (hh : hu < 64) (hr : r ≤ 64) : ∀ (n c h f : Nat) (t y : TyI), t.1 = n → ty_i h t → c ≤ r → y.1 + (r - c) ≤ 64 → n < f → Q (nI (ty_dl hu r n c h t y).1) (nI lc, nI ic, nI oc, nI L, nI (ty_dl hu r n c h t y).2.1, nI ((ty_dl hu r n c h t y).2.2.1).1, nI ho, nI s.1, nI hu, nI ((ty_dl hu r n c h t y).2.2.2).1, nI hs, nI z.1, fl, dr, s.2.1, st, fg, ie, pe, la, nI r, ln, lw, ((ty_dl hu r n c h t y).2.2.1).2.1, s.2.2.1, ((ty_dl hu r n c h t y).2.2.2).2.1, z.2.1, ct) → wX_deliverLine_7 Q f (nI c) (nI n) (nI lc) (nI ic) (nI oc) (nI L) (nI h) (nI t.1) (nI ho) (nI s.1) (nI hu) (nI y.1) (nI hs) (nI z.1) fl dr s.2.1 st fg ie pe la (nI r) ln lw t.2.1 s.2.2.1 y.2.1 z.2.1 ct := by
  intro n
  induction n with
  | zero =>
    intro c h f t y ht q hc hy hf H
    obtain ⟨f, rfl⟩ : ∃ k, f = k + 1 := ⟨f - 1, by omega⟩
    exact pk_le 0 0 (fun _ => H) (fun e => absurd e (by omega))
  | succ n ih =>
    intro c h f t y ht q hc hy hf H
    have q1 := q.1; have q2 := q.2.1
    obtain ⟨f, rfl⟩ : ∃ k, f = k + 1 := ⟨f - 1, by omega⟩
    refine pk_le (n + 1) 0 (fun e => absurd e (by omega)) (fun _ => ⟨vp_in_nI q1 (by omega), nm_r (e' := t.2.2 0) (by rw [nI_clamp (by omega)]; exact ty_iHd q (by omega)) ?_⟩)
    unfold ty_dl at H
    by_cases c1 : t.2.2 0 = 256
    · simp only [if_pos c1] at H
      refine br_t c1 ?_
      exact xd_drop q1 (by omega) H
    · simp only [if_neg c1] at H
      refine br_f c1 (pk_eq c r (fun e => ?_) (fun e => ?_))
      · simp only [if_pos e] at H
        exact H
      · simp only [if_neg e] at H
        refine xd_drop q1 (by omega) ?_
        refine xd_user hh (by omega) ?_
        refine nm_r (nI_1 c) ?_
        by_cases c3 : t.2.2 0 = 10
        · simp only [if_pos c3] at H
          rw [c3] at H ⊢
          exact br_t rfl H
        · simp only [if_neg c3] at H
          exact br_f c3 (nm_r (pk_m1 n) (ih (c + 1) _ f (ty_rm t) (ty_in hu (t.2.2 0) y) (by show t.1 - 1 = n; omega) (ty_iRm q (by omega)) (by omega) (by show y.1 + 1 + (r - (c + 1)) ≤ 64; omega) (by omega) H))
theorem xd_line {r : Nat} (hh : hu < 64) (q : ty_i hi t) (hy : y.1 + r ≤ 64) (h : Q (nI (ty_dl hu r t.1 0 hi t y).1) (nI lc, nI ic, nI oc, nI L, nI (ty_dl hu r t.1 0 hi t y).2.1, nI ((ty_dl hu r t.1 0 hi t y).2.2.1).1, nI ho, nI s.1, nI hu, nI ((ty_dl hu r t.1 0 hi t y).2.2.2).1, nI hs, nI z.1, fl, dr, s.2.1, st, fg, ie, pe, la, nI r, ln, lw, ((ty_dl hu r t.1 0 hi t y).2.2.1).2.1, s.2.2.1, ((ty_dl hu r t.1 0 hi t y).2.2.2).2.1, z.2.1, ct)) : wpX_deliverLine Q (nI lc, nI ic, nI oc, nI L, nI hi, nI t.1, nI ho, nI s.1, nI hu, nI y.1, nI hs, nI z.1, fl, dr, s.2.1, st, fg, ie, pe, la, nI r, ln, lw, t.2.1, s.2.2.1, y.2.1, z.2.1, ct) :=
  ⟨t.1 + 1, xd_lineL hh (by omega) t.1 0 hi (t.1 + 1) t y rfl q (by omega) (by omega) (by omega) h⟩
theorem xd_rawL {d0 : Nat} (hh : hu < 64) (hd : d0 ≤ 64) : ∀ (d c h f : Nat) (t y : TyI), c + d = d0 → ty_i h t → d ≤ t.1 → y.1 + d ≤ 64 → d < f → Q (nI d0) (nI lc, nI ic, nI oc, nI L, nI (ty_dr hu d c h t y).2.1, nI ((ty_dr hu d c h t y).2.2.1).1, nI ho, nI s.1, nI hu, nI ((ty_dr hu d c h t y).2.2.2).1, nI hs, nI z.1, fl, dr, s.2.1, st, fg, ie, pe, la, rm, ln, lw, ((ty_dr hu d c h t y).2.2.1).2.1, s.2.2.1, ((ty_dr hu d c h t y).2.2.2).2.1, z.2.1, ct) → wX_deliverRaw_25 Q (nI d0) f (nI c) (nI lc) (nI ic) (nI oc) (nI L) (nI h) (nI t.1) (nI ho) (nI s.1) (nI hu) (nI y.1) (nI hs) (nI z.1) fl dr s.2.1 st fg ie pe la rm ln lw t.2.1 s.2.2.1 y.2.1 z.2.1 ct := by
  intro d
  induction d with
  | zero =>
    intro c h f t y hc q ht hy hf H
    obtain ⟨f, rfl⟩ : ∃ k, f = k + 1 := ⟨f - 1, by omega⟩
    exact pk_le d0 c (fun _ => H) (fun e => absurd e (by omega))
  | succ d ih =>
    intro c h f t y hc q ht hy hf H
    have q1 := q.1; have q2 := q.2.1
    obtain ⟨f, rfl⟩ : ∃ k, f = k + 1 := ⟨f - 1, by omega⟩
    refine pk_le d0 c (fun e => absurd e (by omega)) (fun _ => ⟨vp_in_nI q1 (by omega), nm_r (e' := t.2.2 0) (by rw [nI_clamp (by omega)]; exact ty_iHd q (by omega)) ?_⟩)
    refine xd_drop q1 (by omega) ?_
    refine xd_user hh (by omega) ?_
    exact nm_r (nI_1 c) (ih (c + 1) _ f (ty_rm t) (ty_in hu (t.2.2 0) y) (by omega) (ty_iRm q (by omega)) (by show d ≤ t.1 - 1; omega) (by show y.1 + 1 + d ≤ 64; omega) (by omega) H)
theorem xd_raw {r : Nat} (hh : hu < 64) (q : ty_i hi t) (hy : y.1 + r ≤ 64) (h : Q (nI (ty_dr hu (ty_mi r t.1) 0 hi t y).1) (nI lc, nI ic, nI oc, nI L, nI (ty_dr hu (ty_mi r t.1) 0 hi t y).2.1, nI ((ty_dr hu (ty_mi r t.1) 0 hi t y).2.2.1).1, nI ho, nI s.1, nI hu, nI ((ty_dr hu (ty_mi r t.1) 0 hi t y).2.2.2).1, nI hs, nI z.1, fl, dr, s.2.1, st, fg, ie, pe, la, nI r, ln, lw, ((ty_dr hu (ty_mi r t.1) 0 hi t y).2.2.1).2.1, s.2.2.1, ((ty_dr hu (ty_mi r t.1) 0 hi t y).2.2.2).2.1, z.2.1, ct)) (ok : ty_i hu y) : wpX_deliverRaw Q (nI lc, nI ic, nI oc, nI L, nI hi, nI t.1, nI ho, nI s.1, nI hu, nI y.1, nI hs, nI z.1, fl, dr, s.2.1, st, fg, ie, pe, la, nI r, ln, lw, t.2.1, s.2.2.1, y.2.1, z.2.1, ct) := by
  have q2 := q.2.1
  have le : ty_mi r t.1 ≤ t.1 ∧ ty_mi r t.1 ≤ r := by unfold ty_mi; split <;> omega
  rw [(ty_drOk (ty_mi r t.1) 0 hi t y q ok le.1 (by omega)).2, Nat.zero_add] at h
  refine pk_le r t.1 (fun c => ?_) (fun c => ?_)
  · have e : ty_mi r t.1 = r := if_pos c
    rw [e] at h
    exact ⟨r + 1, xd_rawL hh (by omega) r 0 hi (r + 1) t y (by omega) q c (by omega) (by omega) h⟩
  · have e : ty_mi r t.1 = t.1 := if_neg (by omega)
    rw [e] at h
    exact ⟨t.1 + 1, xd_rawL hh (by omega) t.1 0 hi (t.1 + 1) t y (by omega) q (Nat.le_refl _) (by omega) (by omega) h⟩
theorem xc_due32 {x1 x2 z0 : Int32} (h : U (ty_du x1 x2 z0 (nI t.1) ie)) : wX_rawReadIsDue_32 U x1 x2 z0 (nI lc) (nI ic) (nI oc) (nI L) (nI hi) (nI t.1) (nI ho) (nI s.1) (nI hu) (nI y.1) (nI hs) (nI z.1) fl dr s.2.1 st fg ie pe la rm ln lw t.2.1 s.2.2.1 y.2.1 z.2.1 ct := by
  unfold ty_du at h
  by_cases a : x1 = 0
  · rw [if_pos a] at h
    by_cases b : x2 = 0
    · rw [if_pos b] at h; exact br_t a (br_t b h)
    · rw [if_neg b] at h
      refine br_t a (br_f b (br_f b (br_t a ?_)))
      by_cases c : 1 ≤ nI t.1
      · rw [if_pos c] at h; exact br_t c h
      · rw [if_neg c] at h
        by_cases d : ie < x2
        · rw [if_pos d] at h; exact br_f c (br_t d h)
        · rw [if_neg d] at h; exact br_f c (br_f d h)
  · rw [if_neg a] at h
    refine br_f a ?_
    by_cases b : x2 = 0
    · rw [if_pos b] at h
      by_cases c : nI t.1 < z0
      · rw [if_pos c] at h; exact br_t b (br_t c h)
      · rw [if_neg c] at h; exact br_t b (br_f c h)
    · rw [if_neg b] at h
      refine br_f b (br_f a ?_)
      by_cases c : z0 ≤ nI t.1
      · rw [if_pos c] at h; exact br_t c h
      · rw [if_neg c] at h
        by_cases e : nI t.1 < 1
        · rw [if_pos e] at h; exact br_f c (br_t e h)
        · rw [if_neg e] at h
          by_cases d : ie < x2
          · rw [if_pos d] at h; exact br_f c (br_f e (br_t d h))
          · rw [if_neg d] at h; exact br_f c (br_f e (br_f d h))
theorem xc_due (h : U (ty_du (ct 8) (ct 9) (ty_nd (ct 8) rm) (nI t.1) ie)) : wpX_rawReadIsDue U (nI lc, nI ic, nI oc, nI L, nI hi, nI t.1, nI ho, nI s.1, nI hu, nI y.1, nI hs, nI z.1, fl, dr, s.2.1, st, fg, ie, pe, la, rm, ln, lw, t.2.1, s.2.2.1, y.2.1, z.2.1, ct) := by
  unfold ty_nd at h
  by_cases c : rm ≤ ct 8
  · rw [if_pos c] at h; exact nm_e (nm_e (br_t c (xc_due32 h)))
  · rw [if_neg c] at h; exact nm_e (nm_e (br_f c (xc_due32 h)))
theorem xc_check (q : ty_i hi t) (p : ty_i hu y) (hp : ty_p pe rm y) (h : P (nI lc, nI ic, nI oc, nI L, nI (ty_ck fl pe la rm ie ct hi hu t y).1, nI ((ty_ck fl pe la rm ie ct hi hu t y).2.1).1, nI ho, nI s.1, nI hu, nI ((ty_ck fl pe la rm ie ct hi hu t y).2.2.1).1, nI hs, nI z.1, fl, dr, s.2.1, st, fg, ie, (ty_ck fl pe la rm ie ct hi hu t y).2.2.2.1, (ty_ck fl pe la rm ie ct hi hu t y).2.2.2.2, rm, ln, lw, ((ty_ck fl pe la rm ie ct hi hu t y).2.1).2.1, s.2.2.1, ((ty_ck fl pe la rm ie ct hi hu t y).2.2.1).2.1, z.2.1, ct)) : wpX_checkCompletion P (nI lc, nI ic, nI oc, nI L, nI hi, nI t.1, nI ho, nI s.1, nI hu, nI y.1, nI hs, nI z.1, fl, dr, s.2.1, st, fg, ie, pe, la, rm, ln, lw, t.2.1, s.2.2.1, y.2.1, z.2.1, ct) := by
  unfold ty_ck at h
  by_cases a : pe = 0
  · simp only [if_pos a] at h; exact br_t a h
  · obtain ⟨r, hr1, hr2, rfl⟩ := hp a
    simp only [if_neg a, nI_clamp (show r < 2 ^ 31 by omega)] at h
    refine br_f a ?_
    by_cases b : fl &&& 1 = 0
    · simp only [if_pos b] at h
      refine xs_0 b ?_
      refine br_t rfl ?_
      refine xc_due ?_
      by_cases c : ty_du (ct 8) (ct 9) (ty_nd (ct 8) (nI r)) (nI t.1) ie = 0
      · simp only [if_pos c] at h
        exact br_t c h
      · simp only [if_neg c] at h
        refine br_f c ?_
        exact xd_raw p.1 q hr2 h p
    · simp only [if_neg b] at h
      refine xs_1 b ?_
      refine br_f (by decide) ?_
      refine xc_hold q ?_
      by_cases c : ty_an t.2.2 t.1 0 = true
      · simp only [if_pos c] at h
        rw [if_pos c]
        refine br_f (by decide) ?_
        exact xd_line p.1 q hr2 h
      · simp only [if_neg c] at h
        rw [if_neg c]
        exact br_t rfl h
end TC
