section TE
variable {lc ic oc L hi ho hu hs m m' : Nat} {s : TyO} {t y z : TyI} {fl dr st fg ie pe la rm : Int32} {ln lw ct : TyF} {P : SY → Prop} {Q : Int32 → SY → Prop} {U : Int32 → Prop}
theorem ty_cf9 (c r : Int32) : c + (8 - r) = c + 8 - r := by rw [Int32.sub_eq_add_neg, Int32.sub_eq_add_neg, Int32.add_assoc]
theorem yo_put (ho : Nat) (hm : m < 256) (hc : s.1 < 64) (h : P (nI lc, nI ic, nI oc, nI L, nI t.1, nI (ty_put ho m s).1, nI y.1, nI z.1, fl, dr, (ty_put ho m s).2.1, fg, ie, rm, st, pe, la, ln, lw, t.2.2, (ty_put ho m s).2.2.2, y.2.2, z.2.2, ct)) : wpY_put P (nI lc, nI ic, nI oc, nI L, nI t.1, nI s.1, nI y.1, nI z.1, fl, dr, s.2.1, fg, ie, rm, st, pe, la, ln, lw, t.2.2, s.2.2.2, y.2.2, z.2.2, ct) (nI m) := by
  have K : ∀ c', ty_cf m s.2.1 = c' → P (nI lc, nI ic, nI oc, nI L, nI t.1, nI (s.1 + 1), nI y.1, nI z.1, fl, dr, c', fg, ie, rm, st, pe, la, ln, lw, t.2.2, upd s.2.2.2 s.1 (nI m), y.2.2, z.2.2, ct) := fun c' e => by subst e; exact h
  refine pk_le 64 s.1 (fun e => absurd e (by omega)) (fun _ => ⟨vp_in_nI hc (by omega), nm_r (congrArg (fun i => upd s.2.2.2 i (nI m)) (nI_clamp (by omega))) (nm_r (nI_1 s.1) ?_)⟩)
  refine pk_eq m 8 (fun e => br_c (fun d => K _ ?_) (fun d => nm_e (K _ ?_))) (fun n8 => pk_eq m 9 (fun e => ⟨by decide, nm_e (K _ ?_)⟩) (fun n9 => pk_eq m 10 (fun e => K _ ?_) (fun n10 => pk_eq m 13 (fun e => K _ ?_) (fun n13 => pk_lt m 32 (fun e => pk_lt m 128 (fun _ => K _ ?_) (fun k => absurd k (by omega))) (fun n32 => pk_le m 126 (fun e => nm_e (K _ ?_)) (fun k => pk_lt m 128 (fun l => K _ ?_) (fun l => pk_lt 255 m (fun k => absurd k (by omega)) (fun _ => nm_e (K _ ?_)))))))))
  · subst e; exact (if_pos rfl).trans (if_pos d)
  · subst e; exact (if_pos rfl).trans (if_neg d)
  · subst e; exact ((if_neg (by decide)).trans (if_pos rfl)).trans (ty_cf9 _ _)
  · subst e; exact (if_neg (by decide)).trans ((if_neg (by decide)).trans (if_pos rfl))
  · subst e; exact (if_neg (by decide)).trans ((if_neg (by decide)).trans ((if_neg (by decide)).trans (if_pos rfl)))
  · exact (if_neg n8).trans ((if_neg n9).trans ((if_neg n10).trans ((if_neg n13).trans (if_neg (by omega)))))
  · exact ty_cfp _ n32 (by omega)
  · exact (if_neg n8).trans ((if_neg n9).trans ((if_neg n10).trans ((if_neg n13).trans ((if_pos n32).trans (if_pos (by omega))))))
  · exact ty_cfp _ n32 (by omega)
theorem yo_1 {x : Int32} (ho : Nat) (hm : m < 256) (hq : s.1 ≤ oc) (hc : oc ≤ 64) (h : Q (ty_b1 oc s) (nI lc, nI ic, nI oc, nI L, nI t.1, nI (ty_1 oc ho m s).1, nI y.1, nI z.1, fl, dr, (ty_1 oc ho m s).2.1, fg, ie, rm, st, pe, la, ln, lw, t.2.2, (ty_1 oc ho m s).2.2.2, y.2.2, z.2.2, ct)) : wpY_unit Q (nI lc, nI ic, nI oc, nI L, nI t.1, nI s.1, nI y.1, nI z.1, fl, dr, s.2.1, fg, ie, rm, st, pe, la, ln, lw, t.2.2, s.2.2.2, y.2.2, z.2.2, ct) 1 (nI m) x := by
  unfold ty_b1 ty_1 at h
  by_cases c : s.1 + 1 ≤ oc
  · simp only [if_pos c] at h
    refine pk_le 1 (oc - s.1) (fun _ => ?_) (fun e => absurd e (by omega)) (hy := pk_sub hq)
    refine yo_put ho hm (by omega) ?_
    exact br_f (by decide) h
  · simp only [if_neg c] at h
    exact pk_le 1 (oc - s.1) (fun e => absurd e (by omega)) (fun _ => h) (hy := pk_sub hq)
theorem yo_2 (ho : Nat) (hm : m < 256) (hm' : m' < 256) (hq : s.1 ≤ oc) (hc : oc ≤ 64) (h : Q (ty_b2 oc s) (nI lc, nI ic, nI oc, nI L, nI t.1, nI (ty_2 oc ho m m' s).1, nI y.1, nI z.1, fl, dr, (ty_2 oc ho m m' s).2.1, fg, ie, rm, st, pe, la, ln, lw, t.2.2, (ty_2 oc ho m m' s).2.2.2, y.2.2, z.2.2, ct)) : wpY_unit Q (nI lc, nI ic, nI oc, nI L, nI t.1, nI s.1, nI y.1, nI z.1, fl, dr, s.2.1, fg, ie, rm, st, pe, la, ln, lw, t.2.2, s.2.2.2, y.2.2, z.2.2, ct) 2 (nI m) (nI m') := by
  unfold ty_b2 ty_2 at h
  by_cases c : s.1 + 2 ≤ oc
  · simp only [if_pos c] at h
    refine pk_le 2 (oc - s.1) (fun _ => ?_) (fun e => absurd e (by omega)) (hy := pk_sub hq)
    refine yo_put ho hm (by omega) ?_
    refine br_t rfl ?_
    exact yo_put (s := ty_put ho m s) ho hm' (by show s.1 + 1 < 64; omega) h
  · simp only [if_neg c] at h
    exact pk_le 2 (oc - s.1) (fun e => absurd e (by omega)) (fun _ => h) (hy := pk_sub hq)
theorem ty_b1z {oc ho m : Nat} {s : TyO} (h : ty_b1 oc s = 0) : (ty_1 oc ho m s).2.1 = s.2.1 := by
  unfold ty_b1 at h
  unfold ty_1
  by_cases c : s.1 + 1 ≤ oc
  · rw [if_pos c] at h; exact absurd h (by decide)
  · rw [if_neg c]
theorem ty_b2z {oc ho m m' : Nat} {s : TyO} (h : ty_b2 oc s = 0) : (ty_2 oc ho m m' s).2.1 = s.2.1 := by
  unfold ty_b2 at h
  unfold ty_2
  by_cases c : s.1 + 2 ≤ oc
  · rw [if_pos c] at h; exact absurd h (by decide)
  · rw [if_neg c]
theorem yo_102 {b c : Int32} (hb : b = 0 → s.2.1 = c) (h : Q (s.2.1 - c) (nI lc, nI ic, nI oc, nI L, nI t.1, nI s.1, nI y.1, nI z.1, fl, dr, s.2.1, fg, ie, rm, st, pe, la, ln, lw, t.2.2, s.2.2.2, y.2.2, z.2.2, ct)) : wY_echo_102 Q c b (nI lc) (nI ic) (nI oc) (nI L) (nI t.1) (nI s.1) (nI y.1) (nI z.1) fl dr s.2.1 fg ie rm st pe la ln lw t.2.2 s.2.2.2 y.2.2 z.2.2 ct := by
  by_cases e : b = 0
  · have k : s.2.1 - c = 0 := by rw [hb e]; exact Int32.sub_self c
    rw [k] at h
    exact br_t e h
  · exact br_f e h
theorem yo_echo (ho : Nat) (hm : m < 256) (hq : s.1 ≤ oc) (hc : oc ≤ 64) (h : Q ((ty_echo fl oc ho m s).2.1 - s.2.1) (nI lc, nI ic, nI oc, nI L, nI t.1, nI (ty_echo fl oc ho m s).1, nI y.1, nI z.1, fl, dr, (ty_echo fl oc ho m s).2.1, fg, ie, rm, st, pe, la, ln, lw, t.2.2, (ty_echo fl oc ho m s).2.2.2, y.2.2, z.2.2, ct)) : wpY_echo Q (nI lc, nI ic, nI oc, nI L, nI t.1, nI s.1, nI y.1, nI z.1, fl, dr, s.2.1, fg, ie, rm, st, pe, la, ln, lw, t.2.2, s.2.2.2, y.2.2, z.2.2, ct) (nI m) := by
  unfold ty_echo at h
  by_cases c : fl &&& 2 = 0
  · simp only [if_pos c, Int32.sub_self] at h
    exact br_t c h
  · simp only [if_neg c] at h
    refine br_f c ?_
    have single : m = 9 ∨ (32 ≤ m ∧ m ≠ 127) → wY_echo_79 Q (nI m) s.2.1 (nI lc) (nI ic) (nI oc) (nI L) (nI t.1) (nI s.1) (nI y.1) (nI z.1) fl dr s.2.1 fg ie rm st pe la ln lw t.2.2 s.2.2.2 y.2.2 z.2.2 ct := fun k => by
      unfold wY_echo_79
      refine yo_1 ho hm hq hc ?_
      refine yo_102 ty_b1z ?_
      rcases k with k | ⟨k, l⟩
      · subst k; rw [ty_e9] at h; exact h
      · rw [ty_eP k l] at h; exact h
    have ctl : m ≠ 10 → m ≠ 9 → (m < 32 ∨ m = 127) → wY_echo_90 Q (nI m) s.2.1 (nI lc) (nI ic) (nI oc) (nI L) (nI t.1) (nI s.1) (nI y.1) (nI z.1) fl dr s.2.1 fg ie rm st pe la ln lw t.2.2 s.2.2.2 y.2.2 z.2.2 ct := fun n10 n9 k => by
      have x := ty_xr m (by omega) k
      have e : ty_e oc ho m s = ty_2 oc ho 94 (m ^^^ 64) s := by
        rcases k with k | k
        · exact ty_eC n10 n9 k
        · exact ty_eD k
      rw [e] at h
      unfold wY_echo_90
      rw [ty_xor]
      refine yo_2 (m := 94) (m' := m ^^^ 64) ho (by omega) (by omega) hq hc ?_
      exact yo_102 ty_b2z h
    refine pk_eq m 10 (fun e => ?_) (fun n10 => pk_eq m 9 (fun e => ?_) (fun n9 => pk_lt m 32 (fun e => pk_lt m 128 (fun _ => ctl n10 n9 (Or.inl e)) (fun k => absurd k (by omega))) (fun n32 => pk_le m 126 (fun e => single (Or.inr ⟨n32, by omega⟩)) (fun k => pk_lt m 128 (fun l => ctl n10 n9 (Or.inr (by omega))) (fun l => pk_lt 255 m (fun k => absurd k (by omega)) (fun _ => single (Or.inr ⟨n32, by omega⟩)))))))
    · subst e; rw [ty_e10] at h
      refine yo_2 (m := 13) (m' := 10) ho (by omega) (by omega) hq hc ?_
      exact yo_102 ty_b2z h
    · subst e; rw [ty_e9] at h
      refine yo_1 (m := 9) ho (by omega) hq hc ?_
      exact yo_102 ty_b1z h
theorem yo_bs {e : Int32} {w0 : Nat} (ho : Nat) (hc : oc ≤ 64) (hw : w0 ≤ 15) : ∀ (w i n : Nat) (s : TyO), i + w = w0 → w < n → (if e = 9 then w else w * 3) + s.1 ≤ oc → P (nI lc, nI ic, nI oc, nI L, nI t.1, nI (ty_bs ho e w s).1, nI y.1, nI z.1, fl, dr, (ty_bs ho e w s).2.1, fg, ie, rm, st, pe, la, ln, lw, t.2.2, (ty_bs ho e w s).2.2.2, y.2.2, z.2.2, ct) → wY_rubOut_61 P e (nI w0) n (nI i) (nI lc) (nI ic) (nI oc) (nI L) (nI t.1) (nI s.1) (nI y.1) (nI z.1) fl dr s.2.1 fg ie rm st pe la ln lw t.2.2 s.2.2.2 y.2.2 z.2.2 ct := by
  intro w
  induction w with
  | zero =>
    intro i n s hi hn hr h
    obtain ⟨n, rfl⟩ : ∃ k, n = k + 1 := ⟨n - 1, by omega⟩
    exact pk_le w0 i (fun _ => h) (fun e => absurd e (by omega))
  | succ w ih =>
    intro i n s hi hn hr h
    obtain ⟨n, rfl⟩ : ∃ k, n = k + 1 := ⟨n - 1, by omega⟩
    refine pk_le w0 i (fun e => absurd e (by omega)) (fun _ => pk_le 64 i (fun e => absurd e (by omega)) (fun _ => ?_))
    by_cases c : e = 9
    · rw [if_pos c] at hr
      have e1 : ty_bs ho e (w + 1) s = ty_bs ho e w (ty_put ho 8 s) := congrArg (ty_bs ho e w) (if_pos c)
      rw [e1] at h
      exact br_t c (yo_put (m := 8) ho (by omega) (by omega) (nm_r (nI_1 i) (ih (i + 1) n (ty_put ho 8 s) (by omega) (by omega) (by rw [if_pos c]; show w + (s.1 + 1) ≤ oc; omega) h)))
    · rw [if_neg c] at hr
      have e1 : ty_bs ho e (w + 1) s = ty_bs ho e w (ty_put ho 8 (ty_put ho 32 (ty_put ho 8 s))) := congrArg (ty_bs ho e w) (if_neg c)
      rw [e1] at h
      exact br_f c (yo_put (m := 8) ho (by omega) (by omega) (yo_put (m := 32) (s := ty_put ho 8 s) ho (by omega) (by show s.1 + 1 < 64; omega) (yo_put (m := 8) (s := ty_put ho 32 (ty_put ho 8 s)) ho (by omega) (by show s.1 + 1 + 1 < 64; omega) (nm_r (nI_1 i) (ih (i + 1) n _ (by omega) (by omega) (by rw [if_neg c]; show w * 3 + (s.1 + 1 + 1 + 1) ≤ oc; omega) h)))))
theorem ty_lle {x1 x2 : Int64} {A B : Prop} (a b : Nat) (f : a ≤ b → A) (g : b < a → B) (hx : x1 = lN a) (hy : x2 = lN b) (ha : a < 2 ^ 31) (hb : b < 2 ^ 31) : (x1 ≤ x2 → A) ∧ (¬ x1 ≤ x2 → B) := by
  subst hx hy
  rw [lN_le ha hb]
  exact ⟨f, fun k => g (by omega)⟩
theorem ty_rub0 (fl : Int32) (oc ho : Nat) (e : Int32) (s : TyO) : ty_rub fl oc ho e 0 s = s := by
  unfold ty_rub
  split
  · rfl
  · split
    · rfl
    · split <;> split <;> rfl
theorem yo_rub {e : Int32} {w : Nat} (ho : Nat) (hw : w ≤ 15) (hq : s.1 ≤ oc) (hc : oc ≤ 64) (h : P (nI lc, nI ic, nI oc, nI L, nI t.1, nI (ty_rub fl oc ho e w s).1, nI y.1, nI z.1, fl, dr, (ty_rub fl oc ho e w s).2.1, fg, ie, rm, st, pe, la, ln, lw, t.2.2, (ty_rub fl oc ho e w s).2.2.2, y.2.2, z.2.2, ct)) : wpY_rubOut P (nI lc, nI ic, nI oc, nI L, nI t.1, nI s.1, nI y.1, nI z.1, fl, dr, s.2.1, fg, ie, rm, st, pe, la, ln, lw, t.2.2, s.2.2.2, y.2.2, z.2.2, ct) e (nI w) := by
  have l1 : (nI oc - nI s.1).toInt64 = lN (oc - s.1) := by rw [pk_sub hq]; exact nI_l (by omega)
  by_cases c : fl &&& 2 = 0
  · unfold ty_rub at h
    simp only [if_pos c] at h
    exact br_t c h
  · by_cases d : fl &&& 4 = 0
    · unfold ty_rub at h
      simp only [if_neg c, if_pos d] at h
      exact br_f c (br_t d h)
    · refine br_f c (br_f d (pk_lt 0 w (fun w1 => ?_) (fun w1 => ?_)))
      · unfold ty_rub at h
        simp only [if_neg c, if_neg d] at h
        by_cases e9 : e = 9
        · simp only [if_pos e9] at h
          refine br_t e9 ?_
          by_cases r : w + s.1 ≤ oc
          · simp only [if_pos r] at h
            exact ty_lle w (oc - s.1) (fun _ => ⟨w + 1, yo_bs ho hc hw w 0 (w + 1) s (by omega) (by omega) (by rw [if_pos e9]; exact r) h⟩) (fun e => absurd e (by omega)) (nI_l (by omega)) l1 (by omega) (by omega)
          · simp only [if_neg r] at h
            exact ty_lle w (oc - s.1) (fun e => absurd e (by omega)) (fun _ => h) (nI_l (by omega)) l1 (by omega) (by omega)
        · simp only [if_neg e9] at h
          have l3 : 3 * (nI w).toInt64 = lN (3 * w) := by rw [nI_l (by omega)]; exact lN_mul 3 w
          refine br_f e9 ?_
          by_cases r : w * 3 + s.1 ≤ oc
          · simp only [if_pos r] at h
            exact ty_lle (3 * w) (oc - s.1) (fun _ => ⟨w + 1, yo_bs ho hc hw w 0 (w + 1) s (by omega) (by omega) (by rw [if_neg e9]; exact r) h⟩) (fun e => absurd e (by omega)) l3 l1 (by omega) (by omega)
          · simp only [if_neg r] at h
            exact ty_lle (3 * w) (oc - s.1) (fun e => absurd e (by omega)) (fun _ => h) l3 l1 (by omega) (by omega)
      · obtain rfl : w = 0 := by omega
        rw [ty_rub0] at h
        exact h
/-! the input's head shifted away -/
theorem ty_shE {b : TyF} {k : Nat} (hk : k < 64) : upd (ty_sh b (k + 1)) (nI (k + 1) - 1).toNatClampNeg (ty_sh b (k + 1) (nI (k + 1)).toNatClampNeg) = ty_sh b (k + 2) := by
  rw [nI_pred, nI_clamp (n := k) (by omega), nI_clamp (n := k + 1) (by omega), ty_shk]
  exact ty_shs b k
theorem yd_rmL {x : Int32} (h64 : t.1 ≤ 64) : ∀ (d k n : Nat), k + 1 + d = t.1 → d < n → Q x (nI lc, nI ic, nI oc, nI L, nI (ty_rm t).1, nI s.1, nI y.1, nI z.1, fl, dr, s.2.1, fg, ie, rm, st, pe, la, ln, lw, (ty_rm t).2.2, s.2.2.2, y.2.2, z.2.2, ct) → wY_removeInHead_9 Q x (nI lc) (nI ic) (nI oc) (nI L) (nI t.1) (nI s.1) (nI y.1) (nI z.1) fl dr s.2.1 fg ie rm st pe la n (nI (k + 1)) ln lw (ty_sh t.2.2 (k + 1)) s.2.2.2 y.2.2 z.2.2 ct := by
  intro d
  induction d with
  | zero =>
    intro k n hk hn h
    obtain ⟨n, rfl⟩ : ∃ k, n = k + 1 := ⟨n - 1, by omega⟩
    refine pk_le t.1 (k + 1) (fun _ => ?_) (fun e => absurd e (by omega))
    rw [show k + 1 = t.1 by omega]
    exact nm_r (ty_pred (by omega)) h
  | succ d ih =>
    intro k n hk hn h
    obtain ⟨n, rfl⟩ : ∃ k, n = k + 1 := ⟨n - 1, by omega⟩
    refine pk_le t.1 (k + 1) (fun e => absurd e (by omega)) (fun _ => pk_le 64 (k + 1) (fun e => absurd e (by omega)) (fun _ => ⟨vp_in_nI (by omega) (by omega), ?_, nm_r (ty_shE (by omega)) (nm_r (nI_1 (k + 1)) (ih (k + 1) n (by omega) (by omega) h))⟩))
    rw [nI_pred]; exact vp_in_nI (by omega) (by omega)
theorem yd_rm (h1 : 0 < t.1) (h64 : t.1 ≤ 64) (h : Q (t.2.2 0) (nI lc, nI ic, nI oc, nI L, nI (ty_rm t).1, nI s.1, nI y.1, nI z.1, fl, dr, s.2.1, fg, ie, rm, st, pe, la, ln, lw, (ty_rm t).2.2, s.2.2.2, y.2.2, z.2.2, ct)) : wpY_removeInHead Q (nI lc, nI ic, nI oc, nI L, nI t.1, nI s.1, nI y.1, nI z.1, fl, dr, s.2.1, fg, ie, rm, st, pe, la, ln, lw, t.2.2, s.2.2.2, y.2.2, z.2.2, ct) := by
  have k := yd_rmL (x := t.2.2 0) h64 (t.1 - 1) 0 (t.1 + 1) (by omega) (by omega) h
  rw [ty_sh1] at k
  exact nm_e ⟨t.1 + 1, k⟩
end TE
