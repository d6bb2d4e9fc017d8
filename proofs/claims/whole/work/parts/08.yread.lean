section TF
variable {lc ic oc L hi ho hu hs m m' : Nat} {s : TyO} {t y z : TyI} {fl dr st fg ie pe la rm : Int32} {ln lw ct : TyF} {P : SY → Prop} {Q : Int32 → SY → Prop} {U : Int32 → Prop}
theorem yc_221 {x1 x3 x4 z0 : Int32} (h : wY_check_314 P x1 (nI t.1) (ty_du x3 x4 z0 (nI t.1) ie) (nI lc) (nI ic) (nI oc) (nI L) (nI t.1) (nI s.1) (nI y.1) (nI z.1) fl dr s.2.1 fg ie rm st pe la ln lw t.2.2 s.2.2.2 y.2.2 z.2.2 ct) : wY_check_221 P x1 (nI t.1) x3 x4 z0 (nI lc) (nI ic) (nI oc) (nI L) (nI t.1) (nI s.1) (nI y.1) (nI z.1) fl dr s.2.1 fg ie rm st pe la ln lw t.2.2 s.2.2.2 y.2.2 z.2.2 ct := by
  unfold ty_du at h
  by_cases a : x3 = 0
  · rw [if_pos a] at h
    by_cases b : x4 = 0
    · rw [if_pos b] at h; exact br_t a (br_t b h)
    · rw [if_neg b] at h
      refine br_t a (br_f b (br_f b (br_t a ?_)))
      by_cases c : 1 ≤ nI t.1
      · rw [if_pos c] at h; exact br_t c h
      · rw [if_neg c] at h
        by_cases d : ie < x4
        · rw [if_pos d] at h; exact br_f c (br_t d h)
        · rw [if_neg d] at h; exact br_f c (br_f d h)
  · rw [if_neg a] at h
    refine br_f a ?_
    by_cases b : x4 = 0
    · rw [if_pos b] at h
      by_cases c : nI t.1 < z0
      · rw [if_pos c] at h; exact br_t b (br_t c h)
      · rw [if_neg c] at h; exact br_t b (br_f c h)
    · rw [if_neg b] at h
      refine br_f b (br_f a ?_)
      by_cases c : z0 ≤ nI t.1
      · rw [if_pos c] at h; exact br_t c h
      · rw [if_neg c] at h
        by_cases e : nI t.1 < 1
        · rw [if_pos e] at h; exact br_f c (br_t e h)
        · rw [if_neg e] at h
          by_cases d : ie < x4
          · rw [if_pos d] at h; exact br_f c (br_f e (br_t d h))
          · rw [if_neg d] at h; exact br_f c (br_f e (br_f d h))
theorem yc_341 {d0 : Nat} (hu : Nat) (hd : d0 ≤ 64) : ∀ (d c h f : Nat) (t y : TyI), c + d = d0 → t.1 ≤ 64 → d ≤ t.1 → y.1 + d ≤ 64 → d < f → P (nI lc, nI ic, nI oc, nI L, nI ((ty_dr hu d c h t y).2.2.1).1, nI s.1, nI ((ty_dr hu d c h t y).2.2.2).1, nI z.1, fl, dr, s.2.1, fg, ie, rm, st, 0, nI (ty_dr hu d c h t y).1, ln, lw, ((ty_dr hu d c h t y).2.2.1).2.2, s.2.2.2, ((ty_dr hu d c h t y).2.2.2).2.2, z.2.2, ct) → wY_check_341 P (nI d0) f (nI c) (nI c) (nI lc) (nI ic) (nI oc) (nI L) (nI t.1) (nI s.1) (nI y.1) (nI z.1) fl dr s.2.1 fg ie rm st pe la ln lw t.2.2 s.2.2.2 y.2.2 z.2.2 ct := by
  intro d
  induction d with
  | zero =>
    intro c h f t y hc q ht hy hf H
    obtain ⟨f, rfl⟩ : ∃ k, f = k + 1 := ⟨f - 1, by omega⟩
    exact pk_le d0 c (fun _ => H) (fun e => absurd e (by omega))
  | succ d ih =>
    intro c h f t y hc q ht hy hf H
    obtain ⟨f, rfl⟩ : ∃ k, f = k + 1 := ⟨f - 1, by omega⟩
    refine pk_le d0 c (fun e => absurd e (by omega)) (fun _ => pk_le 64 c (fun e => absurd e (by omega)) (fun _ => ?_))
    refine yd_rm (by omega) q ?_
    exact pk_le 64 y.1 (fun e => absurd e (by omega)) (fun _ => ⟨vp_in_nI (by omega) (by omega), nm_r (congrArg (fun i => upd y.2.2 i (t.2.2 0)) (nI_clamp (by omega))) (nm_r (nI_1 y.1) (nm_r (nI_1 c) (nm_r (nI_1 c) (ih (c + 1) ((h + 1) % 64) f (ty_rm t) (ty_in hu (t.2.2 0) y) (by omega) (by show t.1 - 1 ≤ 64; omega) (by show d ≤ t.1 - 1; omega) (by show y.1 + 1 + d ≤ 64; omega) (by omega) H))))⟩)
theorem yc_raw {r : Nat} (hi hu : Nat) (ht : t.1 ≤ 64) (hy : y.1 + r ≤ 64) {x6 : Int32} (h : P (nI lc, nI ic, nI oc, nI L, nI ((if x6 = 0 then (hi, t, y, pe, la) else ty_kd (ty_dr hu (ty_mi r t.1) 0 hi t y))).2.1.1, nI s.1, nI ((if x6 = 0 then (hi, t, y, pe, la) else ty_kd (ty_dr hu (ty_mi r t.1) 0 hi t y))).2.2.1.1, nI z.1, fl, dr, s.2.1, fg, ie, nI r, st, ((if x6 = 0 then (hi, t, y, pe, la) else ty_kd (ty_dr hu (ty_mi r t.1) 0 hi t y))).2.2.2.1, ((if x6 = 0 then (hi, t, y, pe, la) else ty_kd (ty_dr hu (ty_mi r t.1) 0 hi t y))).2.2.2.2, ln, lw, ((if x6 = 0 then (hi, t, y, pe, la) else ty_kd (ty_dr hu (ty_mi r t.1) 0 hi t y))).2.1.2.2, s.2.2.2, ((if x6 = 0 then (hi, t, y, pe, la) else ty_kd (ty_dr hu (ty_mi r t.1) 0 hi t y))).2.2.1.2.2, z.2.2, ct)) : wY_check_314 P 0 (nI t.1) x6 (nI lc) (nI ic) (nI oc) (nI L) (nI t.1) (nI s.1) (nI y.1) (nI z.1) fl dr s.2.1 fg ie (nI r) st pe la ln lw t.2.2 s.2.2.2 y.2.2 z.2.2 ct := by
  by_cases c : x6 = 0
  · simp only [if_pos c] at h
    exact br_t c h
  · simp only [if_neg c] at h
    refine br_f c (pk_le r t.1 (fun c => ?_) (fun c => ?_))
    · have e : ty_mi r t.1 = r := if_pos c
      rw [e] at h
      exact ⟨r + 1, yc_341 hu (by omega) r 0 hi (r + 1) t y (by omega) ht c (by omega) (by omega) h⟩
    · have e : ty_mi r t.1 = t.1 := if_neg (by omega)
      rw [e] at h
      exact ⟨t.1 + 1, yc_341 hu (by omega) t.1 0 hi (t.1 + 1) t y (by omega) ht (Nat.le_refl _) (by omega) (by omega) h⟩
theorem yc_75 {r : Nat} (hu : Nat) (hr : r ≤ 64) : ∀ (n c h i f : Nat) (t y : TyI), t.1 = n → t.1 ≤ 64 → i + n ≤ 64 → c ≤ r → y.1 + (r - c) ≤ 64 → n < f → P (nI lc, nI ic, nI oc, nI L, nI ((ty_dl hu r n c h t y).2.2.1).1, nI s.1, nI ((ty_dl hu r n c h t y).2.2.2).1, nI z.1, fl, dr, s.2.1, fg, ie, nI r, st, 0, nI (ty_dl hu r n c h t y).1, ln, lw, ((ty_dl hu r n c h t y).2.2.1).2.2, s.2.2.2, ((ty_dl hu r n c h t y).2.2.2).2.2, z.2.2, ct) → wY_check_75 P f (nI c) (nI i) (nI lc) (nI ic) (nI oc) (nI L) (nI t.1) (nI s.1) (nI y.1) (nI z.1) fl dr s.2.1 fg ie (nI r) st pe la ln lw t.2.2 s.2.2.2 y.2.2 z.2.2 ct := by
  intro n
  induction n with
  | zero =>
    intro c h i f t y ht q hi hc hy hf H
    obtain ⟨f, rfl⟩ : ∃ k, f = k + 1 := ⟨f - 1, by omega⟩
    exact pk_le 65 i (fun e => absurd e (by omega)) (fun _ => pk_eq t.1 0 (fun _ => H) (fun e => absurd ht e))
  | succ n ih =>
    intro c h i f t y ht q hi hc hy hf H
    obtain ⟨f, rfl⟩ : ∃ k, f = k + 1 := ⟨f - 1, by omega⟩
    refine pk_le 65 i (fun e => absurd e (by omega)) (fun _ => pk_eq t.1 0 (fun e => absurd e (by omega)) (fun _ => nm_e ?_))
    unfold ty_dl at H
    by_cases c1 : t.2.2 0 = 256
    · simp only [if_pos c1] at H
      refine br_t c1 ?_
      exact yd_rm (by omega) q H
    · simp only [if_neg c1] at H
      refine br_f c1 (pk_eq c r (fun e => ?_) (fun e => ?_))
      · simp only [if_pos e] at H
        exact H
      · simp only [if_neg e] at H
        refine yd_rm (by omega) q ?_
        refine pk_le 64 y.1 (fun e => absurd e (by omega)) (fun _ => ⟨vp_in_nI (by omega) (by omega), nm_r (congrArg (fun i => upd y.2.2 i (t.2.2 0)) (nI_clamp (by omega))) (nm_r (nI_1 y.1) (nm_r (nI_1 c) ?_))⟩)
        by_cases c3 : t.2.2 0 = 10
        · simp only [if_pos c3] at H
          exact br_t c3 H
        · simp only [if_neg c3] at H
          exact br_f c3 (nm_r (nI_1 i) (ih (c + 1) ((h + 1) % 64) (i + 1) f (ty_rm t) (ty_in hu (t.2.2 0) y) (by show t.1 - 1 = n; omega) (by show t.1 - 1 ≤ 64; omega) (by omega) (by omega) (by show y.1 + 1 + (r - (c + 1)) ≤ 64; omega) (by omega) H))
theorem yc_23 {x1 : Int32} (h64 : t.1 ≤ 64) : ∀ (d i n : Nat) (x2 : Int32), i + d = t.1 → d < n → wY_check_68 P x1 (if ty_an t.2.2 d i = true then 1 else x2) (nI lc) (nI ic) (nI oc) (nI L) (nI t.1) (nI s.1) (nI y.1) (nI z.1) fl dr s.2.1 fg ie rm st pe la ln lw t.2.2 s.2.2.2 y.2.2 z.2.2 ct → wY_check_23 P x1 (nI lc) (nI ic) (nI oc) (nI L) (nI t.1) (nI s.1) (nI y.1) (nI z.1) fl dr s.2.1 fg ie rm st pe la ln lw t.2.2 s.2.2.2 y.2.2 z.2.2 ct n x2 (nI i) := by
  intro d
  induction d with
  | zero =>
    intro i n x2 hi' hn h
    obtain ⟨n, rfl⟩ : ∃ k, n = k + 1 := ⟨n - 1, by omega⟩
    exact pk_le t.1 i (fun _ => h) (fun e => absurd e (by omega))
  | succ d ih =>
    intro i n x2 hi' hn h
    obtain ⟨n, rfl⟩ : ∃ k, n = k + 1 := ⟨n - 1, by omega⟩
    refine pk_le t.1 i (fun e => absurd e (by omega)) (fun _ => pk_le 64 i (fun e => absurd e (by omega)) (fun _ => ⟨vp_in_nI (by omega) (by omega), ?_⟩))
    rw [nI_clamp (n := i) (by omega)]
    unfold ty_an at h
    have one : ∀ b : Bool, (if b = true then (1 : Int32) else 1) = 1 := fun b => by cases b <;> rfl
    by_cases e : t.2.2 i = 10
    · rw [if_pos e, if_pos rfl] at h
      exact br_t e (nm_r (nI_1 i) (ih (i + 1) n 1 (by omega) (by omega) (by rw [one]; exact h)))
    · rw [if_neg e] at h
      by_cases e2 : t.2.2 i = 256
      · rw [if_pos e2, if_pos rfl] at h
        exact br_f e ⟨vp_in_nI (by omega) (by omega), br_t e2 (nm_r (nI_1 i) (ih (i + 1) n 1 (by omega) (by omega) (by rw [one]; exact h)))⟩
      · rw [if_neg e2] at h
        exact br_f e ⟨vp_in_nI (by omega) (by omega), br_f e2 (nm_r (nI_1 i) (ih (i + 1) n x2 (by omega) (by omega) h))⟩
theorem yc_check (hi hu : Nat) (h64 : t.1 ≤ 64) (hp : ty_p pe rm y) (h : P (nI lc, nI ic, nI oc, nI L, nI (ty_ck fl pe la rm ie ct hi hu t y).2.1.1, nI s.1, nI (ty_ck fl pe la rm ie ct hi hu t y).2.2.1.1, nI z.1, fl, dr, s.2.1, fg, ie, rm, st, (ty_ck fl pe la rm ie ct hi hu t y).2.2.2.1, (ty_ck fl pe la rm ie ct hi hu t y).2.2.2.2, ln, lw, (ty_ck fl pe la rm ie ct hi hu t y).2.1.2.2, s.2.2.2, (ty_ck fl pe la rm ie ct hi hu t y).2.2.1.2.2, z.2.2, ct)) : wpY_check P (nI lc, nI ic, nI oc, nI L, nI t.1, nI s.1, nI y.1, nI z.1, fl, dr, s.2.1, fg, ie, rm, st, pe, la, ln, lw, t.2.2, s.2.2.2, y.2.2, z.2.2, ct) := by
  unfold ty_ck at h
  by_cases a : pe = 0
  · simp only [if_pos a] at h; exact br_t a h
  · obtain ⟨r, hr1, hr2, rfl⟩ := hp a
    simp only [if_neg a, nI_clamp (show r < 2 ^ 31 by omega)] at h
    refine br_f a ?_
    by_cases b : fl &&& 1 = 0
    · simp only [if_pos b] at h
      unfold ty_nd at h
      refine br_t b (nm_e (nm_e ?_))
      by_cases c : nI r ≤ ct 8
      · simp only [if_pos c] at h
        exact br_t c (yc_221 (yc_raw hi hu h64 hr2 h))
      · simp only [if_neg c] at h
        exact br_f c (yc_221 (yc_raw hi hu h64 hr2 h))
    · simp only [if_neg b] at h
      refine br_f b ⟨t.1 + 1, yc_23 h64 t.1 0 (t.1 + 1) 0 (by omega) (by omega) ?_⟩
      by_cases c : ty_an t.2.2 t.1 0 = true
      · simp only [if_pos c] at h
        rw [if_pos c]
        exact br_f (by decide) ⟨t.1 + 1, yc_75 hu (by omega) t.1 0 hi 0 (t.1 + 1) t y rfl h64 (by omega) (by omega) (by omega) (by omega) h⟩
      · simp only [if_neg c] at h
        rw [if_neg c]
        exact br_t rfl h
end TF
