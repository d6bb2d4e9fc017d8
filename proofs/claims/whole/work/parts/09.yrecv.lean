section TG
variable {lc ic oc L hi ho hu hs m m' : Nat} {s : TyO} {t y z : TyI} {fl dr st fg ie pe la rm : Int32} {ln lw ct : TyF} {P : SY → Prop} {Q : Int32 → SY → Prop} {x4 : Int32}
theorem yr_987 {a : Int32} (hi hu : Nat) (h64 : t.1 ≤ 64) (hp : ty_p pe rm y) (h : Q a (nI lc, nI ic, nI oc, nI L, nI (ty_ck fl pe la rm ie ct hi hu t y).2.1.1, nI s.1, nI (ty_ck fl pe la rm ie ct hi hu t y).2.2.1.1, nI z.1, fl, dr, s.2.1, fg, ie, rm, st, (ty_ck fl pe la rm ie ct hi hu t y).2.2.2.1, (ty_ck fl pe la rm ie ct hi hu t y).2.2.2.2, ln, lw, (ty_ck fl pe la rm ie ct hi hu t y).2.1.2.2, s.2.2.2, (ty_ck fl pe la rm ie ct hi hu t y).2.2.1.2.2, z.2.2, ct)) : wY_receive_987 Q a (nI lc) (nI ic) (nI oc) (nI L) (nI t.1) (nI s.1) (nI y.1) (nI z.1) fl dr s.2.1 fg ie rm st pe la ln lw t.2.2 s.2.2.2 y.2.2 z.2.2 ct := yc_check hi hu h64 hp h
theorem yr_ra1 (hi ho : Nat) (b : fl &&& 1 = 0) (hm : m < 256) (ht : t.1 < ic) (hc : ic ≤ 64) (hc' : oc ≤ 64) (hq : s.1 ≤ oc) (h : wY_receive_987 Q 6 (nI lc) (nI ic) (nI oc) (nI L) (nI (ty_in hi (nI m) t).1) (nI (ty_echo fl oc ho m s).1) (nI y.1) (nI z.1) fl dr ((ty_echo fl oc ho m s).2.1) fg 0 rm st pe la ln lw ((ty_in hi (nI m) t).2.2) ((ty_echo fl oc ho m s).2.2.2) y.2.2 z.2.2 ct) : wY_receive_279 Q (nI m) x4 (nI lc) (nI ic) (nI oc) (nI L) (nI t.1) (nI s.1) (nI y.1) (nI z.1) fl dr s.2.1 fg ie rm st pe la ln lw t.2.2 s.2.2.2 y.2.2 z.2.2 ct := by
  refine br_t b (pk_lt t.1 ic (fun _ => ⟨vp_in_nI (by omega) (by omega), nm_r (congrArg (fun i => upd t.2.2 i (nI m)) (nI_clamp (by omega))) (nm_r (nI_1 t.1) ?_)⟩) (fun e => absurd e (by omega)))
  exact yo_echo (t := ty_in hi (nI m) t) ho hm hq hc' h
theorem yr_ra0 (b : fl &&& 1 = 0) (ht : ic ≤ t.1) (hc : t.1 ≤ 64) (h : wY_receive_987 Q 7 (nI lc) (nI ic) (nI oc) (nI L) (nI t.1) (nI s.1) (nI y.1) (nI z.1) fl (dr + 1) s.2.1 fg ie rm st pe la ln lw t.2.2 s.2.2.2 y.2.2 z.2.2 ct) : wY_receive_279 Q (nI m) x4 (nI lc) (nI ic) (nI oc) (nI L) (nI t.1) (nI s.1) (nI y.1) (nI z.1) fl dr s.2.1 fg ie rm st pe la ln lw t.2.2 s.2.2.2 y.2.2 z.2.2 ct :=
  br_t b (pk_lt t.1 ic (fun e => absurd e (by omega)) (fun _ => nm_e h))
theorem ty_rl4 {j : Nat} (c : fl &&& 4 = 0) : ty_rl fl oc ho ln lw j s = s := by
  unfold ty_rl ty_rub
  by_cases d : fl &&& 2 = 0
  · rw [if_pos d]
  · rw [if_neg d, if_pos c]
theorem ty_cut1 {l : Nat} : ty_cut (ty_rl fl oc ho ln lw) l (l + 1) s = ty_rl fl oc ho ln lw l s := by
  rw [ty_cutS _ _ (Nat.le_refl l), ty_cutE]
theorem yr_er0 (b : ¬ fl &&& 1 = 0) (e2 : nI m = ct 2) (h : wY_receive_987 Q 4 (nI lc) (nI ic) (nI oc) (nI 0) (nI t.1) (nI s.1) (nI y.1) (nI z.1) fl dr s.2.1 fg ie rm st pe la ln lw t.2.2 s.2.2.2 y.2.2 z.2.2 ct) : wY_receive_279 Q (nI m) x4 (nI lc) (nI ic) (nI oc) (nI 0) (nI t.1) (nI s.1) (nI y.1) (nI z.1) fl dr s.2.1 fg ie rm st pe la ln lw t.2.2 s.2.2.2 y.2.2 z.2.2 ct :=
  br_f b (br_t e2 (pk_le 0 0 (fun _ => h) (fun e => absurd e (by omega))))
theorem yr_er1 {l : Nat} (ho : Nat) (hx : x4 = 0 ↔ fl &&& 4 = 0) (b : ¬ fl &&& 1 = 0) (e2 : nI m = ct 2) (hm : m < 256) (hl : ty_l lw (l + 1)) (hL : l + 1 ≤ 32) (hc : oc ≤ 64) (ok : ty_o oc ho s) (h : wY_receive_987 Q 4 (nI lc) (nI ic) (nI oc) (nI l) (nI t.1) (nI (ty_ee fl oc ho m (ty_cut (ty_rl fl oc ho ln lw) l (l + 1) s)).1) (nI y.1) (nI z.1) fl dr ((ty_ee fl oc ho m (ty_cut (ty_rl fl oc ho ln lw) l (l + 1) s)).2.1) fg ie rm st pe la ln lw t.2.2 ((ty_ee fl oc ho m (ty_cut (ty_rl fl oc ho ln lw) l (l + 1) s)).2.2.2) y.2.2 z.2.2 ct) : wY_receive_279 Q (nI m) x4 (nI lc) (nI ic) (nI oc) (nI (l + 1)) (nI t.1) (nI s.1) (nI y.1) (nI z.1) fl dr s.2.1 fg ie rm st pe la ln lw t.2.2 s.2.2.2 y.2.2 z.2.2 ct := by
  rw [ty_cut1] at h
  refine br_f b (br_t e2 (pk_le (l + 1) 0 (fun e => absurd e (by omega)) (fun _ => nm_r (nI_pred l) ?_)))
  unfold ty_ee at h
  by_cases c : fl &&& 4 = 0
  · rw [ty_rl4 c] at h
    simp only [if_pos c] at h
    refine br_t (hx.mpr c) ?_
    exact yo_echo ho hm ok.1 hc h
  · obtain ⟨w, hw, ew⟩ := hl l (by omega)
    rw [ty_rlE ew hw] at h
    simp only [if_neg c] at h
    refine br_f (fun k => c (hx.mp k)) ⟨vp_in_nI (by omega) (by omega), vp_in_nI (by omega) (by omega), ?_⟩
    rw [nI_clamp (n := l) (by omega), ew]
    exact yo_rub ho hw ok.1 hc h
theorem yr_we0 (b : ¬ fl &&& 1 = 0) (e2 : ¬ nI m = ct 2) (e3 : nI m = ct 3) (h : wY_receive_987 Q 4 (nI lc) (nI ic) (nI oc) (nI 0) (nI t.1) (nI s.1) (nI y.1) (nI z.1) fl dr s.2.1 fg ie rm st pe la ln lw t.2.2 s.2.2.2 y.2.2 z.2.2 ct) : wY_receive_279 Q (nI m) x4 (nI lc) (nI ic) (nI oc) (nI 0) (nI t.1) (nI s.1) (nI y.1) (nI z.1) fl dr s.2.1 fg ie rm st pe la ln lw t.2.2 s.2.2.2 y.2.2 z.2.2 ct :=
  br_f b (br_f e2 (br_t e3 (pk_le 0 0 (fun _ => h) (fun e => absurd e (by omega)))))
theorem yr_553 (ho : Nat) (hx : x4 = 0 ↔ fl &&& 4 = 0) (hm : m < 256) (hc : oc ≤ 64) (hq : s.1 ≤ oc) (h : wY_receive_987 Q 4 (nI lc) (nI ic) (nI oc) (nI L) (nI t.1) (nI (ty_ee fl oc ho m s).1) (nI y.1) (nI z.1) fl dr ((ty_ee fl oc ho m s).2.1) fg ie rm st pe la ln lw t.2.2 ((ty_ee fl oc ho m s).2.2.2) y.2.2 z.2.2 ct) : wY_receive_553 Q (nI m) x4 (nI lc) (nI ic) (nI oc) (nI L) (nI t.1) (nI s.1) (nI y.1) (nI z.1) fl dr s.2.1 fg ie rm st pe la ln lw t.2.2 s.2.2.2 y.2.2 z.2.2 ct := by
  unfold ty_ee at h
  by_cases c : fl &&& 4 = 0
  · simp only [if_pos c] at h
    refine br_t (hx.mpr c) ?_
    exact yo_echo ho hm hq hc h
  · simp only [if_neg c] at h
    exact br_f (fun k => c (hx.mp k)) h
theorem yr_466 {L0 : Nat} {x2 : Int32} (ho : Nat) (hl : ty_l lw L0) (hL : L0 ≤ 32) (hc : oc ≤ 64) : ∀ (j i n : Nat) (s : TyO), j + i ≤ 32 → j ≤ L0 → j < n → ty_o oc ho s → wY_receive_553 Q x2 x4 (nI lc) (nI ic) (nI oc) (nI (ty_ww ln j)) (nI t.1) (nI (ty_cut (ty_rl fl oc ho ln lw) (ty_ww ln j) j s).1) (nI y.1) (nI z.1) fl dr ((ty_cut (ty_rl fl oc ho ln lw) (ty_ww ln j) j s).2.1) fg ie rm st pe la ln lw t.2.2 ((ty_cut (ty_rl fl oc ho ln lw) (ty_ww ln j) j s).2.2.2) y.2.2 z.2.2 ct → wY_receive_466 Q x2 x4 n (nI i) (nI lc) (nI ic) (nI oc) (nI j) (nI t.1) (nI s.1) (nI y.1) (nI z.1) fl dr s.2.1 fg ie rm st pe la ln lw t.2.2 s.2.2.2 y.2.2 z.2.2 ct := by
  intro j
  induction j with
  | zero =>
    intro i n s hi' hj hn ok h
    obtain ⟨n, rfl⟩ : ∃ k, n = k + 1 := ⟨n - 1, by omega⟩
    exact pk_le 32 i (fun _ => h) (fun _ => pk_eq 0 0 (fun _ => h) (fun e => absurd rfl e))
  | succ j ih =>
    intro i n s hi' hj hn ok h
    obtain ⟨n, rfl⟩ : ∃ k, n = k + 1 := ⟨n - 1, by omega⟩
    refine pk_le 32 i (fun e => absurd e (by omega)) (fun _ => pk_eq (j + 1) 0 (fun e => absurd e (by omega)) (fun _ => ?_))
    rw [nI_pred]
    refine ⟨vp_in_nI (by omega) (by omega), ?_⟩
    rw [nI_clamp (n := j) (by omega)]
    by_cases c : ty_bl (ln j) = true
    · rw [ty_wwE c, ty_cutE] at h
      by_cases d : ln j = 32
      · exact br_t d h
      · rcases ty_bl1 c with k | k
        · exact absurd k d
        · exact br_f d ⟨vp_in_nI (by omega) (by omega), br_t k h⟩
    · obtain ⟨w, hw, ew⟩ := hl j (by omega)
      rw [ty_wwS c, ty_cutS _ _ (ty_wwle ln j), ty_rlE ew hw] at h
      refine br_f (ty_bl0 c).1 ⟨vp_in_nI (by omega) (by omega), br_f (ty_bl0 c).2 (nm_e ⟨vp_in_nI (by omega) (by omega), vp_in_nI (by omega) (by omega), ?_⟩)⟩
      rw [nI_clamp (n := j) (by omega), ew]
      exact yo_rub ho hw ok.1 hc (nm_r (nI_1 i) (ih (i + 1) n _ (by omega) (by omega) (by omega) (ty_oRub ok hc) h))
theorem yr_376 {L0 : Nat} {x2 : Int32} (ho : Nat) (hl : ty_l lw L0) (hL : L0 ≤ 32) (hc : oc ≤ 64) : ∀ (j i n : Nat) (s : TyO), j + i ≤ 32 → j ≤ L0 → j < n → ty_o oc ho s → wY_receive_553 Q x2 x4 (nI lc) (nI ic) (nI oc) (nI (ty_ww ln (ty_wb ln j))) (nI t.1) (nI (ty_cut (ty_rl fl oc ho ln lw) (ty_ww ln (ty_wb ln j)) (ty_wb ln j) (ty_cut (ty_rl fl oc ho ln lw) (ty_wb ln j) j s)).1) (nI y.1) (nI z.1) fl dr ((ty_cut (ty_rl fl oc ho ln lw) (ty_ww ln (ty_wb ln j)) (ty_wb ln j) (ty_cut (ty_rl fl oc ho ln lw) (ty_wb ln j) j s)).2.1) fg ie rm st pe la ln lw t.2.2 ((ty_cut (ty_rl fl oc ho ln lw) (ty_ww ln (ty_wb ln j)) (ty_wb ln j) (ty_cut (ty_rl fl oc ho ln lw) (ty_wb ln j) j s)).2.2.2) y.2.2 z.2.2 ct → wY_receive_376 Q x2 x4 n (nI i) (nI lc) (nI ic) (nI oc) (nI j) (nI t.1) (nI s.1) (nI y.1) (nI z.1) fl dr s.2.1 fg ie rm st pe la ln lw t.2.2 s.2.2.2 y.2.2 z.2.2 ct := by
  intro j
  induction j with
  | zero =>
    intro i n s hi' hj hn ok h
    obtain ⟨n, rfl⟩ : ∃ k, n = k + 1 := ⟨n - 1, by omega⟩
    have k : wY_receive_466 Q x2 x4 1 (nI 0) (nI lc) (nI ic) (nI oc) (nI 0) (nI t.1) (nI s.1) (nI y.1) (nI z.1) fl dr s.2.1 fg ie rm st pe la ln lw t.2.2 s.2.2.2 y.2.2 z.2.2 ct := yr_466 ho hl hL hc 0 0 1 s (by omega) (by omega) (by omega) ok h
    exact pk_le 32 i (fun _ => ⟨1, k⟩) (fun _ => pk_eq 0 0 (fun _ => ⟨1, k⟩) (fun e => absurd rfl e))
  | succ j ih =>
    intro i n s hi' hj hn ok h
    obtain ⟨n, rfl⟩ : ∃ k, n = k + 1 := ⟨n - 1, by omega⟩
    refine pk_le 32 i (fun e => absurd e (by omega)) (fun _ => pk_eq (j + 1) 0 (fun e => absurd e (by omega)) (fun _ => ?_))
    by_cases c : ty_bl (ln j) = true
    · obtain ⟨w, hw, ew⟩ := hl j (by omega)
      rw [ty_wbS c, ty_cutS _ _ (ty_wble ln j), ty_rlE ew hw] at h
      have k : wY_receive_425 Q (wY_receive_376 Q x2 x4 n) x2 x4 (nI i) (nI lc) (nI ic) (nI oc) (nI (j + 1)) (nI t.1) (nI s.1) (nI y.1) (nI z.1) fl dr s.2.1 fg ie rm st pe la ln lw t.2.2 s.2.2.2 y.2.2 z.2.2 ct := by
        refine nm_r (nI_pred j) ⟨vp_in_nI (by omega) (by omega), vp_in_nI (by omega) (by omega), ?_⟩
        rw [nI_clamp (n := j) (by omega), ew]
        exact yo_rub ho hw ok.1 hc (nm_r (nI_1 i) (ih (i + 1) n _ (by omega) (by omega) (by omega) (ty_oRub ok hc) h))
      rw [nI_pred]
      refine ⟨vp_in_nI (by omega) (by omega), ?_⟩
      rw [nI_clamp (n := j) (by omega)]
      by_cases d : ln j = 32
      · exact br_t d k
      · rcases ty_bl1 c with l | l
        · exact absurd l d
        · exact br_f d ⟨vp_in_nI (by omega) (by omega), br_t l k⟩
    · rw [ty_wbE c, ty_cutE] at h
      have k : wY_receive_466 Q x2 x4 (j + 2) (nI 0) (nI lc) (nI ic) (nI oc) (nI (j + 1)) (nI t.1) (nI s.1) (nI y.1) (nI z.1) fl dr s.2.1 fg ie rm st pe la ln lw t.2.2 s.2.2.2 y.2.2 z.2.2 ct := yr_466 ho hl hL hc (j + 1) 0 (j + 2) s (by omega) (by omega) (by omega) ok h
      rw [nI_pred]
      refine ⟨vp_in_nI (by omega) (by omega), ?_⟩
      rw [nI_clamp (n := j) (by omega)]
      exact br_f (ty_bl0 c).1 ⟨vp_in_nI (by omega) (by omega), br_f (ty_bl0 c).2 ⟨j + 2, k⟩⟩
theorem yr_we1 {l : Nat} (ho : Nat) (hx : x4 = 0 ↔ fl &&& 4 = 0) (b : ¬ fl &&& 1 = 0) (e2 : ¬ nI m = ct 2) (e3 : nI m = ct 3) (hm : m < 256) (hl : ty_l lw (l + 1)) (hL : l + 1 ≤ 32) (hc : oc ≤ 64) (ok : ty_o oc ho s) (h : wY_receive_987 Q 4 (nI lc) (nI ic) (nI oc) (nI (ty_ww ln (ty_wb ln (l + 1)))) (nI t.1) (nI (ty_ee fl oc ho m (ty_cut (ty_rl fl oc ho ln lw) (ty_ww ln (ty_wb ln (l + 1))) (l + 1) s)).1) (nI y.1) (nI z.1) fl dr ((ty_ee fl oc ho m (ty_cut (ty_rl fl oc ho ln lw) (ty_ww ln (ty_wb ln (l + 1))) (l + 1) s)).2.1) fg ie rm st pe la ln lw t.2.2 ((ty_ee fl oc ho m (ty_cut (ty_rl fl oc ho ln lw) (ty_ww ln (ty_wb ln (l + 1))) (l + 1) s)).2.2.2) y.2.2 z.2.2 ct) : wY_receive_279 Q (nI m) x4 (nI lc) (nI ic) (nI oc) (nI (l + 1)) (nI t.1) (nI s.1) (nI y.1) (nI z.1) fl dr s.2.1 fg ie rm st pe la ln lw t.2.2 s.2.2.2 y.2.2 z.2.2 ct := by
  rw [ty_cutM _ (ty_wwle ln (ty_wb ln (l + 1))) (l + 1) s (ty_wble ln (l + 1))] at h
  refine br_f b (br_f e2 (br_t e3 (pk_le (l + 1) 0 (fun e => absurd e (by omega)) (fun _ => ⟨l + 2, yr_376 ho hl hL hc (l + 1) 0 (l + 2) s (by omega) (by omega) (by omega) ok ?_⟩))))
  exact yr_553 ho hx hm hc (ty_oCut (fun _ _ k => ty_oRl k hc) _ _ (ty_oCut (fun _ _ k => ty_oRl k hc) _ _ ok)).1 h
theorem yr_ki0 (b : ¬ fl &&& 1 = 0) (e2 : ¬ nI m = ct 2) (e3 : ¬ nI m = ct 3) (e4 : nI m = ct 4) (h : wY_receive_987 Q 4 (nI lc) (nI ic) (nI oc) (nI 0) (nI t.1) (nI s.1) (nI y.1) (nI z.1) fl dr s.2.1 fg ie rm st pe la ln lw t.2.2 s.2.2.2 y.2.2 z.2.2 ct) : wY_receive_279 Q (nI m) x4 (nI lc) (nI ic) (nI oc) (nI 0) (nI t.1) (nI s.1) (nI y.1) (nI z.1) fl dr s.2.1 fg ie rm st pe la ln lw t.2.2 s.2.2.2 y.2.2 z.2.2 ct :=
  br_f b (br_f e2 (br_f e3 (br_t e4 (pk_le 0 0 (fun _ => h) (fun e => absurd e (by omega))))))
theorem yr_641 (ho : Nat) (hx : x4 = 0 ↔ fl &&& 4 = 0) (hm : m < 256) (hc : oc ≤ 64) (ok : ty_o oc ho s) (h : wY_receive_987 Q 4 (nI lc) (nI ic) (nI oc) (nI L) (nI t.1) (nI (ty_ek fl oc ho m s).1) (nI y.1) (nI z.1) fl dr ((ty_ek fl oc ho m s).2.1) fg ie rm st pe la ln lw t.2.2 ((ty_ek fl oc ho m s).2.2.2) y.2.2 z.2.2 ct) : wY_receive_641 Q (nI m) x4 (nI lc) (nI ic) (nI oc) (nI L) (nI t.1) (nI s.1) (nI y.1) (nI z.1) fl dr s.2.1 fg ie rm st pe la ln lw t.2.2 s.2.2.2 y.2.2 z.2.2 ct := by
  unfold ty_ek at h
  by_cases c : fl &&& 4 = 0
  · simp only [if_pos c] at h
    refine br_t (hx.mpr c) ?_
    refine yo_echo ho hm ok.1 hc ?_
    exact yo_echo (m := 10) ho (by omega) (ty_oEcho ok hc).1 hc h
  · simp only [if_neg c] at h
    exact br_f (fun k => c (hx.mp k)) h
theorem yr_589 {L0 : Nat} {x2 : Int32} (ho : Nat) (hl : ty_l lw L0) (hL : L0 ≤ 32) (hc : oc ≤ 64) : ∀ (j i n : Nat) (s : TyO), j + i ≤ 32 → j ≤ L0 → j < n → ty_o oc ho s → wY_receive_641 Q x2 x4 (nI lc) (nI ic) (nI oc) (nI 0) (nI t.1) (nI (ty_cut (ty_rl fl oc ho ln lw) 0 j s).1) (nI y.1) (nI z.1) fl dr ((ty_cut (ty_rl fl oc ho ln lw) 0 j s).2.1) fg ie rm st pe la ln lw t.2.2 ((ty_cut (ty_rl fl oc ho ln lw) 0 j s).2.2.2) y.2.2 z.2.2 ct → wY_receive_589 Q x2 x4 n (nI i) (nI lc) (nI ic) (nI oc) (nI j) (nI t.1) (nI s.1) (nI y.1) (nI z.1) fl dr s.2.1 fg ie rm st pe la ln lw t.2.2 s.2.2.2 y.2.2 z.2.2 ct := by
  intro j
  induction j with
  | zero =>
    intro i n s hi' hj hn ok h
    obtain ⟨n, rfl⟩ : ∃ k, n = k + 1 := ⟨n - 1, by omega⟩
    exact pk_le 32 i (fun _ => h) (fun _ => pk_le 0 0 (fun _ => h) (fun e => absurd e (by omega)))
  | succ j ih =>
    intro i n s hi' hj hn ok h
    obtain ⟨n, rfl⟩ : ∃ k, n = k + 1 := ⟨n - 1, by omega⟩
    obtain ⟨w, hw, ew⟩ := hl j (by omega)
    rw [ty_cutS _ _ (Nat.zero_le j), ty_rlE ew hw] at h
    refine pk_le 32 i (fun e => absurd e (by omega)) (fun _ => pk_le (j + 1) 0 (fun e => absurd e (by omega)) (fun _ => nm_r (nI_pred j) ⟨vp_in_nI (by omega) (by omega), vp_in_nI (by omega) (by omega), ?_⟩))
    rw [nI_clamp (n := j) (by omega), ew]
    exact yo_rub ho hw ok.1 hc (nm_r (nI_1 i) (ih (i + 1) n _ (by omega) (by omega) (by omega) (ty_oRub ok hc) h))
theorem yr_ki1 {l : Nat} (ho : Nat) (hx : x4 = 0 ↔ fl &&& 4 = 0) (b : ¬ fl &&& 1 = 0) (e2 : ¬ nI m = ct 2) (e3 : ¬ nI m = ct 3) (e4 : nI m = ct 4) (hm : m < 256) (hl : ty_l lw (l + 1)) (hL : l + 1 ≤ 32) (hc : oc ≤ 64) (ok : ty_o oc ho s) (h : wY_receive_987 Q 4 (nI lc) (nI ic) (nI oc) (nI 0) (nI t.1) (nI (ty_ek fl oc ho m (ty_cut (ty_rl fl oc ho ln lw) 0 (l + 1) s)).1) (nI y.1) (nI z.1) fl dr ((ty_ek fl oc ho m (ty_cut (ty_rl fl oc ho ln lw) 0 (l + 1) s)).2.1) fg ie rm st pe la ln lw t.2.2 ((ty_ek fl oc ho m (ty_cut (ty_rl fl oc ho ln lw) 0 (l + 1) s)).2.2.2) y.2.2 z.2.2 ct) : wY_receive_279 Q (nI m) x4 (nI lc) (nI ic) (nI oc) (nI (l + 1)) (nI t.1) (nI s.1) (nI y.1) (nI z.1) fl dr s.2.1 fg ie rm st pe la ln lw t.2.2 s.2.2.2 y.2.2 z.2.2 ct := by
  refine br_f b (br_f e2 (br_f e3 (br_t e4 (pk_le (l + 1) 0 (fun e => absurd e (by omega)) (fun _ => ⟨l + 2, yr_589 ho hl hL hc (l + 1) 0 (l + 2) s (by omega) (by omega) (by omega) ok ?_⟩)))))
  exact yr_641 ho hx hm hc (ty_oCut (fun _ _ k => ty_oRl k hc) _ _ ok) h
theorem yr_705 {x2 : Int32} (hi : Nat) (hL : L ≤ 32) : ∀ (d k n : Nat) (t : TyI), k + d = L → d < n → t.1 + d ≤ 64 → wY_receive_751 Q x2 (nI lc) (nI ic) (nI oc) (nI L) (nI (ty_pl hi ln d k t).1) (nI s.1) (nI y.1) (nI z.1) fl dr s.2.1 fg ie rm st pe la ln lw ((ty_pl hi ln d k t).2.2) s.2.2.2 y.2.2 z.2.2 ct → wY_receive_705 Q x2 (nI L) (nI lc) (nI ic) (nI oc) (nI L) (nI s.1) (nI y.1) (nI z.1) fl dr s.2.1 fg ie rm st pe la n (nI k) (nI t.1) ln lw t.2.2 s.2.2.2 y.2.2 z.2.2 ct := by
  intro d
  induction d with
  | zero =>
    intro k n t hk hn ht h
    obtain ⟨n, rfl⟩ : ∃ k, n = k + 1 := ⟨n - 1, by omega⟩
    exact pk_le L k (fun _ => h) (fun e => absurd e (by omega))
  | succ d ih =>
    intro k n t hk hn ht h
    obtain ⟨n, rfl⟩ : ∃ k, n = k + 1 := ⟨n - 1, by omega⟩
    refine pk_le L k (fun e => absurd e (by omega)) (fun _ => pk_le 32 k (fun e => absurd e (by omega)) (fun _ => ⟨vp_in_nI (by omega) (by omega), vp_in_nI (by omega) (by omega), ?_⟩))
    rw [nI_clamp (n := k) (by omega), nI_clamp (n := t.1) (by omega)]
    exact nm_e (nm_r (nI_1 t.1) (nm_r (nI_1 k) (ih (k + 1) n (ty_in hi (ln k) t) (by omega) (by omega) (by show t.1 + 1 + d ≤ 64; omega) h)))
theorem yr_783f {x : Int32} (hi : Nat) (e5 : nI m = ct 5) (ht : t.1 < 64) (h : wY_receive_987 Q 5 (nI lc) (nI ic) (nI oc) (nI 0) (nI (ty_in hi x t).1) (nI s.1) (nI y.1) (nI z.1) fl dr s.2.1 fg ie rm st pe la ln lw ((ty_in hi x t).2.2) s.2.2.2 y.2.2 z.2.2 ct) : wY_receive_783 Q (nI m) x (nI t.1) (nI lc) (nI ic) (nI oc) (nI L) (nI t.1) (nI s.1) (nI y.1) (nI z.1) fl dr s.2.1 fg ie rm st pe la ln lw t.2.2 s.2.2.2 y.2.2 z.2.2 ct :=
  ⟨vp_in_nI ht (by omega), nm_r (congrArg (fun i => upd t.2.2 i x) (nI_clamp (by omega))) (nm_r (nI_1 t.1) (br_t e5 h))⟩
theorem yr_783l {x : Int32} (hi ho : Nat) (e5 : ¬ nI m = ct 5) (ht : t.1 < 64) (hc : oc ≤ 64) (hq : s.1 ≤ oc) (h : wY_receive_987 Q 5 (nI lc) (nI ic) (nI oc) (nI 0) (nI (ty_in hi x t).1) (nI (ty_echo fl oc ho 10 s).1) (nI y.1) (nI z.1) fl dr ((ty_echo fl oc ho 10 s).2.1) fg ie rm st pe la ln lw ((ty_in hi x t).2.2) ((ty_echo fl oc ho 10 s).2.2.2) y.2.2 z.2.2 ct) : wY_receive_783 Q (nI m) x (nI t.1) (nI lc) (nI ic) (nI oc) (nI L) (nI t.1) (nI s.1) (nI y.1) (nI z.1) fl dr s.2.1 fg ie rm st pe la ln lw t.2.2 s.2.2.2 y.2.2 z.2.2 ct := by
  refine ⟨vp_in_nI ht (by omega), nm_r (congrArg (fun i => upd t.2.2 i x) (nI_clamp (by omega))) (nm_r (nI_1 t.1) (br_f e5 ?_))⟩
  exact yo_echo (m := 10) (t := ty_in hi x t) ho (by omega) hq hc h
theorem yr_ef1 (hi : Nat) (b : ¬ fl &&& 1 = 0) (e2 : ¬ nI m = ct 2) (e3 : ¬ nI m = ct 3) (e4 : ¬ nI m = ct 4) (e5 : nI m = ct 5) (hL : L ≤ 32) (hc : ic ≤ 64) (hr : t.1 + L + 1 ≤ ic) (h : wY_receive_987 Q 5 (nI lc) (nI ic) (nI oc) (nI 0) (nI (ty_in hi 256 (ty_pl hi ln L 0 t)).1) (nI s.1) (nI y.1) (nI z.1) fl dr s.2.1 fg ie rm st pe la ln lw ((ty_in hi 256 (ty_pl hi ln L 0 t)).2.2) s.2.2.2 y.2.2 z.2.2 ct) : wY_receive_279 Q (nI m) x4 (nI lc) (nI ic) (nI oc) (nI L) (nI t.1) (nI s.1) (nI y.1) (nI z.1) fl dr s.2.1 fg ie rm st pe la ln lw t.2.2 s.2.2.2 y.2.2 z.2.2 ct := by
  refine br_f b (br_f e2 (br_f e3 (br_f e4 (br_t e5 (pk_lt (ic - t.1) (L + 1) (fun e => absurd e (by omega)) (fun _ => ⟨L + 1, yr_705 hi hL L 0 (L + 1) t (by omega) (by omega) (by omega) ?_⟩) (hx := pk_sub (by omega)) (hy := nI_1 L))))))
  have k : wY_receive_783 Q (nI m) 256 (nI (ty_pl hi ln L 0 t).1) (nI lc) (nI ic) (nI oc) (nI L) (nI (ty_pl hi ln L 0 t).1) (nI s.1) (nI y.1) (nI z.1) fl dr s.2.1 fg ie rm st pe la ln lw ((ty_pl hi ln L 0 t).2.2) s.2.2.2 y.2.2 z.2.2 ct := yr_783f hi e5 (by rw [ty_pl1]; omega) h
  exact br_c (fun _ => br_t e5 k) (fun _ => k)
theorem yr_ef0 (b : ¬ fl &&& 1 = 0) (e2 : ¬ nI m = ct 2) (e3 : ¬ nI m = ct 3) (e4 : ¬ nI m = ct 4) (e5 : nI m = ct 5) (hL : L ≤ 32) (hc : ic ≤ 64) (ht : t.1 ≤ ic) (hr : ic < t.1 + L + 1) (h : wY_receive_987 Q 7 (nI lc) (nI ic) (nI oc) (nI 0) (nI t.1) (nI s.1) (nI y.1) (nI z.1) fl (dr + nI L) s.2.1 fg ie rm st pe la ln lw t.2.2 s.2.2.2 y.2.2 z.2.2 ct) : wY_receive_279 Q (nI m) x4 (nI lc) (nI ic) (nI oc) (nI L) (nI t.1) (nI s.1) (nI y.1) (nI z.1) fl dr s.2.1 fg ie rm st pe la ln lw t.2.2 s.2.2.2 y.2.2 z.2.2 ct :=
  br_f b (br_f e2 (br_f e3 (br_f e4 (br_t e5 (pk_lt (ic - t.1) (L + 1) (fun _ => br_t e5 (nm_e h)) (fun e => absurd e (by omega)) (hx := pk_sub (by omega)) (hy := nI_1 L))))))
theorem yr_nl1 (hi ho : Nat) (b : ¬ fl &&& 1 = 0) (e2 : ¬ nI m = ct 2) (e3 : ¬ nI m = ct 3) (e4 : ¬ nI m = ct 4) (e5 : ¬ nI m = ct 5) (e10 : nI m = 10) (hL : L ≤ 32) (hc : ic ≤ 64) (hr : t.1 + L + 1 ≤ ic) (hc' : oc ≤ 64) (hq : s.1 ≤ oc) (h : wY_receive_987 Q 5 (nI lc) (nI ic) (nI oc) (nI 0) (nI (ty_in hi 10 (ty_pl hi ln L 0 t)).1) (nI (ty_echo fl oc ho 10 s).1) (nI y.1) (nI z.1) fl dr ((ty_echo fl oc ho 10 s).2.1) fg ie rm st pe la ln lw ((ty_in hi 10 (ty_pl hi ln L 0 t)).2.2) ((ty_echo fl oc ho 10 s).2.2.2) y.2.2 z.2.2 ct) : wY_receive_279 Q (nI m) x4 (nI lc) (nI ic) (nI oc) (nI L) (nI t.1) (nI s.1) (nI y.1) (nI z.1) fl dr s.2.1 fg ie rm st pe la ln lw t.2.2 s.2.2.2 y.2.2 z.2.2 ct := by
  refine br_f b (br_f e2 (br_f e3 (br_f e4 (br_f e5 (br_t e10 (pk_lt (ic - t.1) (L + 1) (fun e => absurd e (by omega)) (fun _ => ⟨L + 1, yr_705 hi hL L 0 (L + 1) t (by omega) (by omega) (by omega) ?_⟩) (hx := pk_sub (by omega)) (hy := nI_1 L)))))))
  have k : wY_receive_783 Q (nI m) 10 (nI (ty_pl hi ln L 0 t).1) (nI lc) (nI ic) (nI oc) (nI L) (nI (ty_pl hi ln L 0 t).1) (nI s.1) (nI y.1) (nI z.1) fl dr s.2.1 fg ie rm st pe la ln lw ((ty_pl hi ln L 0 t).2.2) s.2.2.2 y.2.2 z.2.2 ct := yr_783l hi ho e5 (by rw [ty_pl1]; omega) hc' hq h
  exact br_t e10 (br_f e5 k)
theorem yr_nl0 (b : ¬ fl &&& 1 = 0) (e2 : ¬ nI m = ct 2) (e3 : ¬ nI m = ct 3) (e4 : ¬ nI m = ct 4) (e5 : ¬ nI m = ct 5) (e10 : nI m = 10) (hL : L ≤ 32) (hc : ic ≤ 64) (ht : t.1 ≤ ic) (hr : ic < t.1 + L + 1) (h : wY_receive_987 Q 7 (nI lc) (nI ic) (nI oc) (nI 0) (nI t.1) (nI s.1) (nI y.1) (nI z.1) fl (dr + (nI L + 1)) s.2.1 fg ie rm st pe la ln lw t.2.2 s.2.2.2 y.2.2 z.2.2 ct) : wY_receive_279 Q (nI m) x4 (nI lc) (nI ic) (nI oc) (nI L) (nI t.1) (nI s.1) (nI y.1) (nI z.1) fl dr s.2.1 fg ie rm st pe la ln lw t.2.2 s.2.2.2 y.2.2 z.2.2 ct :=
  br_f b (br_f e2 (br_f e3 (br_f e4 (br_f e5 (br_t e10 (pk_lt (ic - t.1) (L + 1) (fun _ => br_f e5 (nm_e h)) (fun e => absurd e (by omega)) (hx := pk_sub (by omega)) (hy := nI_1 L)))))))
theorem yr_st1 (ho : Nat) (b : ¬ fl &&& 1 = 0) (e2 : ¬ nI m = ct 2) (e3 : ¬ nI m = ct 3) (e4 : ¬ nI m = ct 4) (e5 : ¬ nI m = ct 5) (e10 : ¬ nI m = 10) (hm : m < 256) (hL : L < lc) (hlc : lc ≤ 32) (hc' : oc ≤ 64) (hq : s.1 ≤ oc) (h : wY_receive_987 Q 6 (nI lc) (nI ic) (nI oc) (nI (L + 1)) (nI t.1) (nI (ty_echo fl oc ho m s).1) (nI y.1) (nI z.1) fl dr ((ty_echo fl oc ho m s).2.1) fg ie rm st pe la (upd ln L (nI m)) (upd lw L ((ty_echo fl oc ho m s).2.1 - s.2.1)) t.2.2 ((ty_echo fl oc ho m s).2.2.2) y.2.2 z.2.2 ct) : wY_receive_279 Q (nI m) x4 (nI lc) (nI ic) (nI oc) (nI L) (nI t.1) (nI s.1) (nI y.1) (nI z.1) fl dr s.2.1 fg ie rm st pe la ln lw t.2.2 s.2.2.2 y.2.2 z.2.2 ct := by
  refine br_f b (br_f e2 (br_f e3 (br_f e4 (br_f e5 (br_f e10 (pk_lt L lc (fun _ => ?_) (fun e => absurd e (by omega))))))))
  refine yo_echo ho hm hq hc' ?_
  exact ⟨vp_in_nI (by omega) (by omega), nm_r (congrArg (fun i => upd ln i (nI m)) (nI_clamp (by omega))) ⟨vp_in_nI (by omega) (by omega), nm_r (congrArg (fun i => upd lw i ((ty_echo fl oc ho m s).2.1 - s.2.1)) (nI_clamp (by omega))) (nm_r (nI_1 L) h)⟩⟩
theorem yr_st0 (b : ¬ fl &&& 1 = 0) (e2 : ¬ nI m = ct 2) (e3 : ¬ nI m = ct 3) (e4 : ¬ nI m = ct 4) (e5 : ¬ nI m = ct 5) (e10 : ¬ nI m = 10) (hL : lc ≤ L) (hlc : L ≤ 32) (h : wY_receive_987 Q 7 (nI lc) (nI ic) (nI oc) (nI L) (nI t.1) (nI s.1) (nI y.1) (nI z.1) fl (dr + 1) s.2.1 fg ie rm st pe la ln lw t.2.2 s.2.2.2 y.2.2 z.2.2 ct) : wY_receive_279 Q (nI m) x4 (nI lc) (nI ic) (nI oc) (nI L) (nI t.1) (nI s.1) (nI y.1) (nI z.1) fl dr s.2.1 fg ie rm st pe la ln lw t.2.2 s.2.2.2 y.2.2 z.2.2 ct :=
  br_f b (br_f e2 (br_f e3 (br_f e4 (br_f e5 (br_f e10 (pk_lt L lc (fun e => absurd e (by omega)) (fun _ => nm_e h)))))))
/-! a signal -/
theorem yg_176 {x2 : Int32} (h64 : t.1 ≤ 64) : ∀ (d i n c : Nat), i + d = t.1 → d < n → wY_receive_214 Q x2 (nI (c + ty_cn t.2.2 d i)) (nI lc) (nI ic) (nI oc) (nI L) (nI t.1) (nI s.1) (nI y.1) (nI z.1) fl dr s.2.1 fg ie rm st pe la ln lw t.2.2 s.2.2.2 y.2.2 z.2.2 ct → wY_receive_176 Q x2 (nI lc) (nI ic) (nI oc) (nI L) (nI t.1) (nI s.1) (nI y.1) (nI z.1) fl dr s.2.1 fg ie rm st pe la ln lw t.2.2 s.2.2.2 y.2.2 z.2.2 ct n (nI c) (nI i) := by
  intro d
  induction d with
  | zero =>
    intro i n c hi' hn h
    obtain ⟨n, rfl⟩ : ∃ k, n = k + 1 := ⟨n - 1, by omega⟩
    exact pk_le t.1 i (fun _ => h) (fun e => absurd e (by omega))
  | succ d ih =>
    intro i n c hi' hn h
    obtain ⟨n, rfl⟩ : ∃ k, n = k + 1 := ⟨n - 1, by omega⟩
    refine pk_le t.1 i (fun e => absurd e (by omega)) (fun _ => pk_le 64 i (fun e => absurd e (by omega)) (fun _ => ⟨vp_in_nI (by omega) (by omega), ?_⟩))
    rw [nI_clamp (n := i) (by omega)]
    by_cases e : t.2.2 i = 256
    · have e1 : c + ty_cn t.2.2 (d + 1) i = c + ty_cn t.2.2 d (i + 1) := by
        show c + ((if t.2.2 i = 256 then 0 else 1) + ty_cn t.2.2 d (i + 1)) = _
        rw [if_pos e]; omega
      rw [e1] at h
      exact br_t e (nm_r (nI_1 i) (ih (i + 1) n c (by omega) (by omega) h))
    · have e1 : c + ty_cn t.2.2 (d + 1) i = (c + 1) + ty_cn t.2.2 d (i + 1) := by
        show c + ((if t.2.2 i = 256 then 0 else 1) + ty_cn t.2.2 d (i + 1)) = _
        rw [if_neg e]; omega
      rw [e1] at h
      exact br_f e (nm_r (nI_1 c) (nm_r (nI_1 i) (ih (i + 1) n (c + 1) (by omega) (by omega) h)))
theorem yg_cnt {x2 : Int32} (h64 : t.1 ≤ 64) (h : wY_receive_214 Q x2 (nI (ty_cn t.2.2 t.1 0)) (nI lc) (nI ic) (nI oc) (nI L) (nI t.1) (nI s.1) (nI y.1) (nI z.1) fl dr s.2.1 fg ie rm st pe la ln lw t.2.2 s.2.2.2 y.2.2 z.2.2 ct) : ∃ n, wY_receive_176 Q x2 (nI lc) (nI ic) (nI oc) (nI L) (nI t.1) (nI s.1) (nI y.1) (nI z.1) fl dr s.2.1 fg ie rm st pe la ln lw t.2.2 s.2.2.2 y.2.2 z.2.2 ct n 0 0 :=
  ⟨t.1 + 1, yg_176 h64 t.1 0 (t.1 + 1) 0 (by omega) (by omega) (by rw [Nat.zero_add]; exact h)⟩
theorem yg_214 (ho : Nat) {c : Int32} (hm : m < 256) (hc : oc ≤ 64) (h : wY_receive_987 Q 3 (nI lc) (nI ic) (nI oc) (nI 0) (nI ((0, t.2)).1) (nI (ty_echo fl oc ho m (0, s.2)).1) (nI y.1) (nI z.1) fl (dr + (nI L + c)) ((ty_echo fl oc ho m (0, s.2)).2.1) fg ie rm 0 (ty_sp1 pe) (ty_sp2 pe la) ln lw (((0, t.2)).2.2) ((ty_echo fl oc ho m (0, s.2)).2.2.2) y.2.2 z.2.2 ct) : wY_receive_214 Q (nI m) c (nI lc) (nI ic) (nI oc) (nI L) (nI t.1) (nI s.1) (nI y.1) (nI z.1) fl dr s.2.1 fg ie rm st pe la ln lw t.2.2 s.2.2.2 y.2.2 z.2.2 ct := by
  refine nm_e ?_
  unfold ty_sp1 ty_sp2 at h
  by_cases k : pe = 0
  · simp only [if_pos k] at h
    exact br_t k (yo_echo (L := 0) (t := (0, t.2)) (s := (0, s.2)) ho hm (Nat.zero_le _) hc h)
  · simp only [if_neg k] at h
    exact br_f k (yo_echo (L := 0) (t := (0, t.2)) (s := (0, s.2)) ho hm (Nat.zero_le _) hc h)
theorem yg_130 (hs ho : Nat) {x : Int32} (hm : m < 256) (h64 : t.1 ≤ 64) (hz : z.1 ≤ 8) (hc : oc ≤ 64) (h : wY_receive_987 Q 3 (nI lc) (nI ic) (nI oc) (nI 0) (nI ((0, t.2)).1) (nI (ty_echo fl oc ho m (0, s.2)).1) (nI y.1) (nI (ty_zs hs (fg * 32 + x) z).1) fl (dr + (nI L + nI (ty_cn t.2.2 t.1 0))) ((ty_echo fl oc ho m (0, s.2)).2.1) fg ie rm 0 (ty_sp1 pe) (ty_sp2 pe la) ln lw (((0, t.2)).2.2) ((ty_echo fl oc ho m (0, s.2)).2.2.2) y.2.2 ((ty_zs hs (fg * 32 + x) z).2.2) ct) : wY_receive_130 Q (nI m) x (nI lc) (nI ic) (nI oc) (nI L) (nI t.1) (nI s.1) (nI y.1) (nI z.1) fl dr s.2.1 fg ie rm st pe la ln lw t.2.2 s.2.2.2 y.2.2 z.2.2 ct := by
  unfold ty_zs at h
  by_cases c : z.1 < 8
  · simp only [if_pos c] at h
    refine pk_le 8 z.1 (fun e => absurd e (by omega)) (fun _ => ⟨vp_in_nI c (by omega), nm_r (congrArg (fun i => upd z.2.2 i (fg * 32 + x)) (nI_clamp (by omega))) (nm_r (nI_1 z.1) (yg_cnt (z := (z.1 + 1, upd z.2.1 ((hs + z.1) % 8) (fg * 32 + x), upd z.2.2 z.1 (fg * 32 + x))) h64 ?_))⟩)
    exact yg_214 (z := (z.1 + 1, upd z.2.1 ((hs + z.1) % 8) (fg * 32 + x), upd z.2.2 z.1 (fg * 32 + x))) ho hm hc h
  · simp only [if_neg c] at h
    refine pk_le 8 z.1 (fun _ => yg_cnt h64 ?_) (fun e => absurd e (by omega))
    exact yg_214 ho hm hc h
theorem yr_sig (hs ho : Nat) (hm : m < 256) (h64 : t.1 ≤ 64) (hz : z.1 ≤ 8) (hc : oc ≤ 64) (h : wY_receive_987 Q 3 (nI lc) (nI ic) (nI oc) (nI 0) (nI ((0, t.2)).1) (nI (ty_echo fl oc ho m (0, s.2)).1) (nI y.1) (nI (ty_zs hs (fg * 32 + (if nI m = ct 0 then 2 else 20)) z).1) fl (dr + (nI L + nI (ty_cn t.2.2 t.1 0))) ((ty_echo fl oc ho m (0, s.2)).2.1) fg ie rm 0 (ty_sp1 pe) (ty_sp2 pe la) ln lw (((0, t.2)).2.2) ((ty_echo fl oc ho m (0, s.2)).2.2.2) y.2.2 ((ty_zs hs (fg * 32 + (if nI m = ct 0 then 2 else 20)) z).2.2) ct) : wY_receive_114 Q (nI m) (nI lc) (nI ic) (nI oc) (nI L) (nI t.1) (nI s.1) (nI y.1) (nI z.1) fl dr s.2.1 fg ie rm st pe la ln lw t.2.2 s.2.2.2 y.2.2 z.2.2 ct := by
  by_cases c : nI m = ct 0
  · simp only [if_pos c] at h
    exact br_t c (yg_130 hs ho hm h64 hz hc h)
  · simp only [if_neg c] at h
    exact br_f c (yg_130 hs ho hm h64 hz hc h)
/-! the ways into receive -/
def ty_x4 (fl : Int32) : Int32 := if fl &&& 4 = 0 then 0 else 1
theorem ty_x4i (fl : Int32) : ty_x4 fl = 0 ↔ fl &&& 4 = 0 := by
  unfold ty_x4
  by_cases c : fl &&& 4 = 0
  · rw [if_pos c]; exact ⟨fun _ => c, fun _ => rfl⟩
  · rw [if_neg c]; exact ⟨fun k => absurd k (by decide), fun k => absurd k c⟩
theorem yr_20 {v1 : Int32} (hv : v1 &&& 255 = nI m) (h : wY_receive_20 Q (nI m) (ty_x4 fl) (nI lc) (nI ic) (nI oc) (nI L) (nI t.1) (nI s.1) (nI y.1) (nI z.1) fl dr s.2.1 fg ie rm st pe la ln lw t.2.2 s.2.2.2 y.2.2 z.2.2 ct) : wpY_receive Q (nI lc, nI ic, nI oc, nI L, nI t.1, nI s.1, nI y.1, nI z.1, fl, dr, s.2.1, fg, ie, rm, st, pe, la, ln, lw, t.2.2, s.2.2.2, y.2.2, z.2.2, ct) v1 := by
  refine nm_r hv ?_
  unfold ty_x4 at h
  by_cases c : fl &&& 4 = 0
  · rw [if_pos c] at h; exact br_t c h
  · rw [if_neg c] at h; exact br_f c h
theorem yr_84 {v1 : Int32} (hv : v1 &&& 255 = nI m) (c : fl &&& 16 = 0 ∨ (¬ nI m = ct 7 ∧ ¬ nI m = ct 6)) (h : wY_receive_84 Q (nI m) (ty_x4 fl) (nI lc) (nI ic) (nI oc) (nI L) (nI t.1) (nI s.1) (nI y.1) (nI z.1) fl dr s.2.1 fg ie rm st pe la ln lw t.2.2 s.2.2.2 y.2.2 z.2.2 ct) : wpY_receive Q (nI lc, nI ic, nI oc, nI L, nI t.1, nI s.1, nI y.1, nI z.1, fl, dr, s.2.1, fg, ie, rm, st, pe, la, ln, lw, t.2.2, s.2.2.2, y.2.2, z.2.2, ct) v1 := by
  refine yr_20 hv ?_
  by_cases f : fl &&& 16 = 0
  · exact br_t f (br_t f h)
  · rcases c with c | ⟨c7, c6⟩
    · exact absurd c f
    · exact br_f f (br_f c7 (br_f f (br_f c6 h)))
theorem yr_stop {v1 : Int32} (hv : v1 &&& 255 = nI m) (f : ¬ fl &&& 16 = 0) (c : nI m = ct 7) (h : wY_receive_987 Q 1 (nI lc) (nI ic) (nI oc) (nI L) (nI t.1) (nI s.1) (nI y.1) (nI z.1) fl dr s.2.1 fg ie rm 1 pe la ln lw t.2.2 s.2.2.2 y.2.2 z.2.2 ct) : wpY_receive Q (nI lc, nI ic, nI oc, nI L, nI t.1, nI s.1, nI y.1, nI z.1, fl, dr, s.2.1, fg, ie, rm, st, pe, la, ln, lw, t.2.2, s.2.2.2, y.2.2, z.2.2, ct) v1 := by
  refine yr_20 hv ?_
  exact br_f f (br_t c h)
theorem yr_start {v1 : Int32} (hv : v1 &&& 255 = nI m) (f : ¬ fl &&& 16 = 0) (c7 : ¬ nI m = ct 7) (c : nI m = ct 6) (h : wY_receive_987 Q 2 (nI lc) (nI ic) (nI oc) (nI L) (nI t.1) (nI s.1) (nI y.1) (nI z.1) fl dr s.2.1 fg ie rm 0 pe la ln lw t.2.2 s.2.2.2 y.2.2 z.2.2 ct) : wpY_receive Q (nI lc, nI ic, nI oc, nI L, nI t.1, nI s.1, nI y.1, nI z.1, fl, dr, s.2.1, fg, ie, rm, st, pe, la, ln, lw, t.2.2, s.2.2.2, y.2.2, z.2.2, ct) v1 := by
  refine yr_20 hv ?_
  exact br_f f (br_f c7 (br_f f (br_t c h)))
theorem yr_114 (f : ¬ fl &&& 8 = 0) (c : nI m = ct 0 ∨ nI m = ct 1) (h : wY_receive_114 Q (nI m) (nI lc) (nI ic) (nI oc) (nI L) (nI t.1) (nI s.1) (nI y.1) (nI z.1) fl dr s.2.1 fg ie rm st pe la ln lw t.2.2 s.2.2.2 y.2.2 z.2.2 ct) : wY_receive_84 Q (nI m) x4 (nI lc) (nI ic) (nI oc) (nI L) (nI t.1) (nI s.1) (nI y.1) (nI z.1) fl dr s.2.1 fg ie rm st pe la ln lw t.2.2 s.2.2.2 y.2.2 z.2.2 ct := by
  refine br_f f ?_
  by_cases d : nI m = ct 0
  · exact br_t d h
  · rcases c with c | c
    · exact absurd c d
    · exact br_f d (br_t c h)
theorem yr_279 (c : fl &&& 8 = 0 ∨ (¬ nI m = ct 0 ∧ ¬ nI m = ct 1)) (h : wY_receive_279 Q (nI m) x4 (nI lc) (nI ic) (nI oc) (nI L) (nI t.1) (nI s.1) (nI y.1) (nI z.1) fl dr s.2.1 fg ie rm st pe la ln lw t.2.2 s.2.2.2 y.2.2 z.2.2 ct) : wY_receive_84 Q (nI m) x4 (nI lc) (nI ic) (nI oc) (nI L) (nI t.1) (nI s.1) (nI y.1) (nI z.1) fl dr s.2.1 fg ie rm st pe la ln lw t.2.2 s.2.2.2 y.2.2 z.2.2 ct := by
  by_cases f : fl &&& 8 = 0
  · exact br_t f h
  · rcases c with c | ⟨c0, c1⟩
    · exact absurd c f
    · exact br_f f (br_f c0 (br_f c1 h))
end TG
