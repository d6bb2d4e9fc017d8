section TD
variable {lc ic oc L hi ho hu hs m m' : Nat} {s : TyO} {t y z : TyI} {fl dr st fg ie pe la rm : Int32} {ln lw ct : TyF} {P : St2 → Prop} {Q : Int32 → St2 → Prop} {U : Int32 → Prop}
theorem xr_128 {a : Int32} (q : ty_i hi t) (p : ty_i hu y) (hp : ty_p pe rm y) (h : Q a (nI lc, nI ic, nI oc, nI L, nI (ty_ck fl pe la rm ie ct hi hu t y).1, nI (ty_ck fl pe la rm ie ct hi hu t y).2.1.1, nI ho, nI s.1, nI hu, nI (ty_ck fl pe la rm ie ct hi hu t y).2.2.1.1, nI hs, nI z.1, fl, dr, s.2.1, st, fg, ie, (ty_ck fl pe la rm ie ct hi hu t y).2.2.2.1, (ty_ck fl pe la rm ie ct hi hu t y).2.2.2.2, rm, ln, lw, (ty_ck fl pe la rm ie ct hi hu t y).2.1.2.1, s.2.2.1, (ty_ck fl pe la rm ie ct hi hu t y).2.2.1.2.1, z.2.1, ct)) : wX_receive_128 Q a (nI lc) (nI ic) (nI oc) (nI L) (nI hi) (nI t.1) (nI ho) (nI s.1) (nI hu) (nI y.1) (nI hs) (nI z.1) fl dr s.2.1 st fg ie pe la rm ln lw t.2.1 s.2.2.1 y.2.1 z.2.1 ct := xc_check q p hp h
theorem xr_er0 (b : ¬ fl &&& 1 = 0) (e2 : nI m = ct 2) (h : wX_receive_128 Q 4 (nI lc) (nI ic) (nI oc) (nI 0) (nI hi) (nI t.1) (nI ho) (nI s.1) (nI hu) (nI y.1) (nI hs) (nI z.1) fl dr s.2.1 st fg ie pe la rm ln lw t.2.1 s.2.2.1 y.2.1 z.2.1 ct) : wX_receive_105 Q (nI m) (nI lc) (nI ic) (nI oc) (nI 0) (nI hi) (nI t.1) (nI ho) (nI s.1) (nI hu) (nI y.1) (nI hs) (nI z.1) fl dr s.2.1 st fg ie pe la rm ln lw t.2.1 s.2.2.1 y.2.1 z.2.1 ct := by
  unfold wX_receive_105
  refine xs_1 b ?_
  refine br_f (by decide) ?_
  exact br_t e2 (br_t rfl h)
theorem xr_er1 {l : Nat} (b : ¬ fl &&& 1 = 0) (e2 : nI m = ct 2) (hm : m < 256) (hl : ty_l lw (l + 1)) (hL : l + 1 ≤ 32) (hh : ho < 64) (hc : oc ≤ 64) (ok : ty_o oc ho s) (h : wX_receive_128 Q 4 (nI lc) (nI ic) (nI oc) (nI l) (nI hi) (nI t.1) (nI ho) (nI (ty_ee fl oc ho m (ty_cut (ty_rl fl oc ho ln lw) l (l + 1) s)).1) (nI hu) (nI y.1) (nI hs) (nI z.1) fl dr ((ty_ee fl oc ho m (ty_cut (ty_rl fl oc ho ln lw) l (l + 1) s)).2.1) st fg ie pe la rm ln lw t.2.1 ((ty_ee fl oc ho m (ty_cut (ty_rl fl oc ho ln lw) l (l + 1) s)).2.2.1) y.2.1 z.2.1 ct) : wX_receive_105 Q (nI m) (nI lc) (nI ic) (nI oc) (nI (l + 1)) (nI hi) (nI t.1) (nI ho) (nI s.1) (nI hu) (nI y.1) (nI hs) (nI z.1) fl dr s.2.1 st fg ie pe la rm ln lw t.2.1 s.2.2.1 y.2.1 z.2.1 ct := by
  unfold wX_receive_105
  refine xs_1 b ?_
  refine br_f (by decide) ?_
  refine br_t e2 ?_
  exact xe_last hm hl hL hh hc ok h
theorem xr_we0 (b : ¬ fl &&& 1 = 0) (e2 : ¬ nI m = ct 2) (e3 : nI m = ct 3) (h : wX_receive_128 Q 4 (nI lc) (nI ic) (nI oc) (nI 0) (nI hi) (nI t.1) (nI ho) (nI s.1) (nI hu) (nI y.1) (nI hs) (nI z.1) fl dr s.2.1 st fg ie pe la rm ln lw t.2.1 s.2.2.1 y.2.1 z.2.1 ct) : wX_receive_105 Q (nI m) (nI lc) (nI ic) (nI oc) (nI 0) (nI hi) (nI t.1) (nI ho) (nI s.1) (nI hu) (nI y.1) (nI hs) (nI z.1) fl dr s.2.1 st fg ie pe la rm ln lw t.2.1 s.2.2.1 y.2.1 z.2.1 ct := by
  unfold wX_receive_105
  refine xs_1 b ?_
  refine br_f (by decide) ?_
  exact br_f e2 (br_t e3 (br_t rfl h))
theorem xr_we1 {l : Nat} (b : ¬ fl &&& 1 = 0) (e2 : ¬ nI m = ct 2) (e3 : nI m = ct 3) (hm : m < 256) (hl : ty_l lw (l + 1)) (hL : l + 1 ≤ 32) (hh : ho < 64) (hc : oc ≤ 64) (ok : ty_o oc ho s) (h : wX_receive_128 Q 4 (nI lc) (nI ic) (nI oc) (nI (ty_ww ln (ty_wb ln (l + 1)))) (nI hi) (nI t.1) (nI ho) (nI (ty_ee fl oc ho m (ty_cut (ty_rl fl oc ho ln lw) (ty_ww ln (ty_wb ln (l + 1))) (l + 1) s)).1) (nI hu) (nI y.1) (nI hs) (nI z.1) fl dr ((ty_ee fl oc ho m (ty_cut (ty_rl fl oc ho ln lw) (ty_ww ln (ty_wb ln (l + 1))) (l + 1) s)).2.1) st fg ie pe la rm ln lw t.2.1 ((ty_ee fl oc ho m (ty_cut (ty_rl fl oc ho ln lw) (ty_ww ln (ty_wb ln (l + 1))) (l + 1) s)).2.2.1) y.2.1 z.2.1 ct) : wX_receive_105 Q (nI m) (nI lc) (nI ic) (nI oc) (nI (l + 1)) (nI hi) (nI t.1) (nI ho) (nI s.1) (nI hu) (nI y.1) (nI hs) (nI z.1) fl dr s.2.1 st fg ie pe la rm ln lw t.2.1 s.2.2.1 y.2.1 z.2.1 ct := by
  unfold wX_receive_105
  refine xs_1 b ?_
  refine br_f (by decide) ?_
  refine br_f e2 (br_t e3 ?_)
  exact xe_word hm hl hL hh hc ok h
theorem xr_ki0 (b : ¬ fl &&& 1 = 0) (e2 : ¬ nI m = ct 2) (e3 : ¬ nI m = ct 3) (e4 : nI m = ct 4) (h : wX_receive_128 Q 4 (nI lc) (nI ic) (nI oc) (nI 0) (nI hi) (nI t.1) (nI ho) (nI s.1) (nI hu) (nI y.1) (nI hs) (nI z.1) fl dr s.2.1 st fg ie pe la rm ln lw t.2.1 s.2.2.1 y.2.1 z.2.1 ct) : wX_receive_105 Q (nI m) (nI lc) (nI ic) (nI oc) (nI 0) (nI hi) (nI t.1) (nI ho) (nI s.1) (nI hu) (nI y.1) (nI hs) (nI z.1) fl dr s.2.1 st fg ie pe la rm ln lw t.2.1 s.2.2.1 y.2.1 z.2.1 ct := by
  unfold wX_receive_105
  refine xs_1 b ?_
  refine br_f (by decide) ?_
  exact br_f e2 (br_f e3 (br_t e4 (br_t rfl h)))
theorem xr_ki1 {l : Nat} (b : ¬ fl &&& 1 = 0) (e2 : ¬ nI m = ct 2) (e3 : ¬ nI m = ct 3) (e4 : nI m = ct 4) (hm : m < 256) (hl : ty_l lw (l + 1)) (hL : l + 1 ≤ 32) (hh : ho < 64) (hc : oc ≤ 64) (ok : ty_o oc ho s) (h : wX_receive_128 Q 4 (nI lc) (nI ic) (nI oc) (nI 0) (nI hi) (nI t.1) (nI ho) (nI (ty_ek fl oc ho m (ty_cut (ty_rl fl oc ho ln lw) 0 (l + 1) s)).1) (nI hu) (nI y.1) (nI hs) (nI z.1) fl dr ((ty_ek fl oc ho m (ty_cut (ty_rl fl oc ho ln lw) 0 (l + 1) s)).2.1) st fg ie pe la rm ln lw t.2.1 ((ty_ek fl oc ho m (ty_cut (ty_rl fl oc ho ln lw) 0 (l + 1) s)).2.2.1) y.2.1 z.2.1 ct) : wX_receive_105 Q (nI m) (nI lc) (nI ic) (nI oc) (nI (l + 1)) (nI hi) (nI t.1) (nI ho) (nI s.1) (nI hu) (nI y.1) (nI hs) (nI z.1) fl dr s.2.1 st fg ie pe la rm ln lw t.2.1 s.2.2.1 y.2.1 z.2.1 ct := by
  unfold wX_receive_105
  refine xs_1 b ?_
  refine br_f (by decide) ?_
  refine br_f e2 (br_f e3 (br_t e4 ?_))
  exact xe_kill hm hl hL hh hc ok h
theorem xr_ef1 (b : ¬ fl &&& 1 = 0) (e2 : ¬ nI m = ct 2) (e3 : ¬ nI m = ct 3) (e4 : ¬ nI m = ct 4) (e5 : nI m = ct 5) (hL : L ≤ 32) (hc : ic ≤ 64) (hh : hi < 64) (hr : t.1 + L + 1 ≤ ic) (h : wX_receive_128 Q 5 (nI lc) (nI ic) (nI oc) (nI 0) (nI hi) (nI (ty_in hi 256 (ty_pl hi ln L 0 t)).1) (nI ho) (nI s.1) (nI hu) (nI y.1) (nI hs) (nI z.1) fl dr s.2.1 st fg ie pe la rm ln lw ((ty_in hi 256 (ty_pl hi ln L 0 t)).2.1) s.2.2.1 y.2.1 z.2.1 ct) : wX_receive_105 Q (nI m) (nI lc) (nI ic) (nI oc) (nI L) (nI hi) (nI t.1) (nI ho) (nI s.1) (nI hu) (nI y.1) (nI hs) (nI z.1) fl dr s.2.1 st fg ie pe la rm ln lw t.2.1 s.2.2.1 y.2.1 z.2.1 ct := by
  unfold wX_receive_105
  refine xs_1 b ?_
  refine br_f (by decide) ?_
  refine br_f e2 (br_f e3 (br_f e4 (br_t e5 ?_)))
  exact pk_le (L + 1) (ic - t.1) (fun _ => xi_pass hh hL (by omega) h) (fun e => absurd e (by omega)) (hx := nI_1 L) (hy := pk_sub (by omega))
theorem xr_ef0 (b : ¬ fl &&& 1 = 0) (e2 : ¬ nI m = ct 2) (e3 : ¬ nI m = ct 3) (e4 : ¬ nI m = ct 4) (e5 : nI m = ct 5) (hL : L ≤ 32) (hc : ic ≤ 64) (ht : t.1 ≤ ic) (hr : ic < t.1 + L + 1) (h : wX_receive_128 Q 7 (nI lc) (nI ic) (nI oc) (nI 0) (nI hi) (nI t.1) (nI ho) (nI s.1) (nI hu) (nI y.1) (nI hs) (nI z.1) fl (dr + nI L) s.2.1 st fg ie pe la rm ln lw t.2.1 s.2.2.1 y.2.1 z.2.1 ct) : wX_receive_105 Q (nI m) (nI lc) (nI ic) (nI oc) (nI L) (nI hi) (nI t.1) (nI ho) (nI s.1) (nI hu) (nI y.1) (nI hs) (nI z.1) fl dr s.2.1 st fg ie pe la rm ln lw t.2.1 s.2.2.1 y.2.1 z.2.1 ct := by
  unfold wX_receive_105
  refine xs_1 b ?_
  refine br_f (by decide) ?_
  refine br_f e2 (br_f e3 (br_f e4 (br_t e5 ?_)))
  exact pk_le (L + 1) (ic - t.1) (fun e => absurd e (by omega)) (fun _ => nm_e h) (hx := nI_1 L) (hy := pk_sub (by omega))
theorem xr_nl1 (b : ¬ fl &&& 1 = 0) (e2 : ¬ nI m = ct 2) (e3 : ¬ nI m = ct 3) (e4 : ¬ nI m = ct 4) (e5 : ¬ nI m = ct 5) (e10 : nI m = 10) (hL : L ≤ 32) (hc : ic ≤ 64) (hh : hi < 64) (hr : t.1 + L + 1 ≤ ic) (hh' : ho < 64) (hc' : oc ≤ 64) (ok : ty_o oc ho s) (h : wX_receive_128 Q 5 (nI lc) (nI ic) (nI oc) (nI 0) (nI hi) (nI (ty_in hi 10 (ty_pl hi ln L 0 t)).1) (nI ho) (nI (ty_echo fl oc ho 10 s).1) (nI hu) (nI y.1) (nI hs) (nI z.1) fl dr ((ty_echo fl oc ho 10 s).2.1) st fg ie pe la rm ln lw ((ty_in hi 10 (ty_pl hi ln L 0 t)).2.1) ((ty_echo fl oc ho 10 s).2.2.1) y.2.1 z.2.1 ct) : wX_receive_105 Q (nI m) (nI lc) (nI ic) (nI oc) (nI L) (nI hi) (nI t.1) (nI ho) (nI s.1) (nI hu) (nI y.1) (nI hs) (nI z.1) fl dr s.2.1 st fg ie pe la rm ln lw t.2.1 s.2.2.1 y.2.1 z.2.1 ct := by
  unfold wX_receive_105
  refine xs_1 b ?_
  refine br_f (by decide) ?_
  refine br_f e2 (br_f e3 (br_f e4 (br_f e5 (br_t e10 ?_))))
  refine pk_le (L + 1) (ic - t.1) (fun _ => ?_) (fun e => absurd e (by omega)) (hx := nI_1 L) (hy := pk_sub (by omega))
  refine xi_pass hh hL (by omega) ?_
  exact xo_echo (m := 10) (by omega) hh' ok.1 hc' h
theorem xr_nl0 (b : ¬ fl &&& 1 = 0) (e2 : ¬ nI m = ct 2) (e3 : ¬ nI m = ct 3) (e4 : ¬ nI m = ct 4) (e5 : ¬ nI m = ct 5) (e10 : nI m = 10) (hL : L ≤ 32) (hc : ic ≤ 64) (ht : t.1 ≤ ic) (hr : ic < t.1 + L + 1) (h : wX_receive_128 Q 7 (nI lc) (nI ic) (nI oc) (nI 0) (nI hi) (nI t.1) (nI ho) (nI s.1) (nI hu) (nI y.1) (nI hs) (nI z.1) fl (dr + (nI L + 1)) s.2.1 st fg ie pe la rm ln lw t.2.1 s.2.2.1 y.2.1 z.2.1 ct) : wX_receive_105 Q (nI m) (nI lc) (nI ic) (nI oc) (nI L) (nI hi) (nI t.1) (nI ho) (nI s.1) (nI hu) (nI y.1) (nI hs) (nI z.1) fl dr s.2.1 st fg ie pe la rm ln lw t.2.1 s.2.2.1 y.2.1 z.2.1 ct := by
  unfold wX_receive_105
  refine xs_1 b ?_
  refine br_f (by decide) ?_
  refine br_f e2 (br_f e3 (br_f e4 (br_f e5 (br_t e10 ?_))))
  exact pk_le (L + 1) (ic - t.1) (fun e => absurd e (by omega)) (fun _ => nm_e h) (hx := nI_1 L) (hy := pk_sub (by omega))
theorem xr_st1 (b : ¬ fl &&& 1 = 0) (e2 : ¬ nI m = ct 2) (e3 : ¬ nI m = ct 3) (e4 : ¬ nI m = ct 4) (e5 : ¬ nI m = ct 5) (e10 : ¬ nI m = 10) (hm : m < 256) (hL : L < lc) (hlc : lc ≤ 32) (hh' : ho < 64) (hc' : oc ≤ 64) (ok : ty_o oc ho s) (h : wX_receive_128 Q 6 (nI lc) (nI ic) (nI oc) (nI (L + 1)) (nI hi) (nI t.1) (nI ho) (nI (ty_echo fl oc ho m s).1) (nI hu) (nI y.1) (nI hs) (nI z.1) fl dr ((ty_echo fl oc ho m s).2.1) st fg ie pe la rm (upd ln L (nI m)) (upd lw L ((ty_echo fl oc ho m s).2.1 - s.2.1)) t.2.1 ((ty_echo fl oc ho m s).2.2.1) y.2.1 z.2.1 ct) : wX_receive_105 Q (nI m) (nI lc) (nI ic) (nI oc) (nI L) (nI hi) (nI t.1) (nI ho) (nI s.1) (nI hu) (nI y.1) (nI hs) (nI z.1) fl dr s.2.1 st fg ie pe la rm ln lw t.2.1 s.2.2.1 y.2.1 z.2.1 ct := by
  unfold wX_receive_105
  refine xs_1 b ?_
  refine br_f (by decide) ?_
  refine br_f e2 (br_f e3 (br_f e4 (br_f e5 (br_f e10 ?_))))
  refine pk_lt L lc (fun _ => ?_) (fun e => absurd e (by omega))
  refine xo_echo hm hh' ok.1 hc' ?_
  exact ⟨vp_in_nI (by omega) (by omega), nm_r (congrArg (fun i => upd ln i (nI m)) (nI_clamp (by omega))) ⟨vp_in_nI (by omega) (by omega), nm_r (congrArg (fun i => upd lw i ((ty_echo fl oc ho m s).2.1 - s.2.1)) (nI_clamp (by omega))) (nm_r (nI_1 L) h)⟩⟩
theorem xr_st0 (b : ¬ fl &&& 1 = 0) (e2 : ¬ nI m = ct 2) (e3 : ¬ nI m = ct 3) (e4 : ¬ nI m = ct 4) (e5 : ¬ nI m = ct 5) (e10 : ¬ nI m = 10) (hL : lc ≤ L) (hlc : L ≤ 32) (h : wX_receive_128 Q 7 (nI lc) (nI ic) (nI oc) (nI L) (nI hi) (nI t.1) (nI ho) (nI s.1) (nI hu) (nI y.1) (nI hs) (nI z.1) fl (dr + 1) s.2.1 st fg ie pe la rm ln lw t.2.1 s.2.2.1 y.2.1 z.2.1 ct) : wX_receive_105 Q (nI m) (nI lc) (nI ic) (nI oc) (nI L) (nI hi) (nI t.1) (nI ho) (nI s.1) (nI hu) (nI y.1) (nI hs) (nI z.1) fl dr s.2.1 st fg ie pe la rm ln lw t.2.1 s.2.2.1 y.2.1 z.2.1 ct := by
  unfold wX_receive_105
  refine xs_1 b ?_
  refine br_f (by decide) ?_
  refine br_f e2 (br_f e3 (br_f e4 (br_f e5 (br_f e10 ?_))))
  exact pk_lt L lc (fun e => absurd e (by omega)) (fun _ => nm_e h)
theorem xr_ra1 (b : fl &&& 1 = 0) (hm : m < 256) (ht : t.1 < ic) (hc : ic ≤ 64) (hh : hi < 64) (hh' : ho < 64) (hc' : oc ≤ 64) (ok : ty_o oc ho s) (h : wX_receive_128 Q 6 (nI lc) (nI ic) (nI oc) (nI L) (nI hi) (nI (ty_in hi (nI m) t).1) (nI ho) (nI (ty_echo fl oc ho m s).1) (nI hu) (nI y.1) (nI hs) (nI z.1) fl dr ((ty_echo fl oc ho m s).2.1) st fg 0 pe la rm ln lw ((ty_in hi (nI m) t).2.1) ((ty_echo fl oc ho m s).2.2.1) y.2.1 z.2.1 ct) : wX_receive_105 Q (nI m) (nI lc) (nI ic) (nI oc) (nI L) (nI hi) (nI t.1) (nI ho) (nI s.1) (nI hu) (nI y.1) (nI hs) (nI z.1) fl dr s.2.1 st fg ie pe la rm ln lw t.2.1 s.2.2.1 y.2.1 z.2.1 ct := by
  unfold wX_receive_105
  refine xs_0 b ?_
  refine br_t rfl ?_
  refine pk_lt t.1 ic (fun _ => ?_) (fun e => absurd e (by omega))
  refine xi_app hh (by omega) ?_
  exact xo_echo hm hh' ok.1 hc' h
theorem xr_ra0 (b : fl &&& 1 = 0) (ht : ic ≤ t.1) (hc : t.1 ≤ 64) (h : wX_receive_128 Q 7 (nI lc) (nI ic) (nI oc) (nI L) (nI hi) (nI t.1) (nI ho) (nI s.1) (nI hu) (nI y.1) (nI hs) (nI z.1) fl (dr + 1) s.2.1 st fg ie pe la rm ln lw t.2.1 s.2.2.1 y.2.1 z.2.1 ct) : wX_receive_105 Q (nI m) (nI lc) (nI ic) (nI oc) (nI L) (nI hi) (nI t.1) (nI ho) (nI s.1) (nI hu) (nI y.1) (nI hs) (nI z.1) fl dr s.2.1 st fg ie pe la rm ln lw t.2.1 s.2.2.1 y.2.1 z.2.1 ct := by
  unfold wX_receive_105
  refine xs_0 b ?_
  refine br_t rfl ?_
  exact pk_lt t.1 ic (fun e => absurd e (by omega)) (fun _ => nm_e h)
/-! a signal -/
def ty_zs (hs : Nat) (x : Int32) (z : TyI) : TyI := if z.1 < 8 then (z.1 + 1, upd z.2.1 ((hs + z.1) % 8) x, upd z.2.2 z.1 x) else z
theorem ty_zOk {hs : Nat} {x : Int32} {z : TyI} (q : ty_q 8 z.2.1 z.2.2 hs z.1) : ty_q 8 (ty_zs hs x z).2.1 (ty_zs hs x z).2.2 hs (ty_zs hs x z).1 := by
  unfold ty_zs
  by_cases c : z.1 < 8
  · simp only [if_pos c]; exact ty_qPush x q c
  · simp only [if_neg c]; exact q
theorem xg_post {x : Int32} (q : ty_q 8 z.2.1 z.2.2 hs z.1) (h : P (nI lc, nI ic, nI oc, nI L, nI hi, nI t.1, nI ho, nI s.1, nI hu, nI y.1, nI hs, nI (ty_zs hs (fg * 32 + x) z).1, fl, dr, s.2.1, st, fg, ie, pe, la, rm, ln, lw, t.2.1, s.2.2.1, y.2.1, (ty_zs hs (fg * 32 + x) z).2.1, ct)) : wpX_postSignal P (nI lc, nI ic, nI oc, nI L, nI hi, nI t.1, nI ho, nI s.1, nI hu, nI y.1, nI hs, nI z.1, fl, dr, s.2.1, st, fg, ie, pe, la, rm, ln, lw, t.2.1, s.2.2.1, y.2.1, z.2.1, ct) x := by
  have q1 := q.1; have q2 := q.2.1
  unfold ty_zs at h
  by_cases c : z.1 < 8
  · simp only [if_pos c] at h
    exact pk_le 8 z.1 (fun e => absurd e (by omega)) (fun _ => ⟨ty_rungI q1 q2, nm_r (congrArg (fun i => upd z.2.1 i (fg * 32 + x)) (ty_rungC q1 q2)) (nm_r (nI_1 z.1) h)⟩)
  · simp only [if_neg c] at h
    exact pk_le 8 z.1 (fun _ => h) (fun e => absurd e (by omega))
/-- what a signal leaves of pending and last result -/
def ty_sp1 (pe : Int32) : Int32 := if pe = 0 then pe else 0
def ty_sp2 (pe la : Int32) : Int32 := if pe = 0 then la else -2
theorem xg_16 {x : Int32} (hm : m < 256) (qz : ty_q 8 z.2.1 z.2.2 hs z.1) (q : ty_i hi t) (hh : ho < 64) (hc : oc ≤ 64) (h : P (nI lc, nI ic, nI oc, nI 0, nI hi, nI ((0, t.2)).1, nI ho, nI (ty_echo fl oc ho m (0, s.2)).1, nI hu, nI y.1, nI hs, nI (ty_zs hs (fg * 32 + x) z).1, fl, dr + (nI L + nI (ty_cn t.2.2 t.1 0)), (ty_echo fl oc ho m (0, s.2)).2.1, 0, fg, ie, ty_sp1 pe, ty_sp2 pe la, rm, ln, lw, ((0, t.2)).2.1, (ty_echo fl oc ho m (0, s.2)).2.2.1, y.2.1, (ty_zs hs (fg * 32 + x) z).2.1, ct)) : wX_raiseSignal_16 P (nI m) x (nI lc) (nI ic) (nI oc) (nI L) (nI hi) (nI t.1) (nI ho) (nI s.1) (nI hu) (nI y.1) (nI hs) (nI z.1) fl dr s.2.1 st fg ie pe la rm ln lw t.2.1 s.2.2.1 y.2.1 z.2.1 ct := by
  unfold wX_raiseSignal_16
  refine xg_post qz ?_
  refine xn_cnt (z := ty_zs hs (fg * 32 + x) z) q ?_
  refine nm_e ?_
  unfold ty_sp1 ty_sp2 at h
  by_cases c : pe = 0
  · simp only [if_pos c] at h
    exact br_t c (xo_echo (L := 0) (t := (0, t.2)) (s := (0, s.2)) (z := ty_zs hs (fg * 32 + x) z) hm hh (Nat.zero_le _) hc h)
  · simp only [if_neg c] at h
    refine br_f c ?_
    unfold wpX_endRead
    exact (xo_echo (L := 0) (t := (0, t.2)) (s := (0, s.2)) (z := ty_zs hs (fg * 32 + x) z) hm hh (Nat.zero_le _) hc h)
theorem xr_sig (hm : m < 256) (qz : ty_q 8 z.2.1 z.2.2 hs z.1) (q : ty_i hi t) (hh : ho < 64) (hc : oc ≤ 64) (h : wX_receive_128 Q 3 (nI lc) (nI ic) (nI oc) (nI 0) (nI hi) (nI ((0, t.2)).1) (nI ho) (nI (ty_echo fl oc ho m (0, s.2)).1) (nI hu) (nI y.1) (nI hs) (nI (ty_zs hs (fg * 32 + (if nI m = ct 0 then 2 else 20)) z).1) fl (dr + (nI L + nI (ty_cn t.2.2 t.1 0))) ((ty_echo fl oc ho m (0, s.2)).2.1) 0 fg ie (ty_sp1 pe) (ty_sp2 pe la) rm ln lw (((0, t.2)).2.1) ((ty_echo fl oc ho m (0, s.2)).2.2.1) y.2.1 ((ty_zs hs (fg * 32 + (if nI m = ct 0 then 2 else 20)) z).2.1) ct) : wX_receive_95 Q (nI m) (nI lc) (nI ic) (nI oc) (nI L) (nI hi) (nI t.1) (nI ho) (nI s.1) (nI hu) (nI y.1) (nI hs) (nI z.1) fl dr s.2.1 st fg ie pe la rm ln lw t.2.1 s.2.2.1 y.2.1 z.2.1 ct := by
  unfold wX_receive_95
  by_cases c : nI m = ct 0
  · simp only [if_pos c] at h
    exact br_t c (xg_16 hm qz q hh hc h)
  · simp only [if_neg c] at h
    exact br_f c (xg_16 hm qz q hh hc h)
/-! the ways into receive -/
theorem xr_66 {v1 : Int32} (hv : v1 &&& 255 = nI m) (c : fl &&& 16 = 0 ∨ (¬ nI m = ct 7 ∧ ¬ nI m = ct 6)) (h : wX_receive_66 Q (nI m) (nI lc) (nI ic) (nI oc) (nI L) (nI hi) (nI t.1) (nI ho) (nI s.1) (nI hu) (nI y.1) (nI hs) (nI z.1) fl dr s.2.1 st fg ie pe la rm ln lw t.2.1 s.2.2.1 y.2.1 z.2.1 ct) : wpX_receive Q (nI lc, nI ic, nI oc, nI L, nI hi, nI t.1, nI ho, nI s.1, nI hu, nI y.1, nI hs, nI z.1, fl, dr, s.2.1, st, fg, ie, pe, la, rm, ln, lw, t.2.1, s.2.2.1, y.2.1, z.2.1, ct) v1 := by
  refine nm_r hv ?_
  by_cases f : fl &&& 16 = 0
  · refine xs_0 f ?_
    refine br_t rfl ?_
    unfold wX_receive_36
    refine xs_0 f ?_
    exact br_t rfl h
  · rcases c with c | ⟨c7, c6⟩
    · exact absurd c f
    · refine xs_1 f ?_
      refine br_f (by decide) (br_f c7 ?_)
      unfold wX_receive_36
      refine xs_1 f ?_
      exact br_f (by decide) (br_f c6 h)
theorem xr_stop {v1 : Int32} (hv : v1 &&& 255 = nI m) (f : ¬ fl &&& 16 = 0) (c : nI m = ct 7) (h : wX_receive_128 Q 1 (nI lc) (nI ic) (nI oc) (nI L) (nI hi) (nI t.1) (nI ho) (nI s.1) (nI hu) (nI y.1) (nI hs) (nI z.1) fl dr s.2.1 1 fg ie pe la rm ln lw t.2.1 s.2.2.1 y.2.1 z.2.1 ct) : wpX_receive Q (nI lc, nI ic, nI oc, nI L, nI hi, nI t.1, nI ho, nI s.1, nI hu, nI y.1, nI hs, nI z.1, fl, dr, s.2.1, st, fg, ie, pe, la, rm, ln, lw, t.2.1, s.2.2.1, y.2.1, z.2.1, ct) v1 := by
  refine nm_r hv ?_
  refine xs_1 f ?_
  exact br_f (by decide) (br_t c h)
theorem xr_start {v1 : Int32} (hv : v1 &&& 255 = nI m) (f : ¬ fl &&& 16 = 0) (c7 : ¬ nI m = ct 7) (c : nI m = ct 6) (h : wX_receive_128 Q 2 (nI lc) (nI ic) (nI oc) (nI L) (nI hi) (nI t.1) (nI ho) (nI s.1) (nI hu) (nI y.1) (nI hs) (nI z.1) fl dr s.2.1 0 fg ie pe la rm ln lw t.2.1 s.2.2.1 y.2.1 z.2.1 ct) : wpX_receive Q (nI lc, nI ic, nI oc, nI L, nI hi, nI t.1, nI ho, nI s.1, nI hu, nI y.1, nI hs, nI z.1, fl, dr, s.2.1, st, fg, ie, pe, la, rm, ln, lw, t.2.1, s.2.2.1, y.2.1, z.2.1, ct) v1 := by
  refine nm_r hv ?_
  refine xs_1 f ?_
  refine br_f (by decide) (br_f c7 ?_)
  unfold wX_receive_36
  refine xs_1 f ?_
  exact br_f (by decide) (br_t c h)
theorem xr_95 (f : ¬ fl &&& 8 = 0) (c : nI m = ct 0 ∨ nI m = ct 1) (h : wX_receive_95 Q (nI m) (nI lc) (nI ic) (nI oc) (nI L) (nI hi) (nI t.1) (nI ho) (nI s.1) (nI hu) (nI y.1) (nI hs) (nI z.1) fl dr s.2.1 st fg ie pe la rm ln lw t.2.1 s.2.2.1 y.2.1 z.2.1 ct) : wX_receive_66 Q (nI m) (nI lc) (nI ic) (nI oc) (nI L) (nI hi) (nI t.1) (nI ho) (nI s.1) (nI hu) (nI y.1) (nI hs) (nI z.1) fl dr s.2.1 st fg ie pe la rm ln lw t.2.1 s.2.2.1 y.2.1 z.2.1 ct := by
  unfold wX_receive_66
  refine xs_1 f ?_
  refine br_f (by decide) ?_
  by_cases d : nI m = ct 0
  · exact br_t d h
  · rcases c with c | c
    · exact absurd c d
    · exact br_f d (br_t c h)
theorem xr_105 (c : fl &&& 8 = 0 ∨ (¬ nI m = ct 0 ∧ ¬ nI m = ct 1)) (h : wX_receive_105 Q (nI m) (nI lc) (nI ic) (nI oc) (nI L) (nI hi) (nI t.1) (nI ho) (nI s.1) (nI hu) (nI y.1) (nI hs) (nI z.1) fl dr s.2.1 st fg ie pe la rm ln lw t.2.1 s.2.2.1 y.2.1 z.2.1 ct) : wX_receive_66 Q (nI m) (nI lc) (nI ic) (nI oc) (nI L) (nI hi) (nI t.1) (nI ho) (nI s.1) (nI hu) (nI y.1) (nI hs) (nI z.1) fl dr s.2.1 st fg ie pe la rm ln lw t.2.1 s.2.2.1 y.2.1 z.2.1 ct := by
  unfold wX_receive_66
  by_cases f : fl &&& 8 = 0
  · refine xs_0 f ?_
    exact br_t rfl h
  · rcases c with c | ⟨c0, c1⟩
    · exact absurd c f
    · refine xs_1 f ?_
      exact br_f (by decide) (br_f c0 (br_f c1 h))
end TD
