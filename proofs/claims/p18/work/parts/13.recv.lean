section PR
variable {lc ic oc L hi ho hu hs m k p Ls kc ks n : Nat} {s : TyO} {t y z : TyI} {fl dr st fg ie pe la rm v1 : Int32} {ln lw : TyF} {P : Int32 → Prop} {xs : Nat → Int32} {J : PrJ} {x3 x6 : Int64} {x5 x8 x9 x10 x11 : Int32} {Q : Int32 → St2 → Prop} {ds cs : List Nat} {d : Nat}
/-! receive of a byte that is neither of the flow's nor a signal's -/
theorem xq_105 (hv : v1 &&& 255 = nI m) (n7 : ¬ nI m = pr_ct 7) (n6 : ¬ nI m = pr_ct 6) (n0 : ¬ nI m = pr_ct 0) (n1 : ¬ nI m = pr_ct 1) (h : wX_receive_105 Q (nI m) (nI lc) (nI ic) (nI oc) (nI L) (nI hi) (nI t.1) (nI ho) (nI s.1) (nI hu) (nI y.1) (nI hs) (nI z.1) fl dr s.2.1 st fg ie pe la rm ln lw t.2.1 s.2.2.1 y.2.1 z.2.1 pr_ct) : wpX_receive Q (nI lc, nI ic, nI oc, nI L, nI hi, nI t.1, nI ho, nI s.1, nI hu, nI y.1, nI hs, nI z.1, fl, dr, s.2.1, st, fg, ie, pe, la, rm, ln, lw, t.2.1, s.2.2.1, y.2.1, z.2.1, pr_ct) v1 :=
  xr_66 hv (Or.inr ⟨n7, n6⟩) (xr_105 (Or.inr ⟨n0, n1⟩) h)
theorem xq_er (C : ty_C lc ic oc L hi ho hu hs s t y z pe rm lw) (b : ¬ fl &&& 1 = 0) (hv : v1 &&& 255 = nI 127) (h : ∀ s : TyO, ty_o oc ho s → Q 4 (nI lc, nI ic, nI oc, nI (L - 1), nI (ty_ck fl pe la rm ie pr_ct hi hu t y).1, nI (ty_ck fl pe la rm ie pr_ct hi hu t y).2.1.1, nI ho, nI s.1, nI hu, nI (ty_ck fl pe la rm ie pr_ct hi hu t y).2.2.1.1, nI hs, nI z.1, fl, dr, s.2.1, st, fg, ie, (ty_ck fl pe la rm ie pr_ct hi hu t y).2.2.2.1, (ty_ck fl pe la rm ie pr_ct hi hu t y).2.2.2.2, rm, ln, lw, (ty_ck fl pe la rm ie pr_ct hi hu t y).2.1.2.1, s.2.2.1, (ty_ck fl pe la rm ie pr_ct hi hu t y).2.2.1.2.1, z.2.1, pr_ct)) : wpX_receive Q (nI lc, nI ic, nI oc, nI L, nI hi, nI t.1, nI ho, nI s.1, nI hu, nI y.1, nI hs, nI z.1, fl, dr, s.2.1, st, fg, ie, pe, la, rm, ln, lw, t.2.1, s.2.2.1, y.2.1, z.2.1, pr_ct) v1 := by
  obtain ⟨⟨c1, c2, c3, c4, c5, c6, c7, c8⟩, ok, q, pq, qz, hl, hp⟩ := C
  refine xq_105 hv (by decide) (by decide) (by decide) (by decide) ?_
  cases L with
  | zero =>
    refine xr_er0 b (by decide) ?_
    exact xr_128 (L := 0) q pq hp (h s ok)
  | succ l =>
    refine xr_er1 b (by decide) (by decide) hl (by omega) ok.2.1 c6 ok ?_
    exact xr_128 (L := l) q pq hp (h _ (ty_oEe (ty_oCl ok c6) c6))
theorem xq_we (C : ty_C lc ic oc L hi ho hu hs s t y z pe rm lw) (b : ¬ fl &&& 1 = 0) (hv : v1 &&& 255 = nI 23) (h : ∀ s : TyO, ty_o oc ho s → Q 4 (nI lc, nI ic, nI oc, nI (ty_ww ln (ty_wb ln L)), nI (ty_ck fl pe la rm ie pr_ct hi hu t y).1, nI (ty_ck fl pe la rm ie pr_ct hi hu t y).2.1.1, nI ho, nI s.1, nI hu, nI (ty_ck fl pe la rm ie pr_ct hi hu t y).2.2.1.1, nI hs, nI z.1, fl, dr, s.2.1, st, fg, ie, (ty_ck fl pe la rm ie pr_ct hi hu t y).2.2.2.1, (ty_ck fl pe la rm ie pr_ct hi hu t y).2.2.2.2, rm, ln, lw, (ty_ck fl pe la rm ie pr_ct hi hu t y).2.1.2.1, s.2.2.1, (ty_ck fl pe la rm ie pr_ct hi hu t y).2.2.1.2.1, z.2.1, pr_ct)) : wpX_receive Q (nI lc, nI ic, nI oc, nI L, nI hi, nI t.1, nI ho, nI s.1, nI hu, nI y.1, nI hs, nI z.1, fl, dr, s.2.1, st, fg, ie, pe, la, rm, ln, lw, t.2.1, s.2.2.1, y.2.1, z.2.1, pr_ct) v1 := by
  obtain ⟨⟨c1, c2, c3, c4, c5, c6, c7, c8⟩, ok, q, pq, qz, hl, hp⟩ := C
  refine xq_105 hv (by decide) (by decide) (by decide) (by decide) ?_
  cases L with
  | zero =>
    refine xr_we0 b (by decide) (by decide) ?_
    exact xr_128 (L := 0) q pq hp (h s ok)
  | succ l =>
    refine xr_we1 b (by decide) (by decide) (by decide) hl (by omega) ok.2.1 c6 ok ?_
    exact xr_128 (L := ty_ww ln (ty_wb ln (l + 1))) q pq hp (h _ (ty_oEe (ty_oCl ok c6) c6))
theorem xq_ki (C : ty_C lc ic oc L hi ho hu hs s t y z pe rm lw) (b : ¬ fl &&& 1 = 0) (hv : v1 &&& 255 = nI 21) (h : ∀ s : TyO, ty_o oc ho s → Q 4 (nI lc, nI ic, nI oc, nI 0, nI (ty_ck fl pe la rm ie pr_ct hi hu t y).1, nI (ty_ck fl pe la rm ie pr_ct hi hu t y).2.1.1, nI ho, nI s.1, nI hu, nI (ty_ck fl pe la rm ie pr_ct hi hu t y).2.2.1.1, nI hs, nI z.1, fl, dr, s.2.1, st, fg, ie, (ty_ck fl pe la rm ie pr_ct hi hu t y).2.2.2.1, (ty_ck fl pe la rm ie pr_ct hi hu t y).2.2.2.2, rm, ln, lw, (ty_ck fl pe la rm ie pr_ct hi hu t y).2.1.2.1, s.2.2.1, (ty_ck fl pe la rm ie pr_ct hi hu t y).2.2.1.2.1, z.2.1, pr_ct)) : wpX_receive Q (nI lc, nI ic, nI oc, nI L, nI hi, nI t.1, nI ho, nI s.1, nI hu, nI y.1, nI hs, nI z.1, fl, dr, s.2.1, st, fg, ie, pe, la, rm, ln, lw, t.2.1, s.2.2.1, y.2.1, z.2.1, pr_ct) v1 := by
  obtain ⟨⟨c1, c2, c3, c4, c5, c6, c7, c8⟩, ok, q, pq, qz, hl, hp⟩ := C
  refine xq_105 hv (by decide) (by decide) (by decide) (by decide) ?_
  cases L with
  | zero =>
    refine xr_ki0 b (by decide) (by decide) (by decide) ?_
    exact xr_128 (L := 0) q pq hp (h s ok)
  | succ l =>
    refine xr_ki1 b (by decide) (by decide) (by decide) (by decide) hl (by omega) ok.2.1 c6 ok ?_
    exact xr_128 (L := 0) q pq hp (h _ (ty_oEk (ty_oCl ok c6) c6))
theorem xq_pl (C : ty_C lc ic oc L hi ho hu hs s t y z pe rm lw) (x : Int32) (r : t.1 + L + 1 ≤ ic) : ty_C lc ic oc 0 hi ho hu hs s (ty_in hi x (ty_pl hi ln L 0 t)) y z pe rm lw := by
  obtain ⟨⟨c1, c2, c3, c4, c5, c6, c7, c8⟩, ok, q, pq, qz, hl, hp⟩ := C
  have n1 : (ty_pl hi ln L 0 t).1 = t.1 + L := ty_pl1 hi ln L 0 t
  have q' : ty_i hi (ty_in hi x (ty_pl hi ln L 0 t)) := ty_iIn _ (ty_iPl L 0 t q (by omega)) (by omega)
  exact ⟨⟨c1, c2, c3, c4, c5, c6, by omega, by show (ty_pl hi ln L 0 t).1 + 1 ≤ ic; omega⟩, ok, q', pq, qz, fun j hj => absurd hj (Nat.not_lt_zero j), hp⟩
theorem xq_ef (C : ty_C lc ic oc L hi ho hu hs s t y z pe rm lw) (b : ¬ fl &&& 1 = 0) (hv : v1 &&& 255 = nI 4) (h1 : t.1 + L + 1 ≤ ic → Q 5 (nI lc, nI ic, nI oc, nI 0, nI (ty_ck fl pe la rm ie pr_ct hi hu (ty_in hi 256 (ty_pl hi ln L 0 t)) y).1, nI (ty_ck fl pe la rm ie pr_ct hi hu (ty_in hi 256 (ty_pl hi ln L 0 t)) y).2.1.1, nI ho, nI s.1, nI hu, nI (ty_ck fl pe la rm ie pr_ct hi hu (ty_in hi 256 (ty_pl hi ln L 0 t)) y).2.2.1.1, nI hs, nI z.1, fl, dr, s.2.1, st, fg, ie, (ty_ck fl pe la rm ie pr_ct hi hu (ty_in hi 256 (ty_pl hi ln L 0 t)) y).2.2.2.1, (ty_ck fl pe la rm ie pr_ct hi hu (ty_in hi 256 (ty_pl hi ln L 0 t)) y).2.2.2.2, rm, ln, lw, (ty_ck fl pe la rm ie pr_ct hi hu (ty_in hi 256 (ty_pl hi ln L 0 t)) y).2.1.2.1, s.2.2.1, (ty_ck fl pe la rm ie pr_ct hi hu (ty_in hi 256 (ty_pl hi ln L 0 t)) y).2.2.1.2.1, z.2.1, pr_ct)) (h0 : ic < t.1 + L + 1 → Q 7 (nI lc, nI ic, nI oc, nI 0, nI (ty_ck fl pe la rm ie pr_ct hi hu t y).1, nI (ty_ck fl pe la rm ie pr_ct hi hu t y).2.1.1, nI ho, nI s.1, nI hu, nI (ty_ck fl pe la rm ie pr_ct hi hu t y).2.2.1.1, nI hs, nI z.1, fl, dr + nI L, s.2.1, st, fg, ie, (ty_ck fl pe la rm ie pr_ct hi hu t y).2.2.2.1, (ty_ck fl pe la rm ie pr_ct hi hu t y).2.2.2.2, rm, ln, lw, (ty_ck fl pe la rm ie pr_ct hi hu t y).2.1.2.1, s.2.2.1, (ty_ck fl pe la rm ie pr_ct hi hu t y).2.2.1.2.1, z.2.1, pr_ct)) : wpX_receive Q (nI lc, nI ic, nI oc, nI L, nI hi, nI t.1, nI ho, nI s.1, nI hu, nI y.1, nI hs, nI z.1, fl, dr, s.2.1, st, fg, ie, pe, la, rm, ln, lw, t.2.1, s.2.2.1, y.2.1, z.2.1, pr_ct) v1 := by
  have C0 := C
  obtain ⟨⟨c1, c2, c3, c4, c5, c6, c7, c8⟩, ok, q, pq, qz, hl, hp⟩ := C0
  refine xq_105 hv (by decide) (by decide) (by decide) (by decide) ?_
  by_cases r : t.1 + L + 1 ≤ ic
  · refine xr_ef1 b (by decide) (by decide) (by decide) (by decide) (by omega) c4 q.1 r ?_
    exact xr_128 (L := 0) (t := ty_in hi 256 (ty_pl hi ln L 0 t)) (xq_pl C 256 r).2.2.1 pq hp (h1 r)
  · refine xr_ef0 b (by decide) (by decide) (by decide) (by decide) (by omega) c4 c8 (by omega) ?_
    exact xr_128 (L := 0) q pq hp (h0 (by omega))
theorem xq_nl (C : ty_C lc ic oc L hi ho hu hs s t y z pe rm lw) (b : ¬ fl &&& 1 = 0) (hv : v1 &&& 255 = nI 10) (h1 : t.1 + L + 1 ≤ ic → ∀ s : TyO, ty_o oc ho s → Q 5 (nI lc, nI ic, nI oc, nI 0, nI (ty_ck fl pe la rm ie pr_ct hi hu (ty_in hi 10 (ty_pl hi ln L 0 t)) y).1, nI (ty_ck fl pe la rm ie pr_ct hi hu (ty_in hi 10 (ty_pl hi ln L 0 t)) y).2.1.1, nI ho, nI s.1, nI hu, nI (ty_ck fl pe la rm ie pr_ct hi hu (ty_in hi 10 (ty_pl hi ln L 0 t)) y).2.2.1.1, nI hs, nI z.1, fl, dr, s.2.1, st, fg, ie, (ty_ck fl pe la rm ie pr_ct hi hu (ty_in hi 10 (ty_pl hi ln L 0 t)) y).2.2.2.1, (ty_ck fl pe la rm ie pr_ct hi hu (ty_in hi 10 (ty_pl hi ln L 0 t)) y).2.2.2.2, rm, ln, lw, (ty_ck fl pe la rm ie pr_ct hi hu (ty_in hi 10 (ty_pl hi ln L 0 t)) y).2.1.2.1, s.2.2.1, (ty_ck fl pe la rm ie pr_ct hi hu (ty_in hi 10 (ty_pl hi ln L 0 t)) y).2.2.1.2.1, z.2.1, pr_ct)) (h0 : ic < t.1 + L + 1 → Q 7 (nI lc, nI ic, nI oc, nI 0, nI (ty_ck fl pe la rm ie pr_ct hi hu t y).1, nI (ty_ck fl pe la rm ie pr_ct hi hu t y).2.1.1, nI ho, nI s.1, nI hu, nI (ty_ck fl pe la rm ie pr_ct hi hu t y).2.2.1.1, nI hs, nI z.1, fl, dr + (nI L + 1), s.2.1, st, fg, ie, (ty_ck fl pe la rm ie pr_ct hi hu t y).2.2.2.1, (ty_ck fl pe la rm ie pr_ct hi hu t y).2.2.2.2, rm, ln, lw, (ty_ck fl pe la rm ie pr_ct hi hu t y).2.1.2.1, s.2.2.1, (ty_ck fl pe la rm ie pr_ct hi hu t y).2.2.1.2.1, z.2.1, pr_ct)) : wpX_receive Q (nI lc, nI ic, nI oc, nI L, nI hi, nI t.1, nI ho, nI s.1, nI hu, nI y.1, nI hs, nI z.1, fl, dr, s.2.1, st, fg, ie, pe, la, rm, ln, lw, t.2.1, s.2.2.1, y.2.1, z.2.1, pr_ct) v1 := by
  have C0 := C
  obtain ⟨⟨c1, c2, c3, c4, c5, c6, c7, c8⟩, ok, q, pq, qz, hl, hp⟩ := C0
  refine xq_105 hv (by decide) (by decide) (by decide) (by decide) ?_
  by_cases r : t.1 + L + 1 ≤ ic
  · refine xr_nl1 b (by decide) (by decide) (by decide) (by decide) (by decide) (by omega) c4 q.1 r ok.2.1 c6 ok ?_
    exact xr_128 (L := 0) (t := ty_in hi 10 (ty_pl hi ln L 0 t)) (xq_pl C 10 r).2.2.1 pq hp (h1 r _ (ty_oEcho ok c6))
  · refine xr_nl0 b (by decide) (by decide) (by decide) (by decide) (by decide) (by omega) c4 c8 (by omega) ?_
    exact xr_128 (L := 0) q pq hp (h0 (by omega))
theorem xq_st (C : ty_C lc ic oc L hi ho hu hs s t y z pe rm lw) (b : ¬ fl &&& 1 = 0) (hv : v1 &&& 255 = nI m) (hm : m = 97 ∨ m = 32 ∨ m = 9) (h1 : L < lc → ∀ (s : TyO) (w : Int32), ty_o oc ho s → (∃ a : Nat, a ≤ 15 ∧ w = nI a) → Q 6 (nI lc, nI ic, nI oc, nI (L + 1), nI (ty_ck fl pe la rm ie pr_ct hi hu t y).1, nI (ty_ck fl pe la rm ie pr_ct hi hu t y).2.1.1, nI ho, nI s.1, nI hu, nI (ty_ck fl pe la rm ie pr_ct hi hu t y).2.2.1.1, nI hs, nI z.1, fl, dr, s.2.1, st, fg, ie, (ty_ck fl pe la rm ie pr_ct hi hu t y).2.2.2.1, (ty_ck fl pe la rm ie pr_ct hi hu t y).2.2.2.2, rm, upd ln L (nI m), upd lw L w, (ty_ck fl pe la rm ie pr_ct hi hu t y).2.1.2.1, s.2.2.1, (ty_ck fl pe la rm ie pr_ct hi hu t y).2.2.1.2.1, z.2.1, pr_ct)) (h0 : lc ≤ L → Q 7 (nI lc, nI ic, nI oc, nI L, nI (ty_ck fl pe la rm ie pr_ct hi hu t y).1, nI (ty_ck fl pe la rm ie pr_ct hi hu t y).2.1.1, nI ho, nI s.1, nI hu, nI (ty_ck fl pe la rm ie pr_ct hi hu t y).2.2.1.1, nI hs, nI z.1, fl, dr + 1, s.2.1, st, fg, ie, (ty_ck fl pe la rm ie pr_ct hi hu t y).2.2.2.1, (ty_ck fl pe la rm ie pr_ct hi hu t y).2.2.2.2, rm, ln, lw, (ty_ck fl pe la rm ie pr_ct hi hu t y).2.1.2.1, s.2.2.1, (ty_ck fl pe la rm ie pr_ct hi hu t y).2.2.1.2.1, z.2.1, pr_ct)) : wpX_receive Q (nI lc, nI ic, nI oc, nI L, nI hi, nI t.1, nI ho, nI s.1, nI hu, nI y.1, nI hs, nI z.1, fl, dr, s.2.1, st, fg, ie, pe, la, rm, ln, lw, t.2.1, s.2.2.1, y.2.1, z.2.1, pr_ct) v1 := by
  have C0 := C
  obtain ⟨⟨c1, c2, c3, c4, c5, c6, c7, c8⟩, ok, q, pq, qz, hl, hp⟩ := C0
  have hm2 : m < 256 := by omega
  have hm10 : m ≠ 10 := by omega
  have go : wX_receive_105 Q (nI m) (nI lc) (nI ic) (nI oc) (nI L) (nI hi) (nI t.1) (nI ho) (nI s.1) (nI hu) (nI y.1) (nI hs) (nI z.1) fl dr s.2.1 st fg ie pe la rm ln lw t.2.1 s.2.2.1 y.2.1 z.2.1 pr_ct → wpX_receive Q (nI lc, nI ic, nI oc, nI L, nI hi, nI t.1, nI ho, nI s.1, nI hu, nI y.1, nI hs, nI z.1, fl, dr, s.2.1, st, fg, ie, pe, la, rm, ln, lw, t.2.1, s.2.2.1, y.2.1, z.2.1, pr_ct) v1 := fun g => by
    rcases hm with rfl | rfl | rfl <;> exact xq_105 hv (by decide) (by decide) (by decide) (by decide) g
  have d2 : ¬ nI m = pr_ct 2 := by rcases hm with rfl | rfl | rfl <;> decide
  have d3 : ¬ nI m = pr_ct 3 := by rcases hm with rfl | rfl | rfl <;> decide
  have d4 : ¬ nI m = pr_ct 4 := by rcases hm with rfl | rfl | rfl <;> decide
  have d5 : ¬ nI m = pr_ct 5 := by rcases hm with rfl | rfl | rfl <;> decide
  have d10 : ¬ nI m = 10 := by rcases hm with rfl | rfl | rfl <;> decide
  refine go ?_
  by_cases r : L < lc
  · refine xr_st1 b d2 d3 d4 d5 d10 hm2 r c2 ok.2.1 c6 ok ?_
    exact xr_128 (L := L + 1) q pq hp (h1 r _ _ (ty_oEcho ok c6) (ty_wE s hm2 hm10))
  · refine xr_st0 b d2 d3 d4 d5 d10 (by omega) (by omega) ?_
    exact xr_128 q pq hp (h0 (by omega))
/-! to the drain behind a check -/
theorem pr_goK (H : pr_H k p J) (hk : k ≤ 1000) (hic : ic = 16) (hfl : ¬ fl &&& 1 = 0) (C : ty_C lc ic oc L hi ho hu hs s t y z pe rm lw) (hJ : pr_J k x3 x5 x6 x8 x9 x10 L dr t y ln) : ∃ fu, wL_law_521 P Ls xs J x3 x5 x10 (nI p) kc ks fu x6 x8 x9 0 (nI lc) (nI ic) (nI oc) (nI L) (nI (ty_ck fl pe la rm ie pr_ct hi hu t y).1) (nI (ty_ck fl pe la rm ie pr_ct hi hu t y).2.1.1) (nI ho) (nI s.1) (nI hu) (nI (ty_ck fl pe la rm ie pr_ct hi hu t y).2.2.1.1) (nI hs) (nI z.1) fl dr s.2.1 st fg ie ((ty_ck fl pe la rm ie pr_ct hi hu t y).2.2.2.1) ((ty_ck fl pe la rm ie pr_ct hi hu t y).2.2.2.2) rm ln lw ((ty_ck fl pe la rm ie pr_ct hi hu t y).2.1.2.1) s.2.2.1 ((ty_ck fl pe la rm ie pr_ct hi hu t y).2.2.1.2.1) z.2.1 pr_ct :=
  pr_go (hi := (ty_ck fl pe la rm ie pr_ct hi hu t y).1) (t := (ty_ck fl pe la rm ie pr_ct hi hu t y).2.1) (y := (ty_ck fl pe la rm ie pr_ct hi hu t y).2.2.1) (pe := (ty_ck fl pe la rm ie pr_ct hi hu t y).2.2.2.1) (la := (ty_ck fl pe la rm ie pr_ct hi hu t y).2.2.2.2) H hk hic hfl (ty_ckC fl la ie pr_ct C) (pr_Jck hfl hJ)
/-- the line's model cut -/
theorem pr_Jtk (m L' : Nat) (h1 : pe_ok 3 ds ∧ ds.length ≤ 32) (h2 : pe_ok 4 cs ∧ cs.length ≤ 32) (h3 : dr = nI d) (h4 : d ≤ 40 * k) (h5 : d = 0 → x9 = 0 ∧ x10 = 0 ∧ ds.length = L ∧ pe_us ln L 0 = ds.map pe_by ∧ pe_u y ++ pe_i t = cs.map pe_by) (hm : m ≤ ds.length) (hL : d = 0 → L' = m) : pr_J k (lN (pe_enc (ds.take m))) (nI m) (lN (pe_enc cs)) (nI cs.length) x9 x10 L' dr t y ln := by
  have len : (ds.take m).length = m := by rw [List.length_take]; omega
  refine ⟨ds.take m, cs, d, ⟨pe_okt h1.1, by omega, rfl, by rw [len]⟩, ⟨h2.1, h2.2, rfl, rfl⟩, h3, h4, fun e => ?_⟩
  obtain ⟨a1, a2, a3, a4, a5⟩ := h5 e
  have e2 := hL e
  subst e2
  exact ⟨a1, a2, len, pe_usTm a4 (by omega), a5⟩
/-! the law's word erased -/
def pm_b (ds : List Nat) (j : Nat) : Nat := ty_ws (fun i => !(ds.getD i 0 == 0)) j
def pm_w (ds : List Nat) (j : Nat) : Nat := ty_ws (fun i => ds.getD i 0 == 0) j
theorem ty_wsE {f g : Nat → Bool} : ∀ n, (∀ j, j < n → f j = g j) → ty_ws f n = ty_ws g n := by
  intro n
  induction n with
  | zero => intro _; rfl
  | succ n ih =>
    intro h
    show (if f n = true then ty_ws f n else n + 1) = (if g n = true then ty_ws g n else n + 1)
    rw [h n (by omega), ih (fun j hj => h j (by omega))]
theorem pm_bl {c : Nat} (h : c < 3) : ty_bl (pe_by c) = !(c == 0) := by
  match c, h with
  | 0, _ => decide
  | 1, _ => decide
  | 2, _ => decide
theorem pm_eq (od : pe_ok 3 ds) (hL : ds.length = L) (h : pe_us ln L 0 = ds.map pe_by) : ty_ww ln (ty_wb ln L) = pm_w ds (pm_b ds ds.length) := by
  have hat : ∀ j, j < L → ty_bl (ln j) = !(ds.getD j 0 == 0) := fun j hj => by
    have e := pe_usAt L 0 ds h j hj
    rw [Nat.zero_add] at e
    rw [e]; exact pm_bl (pr_getD od (by omega)).1
  have e1 : ty_wb ln L = pm_b ds ds.length := by
    rw [hL]; exact ty_wsE L hat
  have le : ty_wb ln L ≤ L := ty_wble ln L
  rw [e1] at le ⊢
  refine ty_wsE _ (fun j hj => ?_)
  rw [hat j (by omega), Bool.not_not]
theorem pr_186 (od : pe_ok 3 ds) (hd : ds.length ≤ 32) : ∀ (j fu : Nat), j ≤ ds.length → j < fu → wL_law_208 P Ls xs J (lN (pe_enc ds)) (nI (pm_w ds j)) x6 x8 x9 x10 x11 kc ks (nI lc) (nI ic) (nI oc) (nI L) (nI hi) (nI t.1) (nI ho) (nI s.1) (nI hu) (nI y.1) (nI hs) (nI z.1) fl dr s.2.1 st fg ie pe la rm ln lw t.2.1 s.2.2.1 y.2.1 z.2.1 pr_ct → wL_law_186 P Ls xs J (lN (pe_enc ds)) x6 x8 x9 x10 x11 kc ks (nI lc) (nI ic) (nI oc) (nI L) (nI hi) (nI t.1) (nI ho) (nI s.1) (nI hu) (nI y.1) (nI hs) (nI z.1) fl dr s.2.1 st fg ie pe la rm ln lw t.2.1 s.2.2.1 y.2.1 z.2.1 pr_ct fu (nI j) := by
  intro j
  induction j with
  | zero =>
    intro fu hj hf h
    obtain ⟨fu, rfl⟩ : ∃ k, fu = k + 1 := ⟨fu - 1, by omega⟩
    exact pk_le 0 0 (fun _ => h) (fun e => absurd e (by omega))
  | succ j ih =>
    intro fu hj hf h
    obtain ⟨fu, rfl⟩ : ∃ k, fu = k + 1 := ⟨fu - 1, by omega⟩
    have g := (pr_getD od (show j < ds.length by omega)).1
    refine pk_le (j + 1) 0 (fun e => absurd e (by omega)) (fun _ => ?_)
    rw [nI_pred]
    refine pb_codeAt (pe_okm od (by omega)) hd (by omega) ?_
    refine pk_eq (ds.getD j 0) 0 (fun c => ?_) (fun c => ?_)
    · have e : pm_w ds (j + 1) = pm_w ds j := if_pos (by show (ds.getD j 0 == 0) = true; rw [c]; rfl)
      rw [e] at h
      exact nm_r (pk_m1 j) (ih fu (by omega) (by omega) h)
    · have e : pm_w ds (j + 1) = j + 1 := if_neg (by show ¬ (ds.getD j 0 == 0) = true; rw [beq_iff_eq]; exact c)
      rw [e] at h
      exact h
theorem pr_164 (od : pe_ok 3 ds) (hd : ds.length ≤ 32) : ∀ (j fu : Nat), j ≤ ds.length → j < fu → wL_law_208 P Ls xs J (lN (pe_enc ds)) (nI (pm_w ds (pm_b ds j))) x6 x8 x9 x10 x11 kc ks (nI lc) (nI ic) (nI oc) (nI L) (nI hi) (nI t.1) (nI ho) (nI s.1) (nI hu) (nI y.1) (nI hs) (nI z.1) fl dr s.2.1 st fg ie pe la rm ln lw t.2.1 s.2.2.1 y.2.1 z.2.1 pr_ct → wL_law_164 P Ls xs J (lN (pe_enc ds)) x6 x8 x9 x10 x11 kc ks (nI lc) (nI ic) (nI oc) (nI L) (nI hi) (nI t.1) (nI ho) (nI s.1) (nI hu) (nI y.1) (nI hs) (nI z.1) fl dr s.2.1 st fg ie pe la rm ln lw t.2.1 s.2.2.1 y.2.1 z.2.1 pr_ct fu (nI j) := by
  intro j
  induction j with
  | zero =>
    intro fu hj hf h
    obtain ⟨fu, rfl⟩ : ∃ k, fu = k + 1 := ⟨fu - 1, by omega⟩
    exact pk_le 0 0 (fun _ => ⟨1, pr_186 od hd 0 1 (by omega) (by omega) h⟩) (fun e => absurd e (by omega))
  | succ j ih =>
    intro fu hj hf h
    obtain ⟨fu, rfl⟩ : ∃ k, fu = k + 1 := ⟨fu - 1, by omega⟩
    have g := (pr_getD od (show j < ds.length by omega)).1
    refine pk_le (j + 1) 0 (fun e => absurd e (by omega)) (fun _ => ?_)
    rw [nI_pred]
    refine pb_codeAt (pe_okm od (by omega)) hd (by omega) ?_
    refine pk_eq (ds.getD j 0) 0 (fun c => ?_) (fun c => ?_)
    · have e : pm_b ds (j + 1) = j + 1 := if_neg (by show ¬ (!(ds.getD j 0 == 0)) = true; rw [c]; decide)
      rw [e] at h
      exact ⟨j + 2, pr_186 od hd (j + 1) (j + 2) (by omega) (by omega) h⟩
    · have e : pm_b ds (j + 1) = pm_b ds j := if_pos (by show (!(ds.getD j 0 == 0)) = true; rw [beq_false_of_ne c]; rfl)
      rw [e] at h
      exact nm_r (pk_m1 j) (ih fu (by omega) (by omega) h)
end PR
