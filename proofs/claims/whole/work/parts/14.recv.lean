section TV
variable {lc ic oc L hi ho hu hs m : Nat} {s : TyO} {t y z : TyI} {fl dr st fg ie pe la rm v1 : Int32} {ln lw ct : TyF}
/-- what the second walk of a turn of receive must reach -/
def ty_G (v : SY) (v1 : Int32) : Int32 → SX → Prop := fun r u' => wpY_receive (fun r' v' => r' = r ∧ ty_R u' v') v v1
theorem rc_105 (C : ty_C lc ic oc L hi ho hu hs s t y z pe rm lw) (hm : m < 256) (hY : ∀ Q : Int32 → SY → Prop, wY_receive_279 Q (nI m) (ty_x4 fl) (nI lc) (nI ic) (nI oc) (nI L) (nI t.1) (nI s.1) (nI y.1) (nI z.1) fl dr s.2.1 fg ie rm st pe la ln lw t.2.2 s.2.2.2 y.2.2 z.2.2 ct → wpY_receive Q (nI lc, nI ic, nI oc, nI L, nI t.1, nI s.1, nI y.1, nI z.1, fl, dr, s.2.1, fg, ie, rm, st, pe, la, ln, lw, t.2.2, s.2.2.2, y.2.2, z.2.2, ct) v1) : wX_receive_105 (ty_G (nI lc, nI ic, nI oc, nI L, nI t.1, nI s.1, nI y.1, nI z.1, fl, dr, s.2.1, fg, ie, rm, st, pe, la, ln, lw, t.2.2, s.2.2.2, y.2.2, z.2.2, ct) v1) (nI m) (nI lc) (nI ic) (nI oc) (nI L) (nI hi) (nI t.1) (nI ho) (nI s.1) (nI hu) (nI y.1) (nI hs) (nI z.1) fl dr s.2.1 st fg ie pe la rm ln lw t.2.1 s.2.2.1 y.2.1 z.2.1 ct := by
  obtain ⟨⟨c1, c2, c3, c4, c5, c6, c7, c8⟩, ok, q, p, qz, hl, hp⟩ := C
  have h64 := q.2.1
  have hh := q.1
  have hh' := ok.2.1
  have hl0 : ty_l lw 0 := fun j hj => absurd hj (Nat.not_lt_zero j)
  have oe : ∀ m, ty_o oc ho (ty_echo fl oc ho m s) := fun m => ty_oEcho ok c6
  by_cases b : fl &&& 1 = 0
  · by_cases r : t.1 < ic
    · have q' : ty_i hi (ty_in hi (nI m) t) := ty_iIn _ q (by omega)
      refine xr_ra1 b hm r c4 hh hh' c6 ok ?_
      refine xr_128 (t := ty_in hi (nI m) t) q' p hp ?_
      refine hY _ ?_
      refine yr_ra1 hi ho b hm r c4 c6 ok.1 ?_
      exact yr_987 (t := ty_in hi (nI m) t) hi hu q'.2.1 hp ⟨rfl, ty_mkK (t := ty_in hi (nI m) t) (s := ty_echo fl oc ho m s) ⟨⟨c1, c2, c3, c4, c5, c6, c7, r⟩, oe m, q', p, qz, hl, hp⟩⟩
    · refine xr_ra0 b (by omega) h64 ?_
      refine xr_128 q p hp ?_
      refine hY _ ?_
      refine yr_ra0 b (by omega) h64 ?_
      exact yr_987 hi hu h64 hp ⟨rfl, ty_mkK ⟨⟨c1, c2, c3, c4, c5, c6, c7, c8⟩, ok, q, p, qz, hl, hp⟩⟩
  · by_cases e2 : nI m = ct 2
    · cases L with
      | zero =>
        refine xr_er0 b e2 ?_
        refine xr_128 (L := 0) q p hp ?_
        refine hY _ ?_
        refine yr_er0 b e2 ?_
        exact yr_987 (L := 0) hi hu h64 hp ⟨rfl, ty_mkK (L := 0) ⟨⟨c1, c2, c3, c4, c5, c6, c7, c8⟩, ok, q, p, qz, hl, hp⟩⟩
      | succ l =>
        have o' : ty_o oc ho (ty_ee fl oc ho m (ty_cut (ty_rl fl oc ho ln lw) l (l + 1) s)) := ty_oEe (ty_oCl ok c6) c6
        refine xr_er1 b e2 hm hl (by omega) hh' c6 ok ?_
        refine xr_128 (L := l) q p hp ?_
        refine hY _ ?_
        refine yr_er1 ho (ty_x4i fl) b e2 hm hl (by omega) c6 ok ?_
        exact yr_987 (L := l) hi hu h64 hp ⟨rfl, ty_mkK (L := l) ⟨⟨c1, c2, c3, c4, c5, c6, by omega, c8⟩, o', q, p, qz, ty_lLess hl (by omega), hp⟩⟩
    · by_cases e3 : nI m = ct 3
      · cases L with
        | zero =>
          refine xr_we0 b e2 e3 ?_
          refine xr_128 (L := 0) q p hp ?_
          refine hY _ ?_
          refine yr_we0 b e2 e3 ?_
          exact yr_987 (L := 0) hi hu h64 hp ⟨rfl, ty_mkK (L := 0) ⟨⟨c1, c2, c3, c4, c5, c6, c7, c8⟩, ok, q, p, qz, hl, hp⟩⟩
        | succ l =>
          have o' : ty_o oc ho (ty_ee fl oc ho m (ty_cut (ty_rl fl oc ho ln lw) (ty_ww ln (ty_wb ln (l + 1))) (l + 1) s)) := ty_oEe (ty_oCl ok c6) c6
          have le : ty_ww ln (ty_wb ln (l + 1)) ≤ l + 1 := Nat.le_trans (ty_wwle _ _) (ty_wble _ _)
          refine xr_we1 b e2 e3 hm hl (by omega) hh' c6 ok ?_
          refine xr_128 (L := ty_ww ln (ty_wb ln (l + 1))) q p hp ?_
          refine hY _ ?_
          refine yr_we1 ho (ty_x4i fl) b e2 e3 hm hl (by omega) c6 ok ?_
          exact yr_987 (L := ty_ww ln (ty_wb ln (l + 1))) hi hu h64 hp ⟨rfl, ty_mkK (L := ty_ww ln (ty_wb ln (l + 1))) ⟨⟨c1, c2, c3, c4, c5, c6, by omega, c8⟩, o', q, p, qz, ty_lLess hl le, hp⟩⟩
      · by_cases e4 : nI m = ct 4
        · cases L with
          | zero =>
            refine xr_ki0 b e2 e3 e4 ?_
            refine xr_128 (L := 0) q p hp ?_
            refine hY _ ?_
            refine yr_ki0 b e2 e3 e4 ?_
            exact yr_987 (L := 0) hi hu h64 hp ⟨rfl, ty_mkK (L := 0) ⟨⟨c1, c2, c3, c4, c5, c6, c7, c8⟩, ok, q, p, qz, hl, hp⟩⟩
          | succ l =>
            have o' : ty_o oc ho (ty_ek fl oc ho m (ty_cut (ty_rl fl oc ho ln lw) 0 (l + 1) s)) := ty_oEk (ty_oCl ok c6) c6
            refine xr_ki1 b e2 e3 e4 hm hl (by omega) hh' c6 ok ?_
            refine xr_128 (L := 0) q p hp ?_
            refine hY _ ?_
            refine yr_ki1 ho (ty_x4i fl) b e2 e3 e4 hm hl (by omega) c6 ok ?_
            exact yr_987 (L := 0) hi hu h64 hp ⟨rfl, ty_mkK (L := 0) ⟨⟨c1, c2, c3, c4, c5, c6, by omega, c8⟩, o', q, p, qz, hl0, hp⟩⟩
        · by_cases e5 : nI m = ct 5
          · by_cases r : t.1 + L + 1 ≤ ic
            · have n1 : (ty_pl hi ln L 0 t).1 = t.1 + L := ty_pl1 hi ln L 0 t
              have q' : ty_i hi (ty_in hi 256 (ty_pl hi ln L 0 t)) := ty_iIn _ (ty_iPl L 0 t q (by omega)) (by omega)
              have n2 : (ty_in hi 256 (ty_pl hi ln L 0 t)).1 ≤ ic := by show (ty_pl hi ln L 0 t).1 + 1 ≤ ic; omega
              refine xr_ef1 b e2 e3 e4 e5 (by omega) c4 hh r ?_
              refine xr_128 (L := 0) (t := ty_in hi 256 (ty_pl hi ln L 0 t)) q' p hp ?_
              refine hY _ ?_
              refine yr_ef1 hi b e2 e3 e4 e5 (by omega) c4 r ?_
              exact yr_987 (L := 0) (t := ty_in hi 256 (ty_pl hi ln L 0 t)) hi hu q'.2.1 hp ⟨rfl, ty_mkK (L := 0) ⟨⟨c1, c2, c3, c4, c5, c6, by omega, n2⟩, ok, q', p, qz, hl0, hp⟩⟩
            · refine xr_ef0 b e2 e3 e4 e5 (by omega) c4 c8 (by omega) ?_
              refine xr_128 (L := 0) q p hp ?_
              refine hY _ ?_
              refine yr_ef0 b e2 e3 e4 e5 (by omega) c4 c8 (by omega) ?_
              exact yr_987 (L := 0) hi hu h64 hp ⟨rfl, ty_mkK (L := 0) ⟨⟨c1, c2, c3, c4, c5, c6, by omega, c8⟩, ok, q, p, qz, hl0, hp⟩⟩
          · by_cases e10 : nI m = 10
            · by_cases r : t.1 + L + 1 ≤ ic
              · have n1 : (ty_pl hi ln L 0 t).1 = t.1 + L := ty_pl1 hi ln L 0 t
                have q' : ty_i hi (ty_in hi 10 (ty_pl hi ln L 0 t)) := ty_iIn _ (ty_iPl L 0 t q (by omega)) (by omega)
                have n2 : (ty_in hi 10 (ty_pl hi ln L 0 t)).1 ≤ ic := by show (ty_pl hi ln L 0 t).1 + 1 ≤ ic; omega
                refine xr_nl1 b e2 e3 e4 e5 e10 (by omega) c4 hh r hh' c6 ok ?_
                refine xr_128 (L := 0) (t := ty_in hi 10 (ty_pl hi ln L 0 t)) q' p hp ?_
                refine hY _ ?_
                refine yr_nl1 hi ho b e2 e3 e4 e5 e10 (by omega) c4 r c6 ok.1 ?_
                exact yr_987 (L := 0) (t := ty_in hi 10 (ty_pl hi ln L 0 t)) hi hu q'.2.1 hp ⟨rfl, ty_mkK (L := 0) ⟨⟨c1, c2, c3, c4, c5, c6, by omega, n2⟩, oe 10, q', p, qz, hl0, hp⟩⟩
              · refine xr_nl0 b e2 e3 e4 e5 e10 (by omega) c4 c8 (by omega) ?_
                refine xr_128 (L := 0) q p hp ?_
                refine hY _ ?_
                refine yr_nl0 b e2 e3 e4 e5 e10 (by omega) c4 c8 (by omega) ?_
                exact yr_987 (L := 0) hi hu h64 hp ⟨rfl, ty_mkK (L := 0) ⟨⟨c1, c2, c3, c4, c5, c6, by omega, c8⟩, ok, q, p, qz, hl0, hp⟩⟩
            · by_cases r : L < lc
              · have n10 : m ≠ 10 := fun k => e10 (by rw [k]; rfl)
                refine xr_st1 b e2 e3 e4 e5 e10 hm r c2 hh' c6 ok ?_
                refine xr_128 (L := L + 1) q p hp ?_
                refine hY _ ?_
                refine yr_st1 ho b e2 e3 e4 e5 e10 hm r c2 c6 ok.1 ?_
                exact yr_987 (L := L + 1) hi hu h64 hp ⟨rfl, ty_mkK (L := L + 1) ⟨⟨c1, c2, c3, c4, c5, c6, r, c8⟩, oe m, q, p, qz, ty_lPush hl (ty_wE s hm n10), hp⟩⟩
              · refine xr_st0 b e2 e3 e4 e5 e10 (by omega) (by omega) ?_
                refine xr_128 q p hp ?_
                refine hY _ ?_
                refine yr_st0 b e2 e3 e4 e5 e10 (by omega) (by omega) ?_
                exact yr_987 hi hu h64 hp ⟨rfl, ty_mkK ⟨⟨c1, c2, c3, c4, c5, c6, c7, c8⟩, ok, q, p, qz, hl, hp⟩⟩
theorem ty_pS {pe rm : Int32} {y : TyI} (hp : ty_p pe rm y) : ty_p (ty_sp1 pe) rm y := by
  unfold ty_sp1
  by_cases c : pe = 0
  · rw [if_pos c]; exact hp
  · rw [if_neg c]; exact ty_p0 _ _
theorem rc_95 (C : ty_C lc ic oc L hi ho hu hs s t y z pe rm lw) (hm : m < 256) (hY : ∀ Q : Int32 → SY → Prop, wY_receive_114 Q (nI m) (nI lc) (nI ic) (nI oc) (nI L) (nI t.1) (nI s.1) (nI y.1) (nI z.1) fl dr s.2.1 fg ie rm st pe la ln lw t.2.2 s.2.2.2 y.2.2 z.2.2 ct → wpY_receive Q (nI lc, nI ic, nI oc, nI L, nI t.1, nI s.1, nI y.1, nI z.1, fl, dr, s.2.1, fg, ie, rm, st, pe, la, ln, lw, t.2.2, s.2.2.2, y.2.2, z.2.2, ct) v1) : wX_receive_95 (ty_G (nI lc, nI ic, nI oc, nI L, nI t.1, nI s.1, nI y.1, nI z.1, fl, dr, s.2.1, fg, ie, rm, st, pe, la, ln, lw, t.2.2, s.2.2.2, y.2.2, z.2.2, ct) v1) (nI m) (nI lc) (nI ic) (nI oc) (nI L) (nI hi) (nI t.1) (nI ho) (nI s.1) (nI hu) (nI y.1) (nI hs) (nI z.1) fl dr s.2.1 st fg ie pe la rm ln lw t.2.1 s.2.2.1 y.2.1 z.2.1 ct := by
  obtain ⟨⟨c1, c2, c3, c4, c5, c6, c7, c8⟩, ok, q, p, qz, hl, hp⟩ := C
  have hh' := ok.2.1
  have hl0 : ty_l lw 0 := fun j hj => absurd hj (Nat.not_lt_zero j)
  have q' : ty_i hi (0, t.2) := ty_q0 q.1
  have hp' := ty_pS hp
  have o0 : ty_o oc ho (0, s.2) := ⟨Nat.zero_le _, ty_q0 hh'⟩
  refine xr_sig hm qz q hh' c6 ?_
  refine xr_128 (L := 0) (t := (0, t.2)) q' p hp' ?_
  refine hY _ ?_
  refine yr_sig hs ho hm q.2.1 qz.2.1 c6 ?_
  exact yr_987 (L := 0) (t := (0, t.2)) hi hu (Nat.zero_le _) hp' ⟨rfl, ty_mkK (L := 0) (t := (0, t.2)) ⟨⟨c1, c2, c3, c4, c5, c6, by omega, Nat.zero_le _⟩, ty_oEcho o0 c6, q', p, ty_zOk qz, hl0, hp'⟩⟩
theorem rc_all (C : ty_C lc ic oc L hi ho hu hs s t y z pe rm lw) (hm : m < 256) (hv : v1 &&& 255 = nI m) : wpX_receive (ty_G (nI lc, nI ic, nI oc, nI L, nI t.1, nI s.1, nI y.1, nI z.1, fl, dr, s.2.1, fg, ie, rm, st, pe, la, ln, lw, t.2.2, s.2.2.2, y.2.2, z.2.2, ct) v1) (nI lc, nI ic, nI oc, nI L, nI hi, nI t.1, nI ho, nI s.1, nI hu, nI y.1, nI hs, nI z.1, fl, dr, s.2.1, st, fg, ie, pe, la, rm, ln, lw, t.2.1, s.2.2.1, y.2.1, z.2.1, ct) v1 := by
  have C' := C
  obtain ⟨c, ok, q, p, qz, hl, hp⟩ := C'
  have flow : (fl &&& 16 = 0 ∨ (¬ nI m = ct 7 ∧ ¬ nI m = ct 6)) → wpX_receive (ty_G (nI lc, nI ic, nI oc, nI L, nI t.1, nI s.1, nI y.1, nI z.1, fl, dr, s.2.1, fg, ie, rm, st, pe, la, ln, lw, t.2.2, s.2.2.2, y.2.2, z.2.2, ct) v1) (nI lc, nI ic, nI oc, nI L, nI hi, nI t.1, nI ho, nI s.1, nI hu, nI y.1, nI hs, nI z.1, fl, dr, s.2.1, st, fg, ie, pe, la, rm, ln, lw, t.2.1, s.2.2.1, y.2.1, z.2.1, ct) v1 := fun k => by
    refine xr_66 hv k ?_
    by_cases g : fl &&& 8 = 0
    · refine xr_105 (Or.inl g) ?_
      exact rc_105 C hm (fun Q h => yr_84 hv k (yr_279 (Or.inl g) h))
    · by_cases d0 : nI m = ct 0
      · refine xr_95 g (Or.inl d0) ?_
        exact rc_95 C hm (fun Q h => yr_84 hv k (yr_114 g (Or.inl d0) h))
      · by_cases d1 : nI m = ct 1
        · refine xr_95 g (Or.inr d1) ?_
          exact rc_95 C hm (fun Q h => yr_84 hv k (yr_114 g (Or.inr d1) h))
        · refine xr_105 (Or.inr ⟨d0, d1⟩) ?_
          exact rc_105 C hm (fun Q h => yr_84 hv k (yr_279 (Or.inr ⟨d0, d1⟩) h))
  by_cases f : fl &&& 16 = 0
  · exact flow (Or.inl f)
  · by_cases e7 : nI m = ct 7
    · refine xr_stop hv f e7 ?_
      refine xr_128 q p hp ?_
      refine yr_stop hv f e7 ?_
      exact yr_987 hi hu q.2.1 hp ⟨rfl, ty_mkK C⟩
    · by_cases e6 : nI m = ct 6
      · refine xr_start hv f e7 e6 ?_
        refine xr_128 q p hp ?_
        refine yr_start hv f e7 e6 ?_
        exact yr_987 hi hu q.2.1 hp ⟨rfl, ty_mkK C⟩
      · exact flow (Or.inr ⟨e7, e6⟩)
theorem i_vc_receive {k : Nat} {u : SX} {v : SY} (I : i_Rel k u v) (hk : k + 3 ≤ 1539) (v1 : Int32) : wpX_receive (fun r u' => wpY_receive (fun r' v' => r' = r ∧ i_Rel (k + 3) u' v') v v1) u v1 := by
  obtain ⟨lc, ic, oc, L, hi, ho, hu, hs, s, t, y, z, fl, dr, st, fg, ie, pe, la, rm, ln, lw, ct, rfl, rfl, C⟩ := I
  obtain ⟨m, hm, hv⟩ := ty_byte v1
  exact rc_all C hm hv
end TV
