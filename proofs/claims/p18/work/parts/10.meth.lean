section PM
variable {lc ic oc L hi ho hu hs m : Nat} {s : TyO} {t y z : TyI} {fl dr st fg ie pe la rm v1 : Int32} {ln lw ct : TyF} {P : St2 → Prop} {Q : Int32 → St2 → Prop} {U : Int32 → Prop}
theorem xm_take0 (h0 : y.1 = 0) (h : Q (-1) (nI lc, nI ic, nI oc, nI L, nI hi, nI t.1, nI ho, nI s.1, nI hu, nI y.1, nI hs, nI z.1, fl, dr, s.2.1, st, fg, ie, pe, la, rm, ln, lw, t.2.1, s.2.2.1, y.2.1, z.2.1, ct)) : wpX_takeByte Q (nI lc, nI ic, nI oc, nI L, nI hi, nI t.1, nI ho, nI s.1, nI hu, nI y.1, nI hs, nI z.1, fl, dr, s.2.1, st, fg, ie, pe, la, rm, ln, lw, t.2.1, s.2.2.1, y.2.1, z.2.1, ct) := br_t (by rw [h0]; rfl) h
theorem xm_take1 (p : ty_i hu y) (h0 : 0 < y.1) (h : Q (y.2.2 0) (nI lc, nI ic, nI oc, nI L, nI hi, nI t.1, nI ho, nI s.1, nI ((hu + 1) % 64), nI (ty_rm y).1, nI hs, nI z.1, fl, dr, s.2.1, st, fg, ie, pe, la, rm, ln, lw, t.2.1, s.2.2.1, (ty_rm y).2.1, z.2.1, ct)) : wpX_takeByte Q (nI lc, nI ic, nI oc, nI L, nI hi, nI t.1, nI ho, nI s.1, nI hu, nI y.1, nI hs, nI z.1, fl, dr, s.2.1, st, fg, ie, pe, la, rm, ln, lw, t.2.1, s.2.2.1, y.2.1, z.2.1, ct) := by
  have q1 := p.1
  have q2 := p.2.1
  have hd : y.2.1 (nI hu).toNatClampNeg = y.2.2 0 := by rw [nI_clamp (by omega)]; exact ty_iHd p h0
  exact br_f (nI_ne0 h0 (by omega)) ⟨vp_in_nI q1 (by omega), nm_r hd (nm_r (ty_ring1 q1) (nm_r (ty_pred h0) h))⟩
def ty_or (s : TyO) : TyO := (s.1 - 1, s.2.1, s.2.2.1, ty_sh s.2.2.2 s.1)
theorem ty_oOr (ok : ty_o oc ho s) (hn : 0 < s.1) : ty_o oc ((ho + 1) % 64) (ty_or s) := by
  have o1 := ok.1
  refine ⟨by show s.1 - 1 ≤ oc; omega, ?_⟩
  exact ty_iRm (t := (s.1, s.2.2.1, s.2.2.2)) ok.2 hn
theorem xm_trans (ok : ty_o oc ho s) (hc : oc ≤ 64) (h : ∀ (r : Int32) (ho : Nat) (s : TyO), ty_o oc ho s → Q r (nI lc, nI ic, nI oc, nI L, nI hi, nI t.1, nI ho, nI s.1, nI hu, nI y.1, nI hs, nI z.1, fl, dr, s.2.1, st, fg, ie, pe, la, rm, ln, lw, t.2.1, s.2.2.1, y.2.1, z.2.1, ct)) : wpX_transmit Q (nI lc, nI ic, nI oc, nI L, nI hi, nI t.1, nI ho, nI s.1, nI hu, nI y.1, nI hs, nI z.1, fl, dr, s.2.1, st, fg, ie, pe, la, rm, ln, lw, t.2.1, s.2.2.1, y.2.1, z.2.1, ct) := by
  have o1 := ok.1
  have q1 := ok.2.1
  by_cases a : st = 0
  · by_cases b : s.1 = 0
    · have b' : nI s.1 = 0 := by rw [b]; rfl
      exact br_t a (br_t b' (h _ ho s ok))
    · have b' : ¬ nI s.1 = 0 := nI_ne0 (by omega) (by omega)
      exact br_t a (br_f b' ⟨vp_in_nI q1 (by omega), nm_e (nm_r (ty_ring1 q1) (nm_r (ty_pred (by omega)) (h _ ((ho + 1) % 64) (ty_or s) (ty_oOr ok (by omega)))))⟩)
  · exact br_f a (h _ ho s ok)
theorem ty_b1n (oc : Nat) (s : TyO) : narrow .boolean (.int (ty_b1 oc s)) = .int (ty_b1 oc s) := by
  unfold ty_b1; split <;> rfl
theorem ty_b2n (oc : Nat) (s : TyO) : narrow .boolean (.int (ty_b2 oc s)) = .int (ty_b2 oc s) := by
  unfold ty_b2; split <;> rfl
theorem xm_write (ok : ty_o oc ho s) (hc : oc ≤ 64) (h : ∀ (r : Int32) (s : TyO), ty_o oc ho s → Q r (nI lc, nI ic, nI oc, nI L, nI hi, nI t.1, nI ho, nI s.1, nI hu, nI y.1, nI hs, nI z.1, fl, dr, s.2.1, st, fg, ie, pe, la, rm, ln, lw, t.2.1, s.2.2.1, y.2.1, z.2.1, ct)) : wpX_write Q (nI lc, nI ic, nI oc, nI L, nI hi, nI t.1, nI ho, nI s.1, nI hu, nI y.1, nI hs, nI z.1, fl, dr, s.2.1, st, fg, ie, pe, la, rm, ln, lw, t.2.1, s.2.2.1, y.2.1, z.2.1, ct) v1 := by
  obtain ⟨m, hm, hv⟩ := ty_byte v1
  refine nm_r hv (pk_eq m 10 (fun e => ?_) (fun e => ?_))
  · refine xo_2 (m := 13) (m' := 10) (by omega) (by omega) ok.2.1 ok.1 hc ?_
    exact ⟨ty_b2n oc s, h _ _ (ty_o2 ok hc)⟩
  · refine xo_1 hm ok.2.1 ok.1 hc ?_
    exact ⟨ty_b1n oc s, h _ _ (ty_o1 ok hc)⟩
theorem xm_tick (q : ty_i hi t) (p : ty_i hu y) (hp : ty_p pe rm y) (h0 : ∀ r, Q r (nI lc, nI ic, nI oc, nI L, nI hi, nI t.1, nI ho, nI s.1, nI hu, nI y.1, nI hs, nI z.1, fl, dr, s.2.1, st, fg, ie, pe, la, rm, ln, lw, t.2.1, s.2.2.1, y.2.1, z.2.1, ct)) (h1 : ∀ (r ie : Int32), Q r (nI lc, nI ic, nI oc, nI L, nI (ty_ck fl pe la rm ie ct hi hu t y).1, nI (ty_ck fl pe la rm ie ct hi hu t y).2.1.1, nI ho, nI s.1, nI hu, nI (ty_ck fl pe la rm ie ct hi hu t y).2.2.1.1, nI hs, nI z.1, fl, dr, s.2.1, st, fg, ie, (ty_ck fl pe la rm ie ct hi hu t y).2.2.2.1, (ty_ck fl pe la rm ie ct hi hu t y).2.2.2.2, rm, ln, lw, (ty_ck fl pe la rm ie ct hi hu t y).2.1.2.1, s.2.2.1, (ty_ck fl pe la rm ie ct hi hu t y).2.2.1.2.1, z.2.1, ct)) : wpX_tick Q (nI lc, nI ic, nI oc, nI L, nI hi, nI t.1, nI ho, nI s.1, nI hu, nI y.1, nI hs, nI z.1, fl, dr, s.2.1, st, fg, ie, pe, la, rm, ln, lw, t.2.1, s.2.2.1, y.2.1, z.2.1, ct) v1 := by
  by_cases a : v1 < 1
  · exact br_t a (h0 _)
  · by_cases b : v1 ≤ 1000
    · by_cases d : pe = 0
      · exact br_f a (br_t b (br_t d (h0 _)))
      · refine br_f a (br_t b (br_f d (nm_e ?_)))
        exact xc_check q p hp (h1 1 (ie + v1))
    · exact br_f a (br_f b (h0 _))
theorem xm_start (q : ty_i hi t) (p : ty_i hu y) (h0 : ∀ r, Q r (nI lc, nI ic, nI oc, nI L, nI hi, nI t.1, nI ho, nI s.1, nI hu, nI y.1, nI hs, nI z.1, fl, dr, s.2.1, st, fg, ie, pe, la, rm, ln, lw, t.2.1, s.2.2.1, y.2.1, z.2.1, ct)) (h1 : ∀ (r : Int32) (j : Nat), 1 ≤ j → y.1 + j ≤ 64 → Q r (nI lc, nI ic, nI oc, nI L, nI (ty_ck fl 1 la (nI j) 0 ct hi hu t y).1, nI (ty_ck fl 1 la (nI j) 0 ct hi hu t y).2.1.1, nI ho, nI s.1, nI hu, nI (ty_ck fl 1 la (nI j) 0 ct hi hu t y).2.2.1.1, nI hs, nI z.1, fl, dr, s.2.1, st, fg, 0, (ty_ck fl 1 la (nI j) 0 ct hi hu t y).2.2.2.1, (ty_ck fl 1 la (nI j) 0 ct hi hu t y).2.2.2.2, nI j, ln, lw, (ty_ck fl 1 la (nI j) 0 ct hi hu t y).2.1.2.1, s.2.2.1, (ty_ck fl 1 la (nI j) 0 ct hi hu t y).2.2.1.2.1, z.2.1, ct)) : wpX_startRead Q (nI lc, nI ic, nI oc, nI L, nI hi, nI t.1, nI ho, nI s.1, nI hu, nI y.1, nI hs, nI z.1, fl, dr, s.2.1, st, fg, ie, pe, la, rm, ln, lw, t.2.1, s.2.2.1, y.2.1, z.2.1, ct) v1 := by
  have p2 := p.2.1
  by_cases d : pe = 0
  · by_cases a : v1 < 1
    · exact br_t d (br_t a (h0 _))
    · by_cases b : v1 ≤ 64 - nI y.1
      · have e : (64 : Int32) - nI y.1 = nI (64 - y.1) := pk_sub (a := 64) p2
        have n0 : ¬ v1 < 0 := fun k => a (Int32.lt_trans k (by decide))
        obtain ⟨j, hj, rfl⟩ := nI_of n0
        have b2 : j ≤ 64 - y.1 := by rw [e] at b; exact (nI_leI hj (by omega)).mp b
        have a2 : 1 ≤ j := by
          refine Nat.le_of_not_lt (fun k => a ?_)
          exact nI_lt (b := 1) k (by decide)
        have hp' : ty_p 1 (nI j) y := fun _ => ⟨j, a2, by omega, rfl⟩
        refine br_t d (br_f a (br_t b ?_))
        exact xc_check q p hp' (h1 1 j a2 (by omega))
      · exact br_t d (br_f a (br_f b (h0 _)))
  · exact br_f d (h0 _)
theorem xm_27 {x2 : Int32} (q : ty_i hi t) (p : ty_i hu y) (hp : ty_p pe rm y) (h : ∀ st : Int32, P (nI lc, nI ic, nI oc, nI L, nI (ty_ck x2 pe la rm ie ct hi hu t y).1, nI (ty_ck x2 pe la rm ie ct hi hu t y).2.1.1, nI ho, nI s.1, nI hu, nI (ty_ck x2 pe la rm ie ct hi hu t y).2.2.1.1, nI hs, nI z.1, x2, dr, s.2.1, st, fg, ie, (ty_ck x2 pe la rm ie ct hi hu t y).2.2.2.1, (ty_ck x2 pe la rm ie ct hi hu t y).2.2.2.2, rm, ln, lw, (ty_ck x2 pe la rm ie ct hi hu t y).2.1.2.1, s.2.2.1, (ty_ck x2 pe la rm ie ct hi hu t y).2.2.1.2.1, z.2.1, ct)) : wX_setFlags_27 P x2 (nI lc) (nI ic) (nI oc) (nI L) (nI hi) (nI t.1) (nI ho) (nI s.1) (nI hu) (nI y.1) (nI hs) (nI z.1) fl dr s.2.1 st fg ie pe la rm ln lw t.2.1 s.2.2.1 y.2.1 z.2.1 ct := by
  by_cases c : x2 &&& 16 = 0
  · refine br_t c ?_
    exact xc_check q p hp (h 0)
  · refine br_f c ?_
    exact xc_check q p hp (h st)
theorem xm_flags (b : ¬ v1 &&& 31 &&& 1 = 0) (q : ty_i hi t) (p : ty_i hu y) (hp : ty_p pe rm y) (h : ∀ st : Int32, P (nI lc, nI ic, nI oc, nI L, nI (ty_ck (v1 &&& 31) pe la rm ie ct hi hu t y).1, nI (ty_ck (v1 &&& 31) pe la rm ie ct hi hu t y).2.1.1, nI ho, nI s.1, nI hu, nI (ty_ck (v1 &&& 31) pe la rm ie ct hi hu t y).2.2.1.1, nI hs, nI z.1, v1 &&& 31, dr, s.2.1, st, fg, ie, (ty_ck (v1 &&& 31) pe la rm ie ct hi hu t y).2.2.2.1, (ty_ck (v1 &&& 31) pe la rm ie ct hi hu t y).2.2.2.2, rm, ln, lw, (ty_ck (v1 &&& 31) pe la rm ie ct hi hu t y).2.1.2.1, s.2.2.1, (ty_ck (v1 &&& 31) pe la rm ie ct hi hu t y).2.2.1.2.1, z.2.1, ct)) : wpX_setFlags P (nI lc, nI ic, nI oc, nI L, nI hi, nI t.1, nI ho, nI s.1, nI hu, nI y.1, nI hs, nI z.1, fl, dr, s.2.1, st, fg, ie, pe, la, rm, ln, lw, t.2.1, s.2.2.1, y.2.1, z.2.1, ct) v1 := by
  refine nm_e ?_
  by_cases a : fl &&& 1 = 0
  · refine xs_0 a ?_
    refine br_t rfl ?_
    exact xm_27 q p hp h
  · refine xs_1 a ?_
    exact br_f (by decide) (br_f b (xm_27 q p hp h))
theorem xm_lineAt {j : Nat} (hj : j < L) (hL : L ≤ 32) (h : U (ln j)) : wpX_lineAt U (nI lc, nI ic, nI oc, nI L, nI hi, nI t.1, nI ho, nI s.1, nI hu, nI y.1, nI hs, nI z.1, fl, dr, s.2.1, st, fg, ie, pe, la, rm, ln, lw, t.2.1, s.2.2.1, y.2.1, z.2.1, ct) (nI j) := by
  have i : vp_in (nI j) 32 := vp_in_nI (by omega) (by omega)
  have e : ln (nI j).toNatClampNeg = ln j := by rw [nI_clamp (by omega)]
  refine br_f (nI_pos (by omega)) (pk_lt j L (fun _ => ⟨i, ?_⟩) (fun k => absurd k (by omega)))
  rw [e]; exact h
theorem xm_inputAt {j : Nat} (q : ty_i hi t) (hj : j < t.1) (h : U (t.2.2 j)) : wpX_inputAt U (nI lc, nI ic, nI oc, nI L, nI hi, nI t.1, nI ho, nI s.1, nI hu, nI y.1, nI hs, nI z.1, fl, dr, s.2.1, st, fg, ie, pe, la, rm, ln, lw, t.2.1, s.2.2.1, y.2.1, z.2.1, ct) (nI j) := by
  have q1 := q.1
  have q2 := q.2.1
  refine br_f (nI_pos (by omega)) (pk_lt j t.1 (fun _ => ⟨ty_ringI q1 (by omega), ?_⟩) (fun k => absurd k (by omega)))
  rw [ty_at q hj]; exact h
theorem xm_q0 (h : U (nI L)) : wpX_query U (nI lc, nI ic, nI oc, nI L, nI hi, nI t.1, nI ho, nI s.1, nI hu, nI y.1, nI hs, nI z.1, fl, dr, s.2.1, st, fg, ie, pe, la, rm, ln, lw, t.2.1, s.2.2.1, y.2.1, z.2.1, ct) 0 := br_f (by decide) (br_f (by decide) (br_t rfl h))
theorem xm_q1 (h : U (nI t.1)) : wpX_query U (nI lc, nI ic, nI oc, nI L, nI hi, nI t.1, nI ho, nI s.1, nI hu, nI y.1, nI hs, nI z.1, fl, dr, s.2.1, st, fg, ie, pe, la, rm, ln, lw, t.2.1, s.2.2.1, y.2.1, z.2.1, ct) 1 := br_f (by decide) (br_f (by decide) (br_f (by decide) (br_t rfl h)))
theorem xm_q3 (h : U (nI y.1)) : wpX_query U (nI lc, nI ic, nI oc, nI L, nI hi, nI t.1, nI ho, nI s.1, nI hu, nI y.1, nI hs, nI z.1, fl, dr, s.2.1, st, fg, ie, pe, la, rm, ln, lw, t.2.1, s.2.2.1, y.2.1, z.2.1, ct) 3 := br_f (by decide) (br_f (by decide) (br_f (by decide) (br_f (by decide) (br_f (by decide) (br_t rfl h)))))
theorem xm_q5 (h : U dr) : wpX_query U (nI lc, nI ic, nI oc, nI L, nI hi, nI t.1, nI ho, nI s.1, nI hu, nI y.1, nI hs, nI z.1, fl, dr, s.2.1, st, fg, ie, pe, la, rm, ln, lw, t.2.1, s.2.2.1, y.2.1, z.2.1, ct) 5 := br_f (by decide) (br_f (by decide) (br_f (by decide) (br_f (by decide) (br_f (by decide) (br_f (by decide) (br_f (by decide) (br_t rfl h)))))))
theorem ty_p0 (rm : Int32) (y : TyI) : ty_p 0 rm y := fun k => absurd rfl k
theorem ty_kdOk {n : Nat} {D : TyD} (C : ty_C lc ic oc L hi ho hu hs s t y z pe rm lw) (ok : ty_dOk hu n D) (hn : n = t.1) : ty_C lc ic oc L (ty_kd D).1 ho hu hs s (ty_kd D).2.1 (ty_kd D).2.2.1 z (ty_kd D).2.2.2.1 rm lw := by
  obtain ⟨⟨c1, c2, c3, c4, c5, c6, c7, c8⟩, o, q, p, qz, hl, hp⟩ := C
  have k := ok.2.2
  exact ⟨⟨c1, c2, c3, c4, c5, c6, c7, by show D.2.2.1.1 ≤ ic; omega⟩, o, ok.1, ok.2.1, qz, hl, ty_p0 _ _⟩
theorem ty_ckC (fl la ie : Int32) (ct : TyF) (C : ty_C lc ic oc L hi ho hu hs s t y z pe rm lw) : ty_C lc ic oc L (ty_ck fl pe la rm ie ct hi hu t y).1 ho hu hs s (ty_ck fl pe la rm ie ct hi hu t y).2.1 (ty_ck fl pe la rm ie ct hi hu t y).2.2.1 z (ty_ck fl pe la rm ie ct hi hu t y).2.2.2.1 rm lw := by
  have C' := C
  obtain ⟨⟨c1, c2, c3, c4, c5, c6, c7, c8⟩, o, q, p, qz, hl, hp⟩ := C'
  unfold ty_ck
  by_cases a : pe = 0
  · simp only [if_pos a]; exact C
  · obtain ⟨r, hr1, hr2, rfl⟩ := hp a
    simp only [if_neg a, nI_clamp (show r < 2 ^ 31 by omega)]
    have le : ty_mi r t.1 ≤ t.1 ∧ ty_mi r t.1 ≤ r := by unfold ty_mi; split <;> omega
    by_cases b : fl &&& 1 = 0
    · simp only [if_pos b]
      by_cases c : ty_du (ct 8) (ct 9) (ty_nd (ct 8) (nI r)) (nI t.1) ie = 0
      · simp only [if_pos c]; exact C
      · simp only [if_neg c]
        exact ty_kdOk C (ty_drOk _ 0 hi t y q p le.1 (by omega)).1 rfl
    · simp only [if_neg b]
      by_cases c : ty_an t.2.2 t.1 0 = true
      · simp only [if_pos c]
        exact ty_kdOk C (ty_dlOk t.1 0 hi t y rfl q p (by omega) (by omega)) rfl
      · simp only [if_neg c]; exact C
theorem ty_lLess {l : Nat} (hl : ty_l lw L) (h : l ≤ L) : ty_l lw l := fun j hj => hl j (by omega)
theorem ty_lPush {x : Int32} (hl : ty_l lw L) (hw : ∃ w : Nat, w ≤ 15 ∧ x = nI w) : ty_l (upd lw L x) (L + 1) := by
  intro j hj
  by_cases e : j = L
  · subst e; rw [pk_us]; exact hw
  · rw [pk_un e]; exact hl j (by omega)
end PM
