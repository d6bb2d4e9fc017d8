section TQ
variable {lc ic oc L hi ho hu hs m : Nat} {s : TyO} {t y z : TyI} {fl dr st fg ie pe la rm : Int32} {ln lw ct : TyF} {Q : Int32 → SY → Prop}
/-- the output's head taken out -/
def ty_or (s : TyO) : TyO := (s.1 - 1, s.2.1, s.2.2.1, ty_sh s.2.2.2 s.1)
theorem ty_oOr (ok : ty_o oc ho s) (hn : 0 < s.1) : ty_o oc ((ho + 1) % 64) (ty_or s) := by
  have o1 := ok.1
  refine ⟨by show s.1 - 1 ≤ oc; omega, ?_⟩
  exact ty_iRm (t := (s.1, s.2.2.1, s.2.2.2)) ok.2 hn
theorem ty_zRm (q : ty_q 8 z.2.1 z.2.2 hs z.1) (hn : 0 < z.1) : ty_q 8 (ty_rm z).2.1 (ty_rm z).2.2 ((hs + 1) % 8) (ty_rm z).1 := by
  obtain ⟨n, a, b⟩ := z
  obtain ⟨m, rfl⟩ : ∃ m, n = m + 1 := ⟨n - 1, by have : 0 < n := hn; omega⟩
  exact ty_qDrop (n := m) q (fun _ hi => ty_shd hi)
theorem ty_shG {b : TyF} {k : Nat} (hk : k < 8) : upd (ty_sh b (k + 1)) (nI (k + 1) - 1).toNatClampNeg (ty_sh b (k + 1) (nI (k + 1)).toNatClampNeg) = ty_sh b (k + 2) := ty_shE (by omega)
theorem yt_outL {x : Int32} (h64 : s.1 ≤ 64) : ∀ (d k n : Nat), k + 1 + d = s.1 → d < n → Q x (nI lc, nI ic, nI oc, nI L, nI t.1, nI (ty_or s).1, nI y.1, nI z.1, fl, dr, (ty_or s).2.1, fg, ie, rm, st, pe, la, ln, lw, t.2.2, (ty_or s).2.2.2, y.2.2, z.2.2, ct) → wY_transmit_25 Q x (nI lc) (nI ic) (nI oc) (nI L) (nI t.1) (nI s.1) (nI y.1) (nI z.1) fl dr s.2.1 fg ie rm st pe la n (nI (k + 1)) ln lw t.2.2 (ty_sh s.2.2.2 (k + 1)) y.2.2 z.2.2 ct := by
  intro d
  induction d with
  | zero =>
    intro k n hk hn h
    obtain ⟨n, rfl⟩ : ∃ k, n = k + 1 := ⟨n - 1, by omega⟩
    refine pk_le s.1 (k + 1) (fun _ => ?_) (fun e => absurd e (by omega))
    rw [show k + 1 = s.1 by omega]
    exact nm_r (ty_pred (by omega)) h
  | succ d ih =>
    intro k n hk hn h
    obtain ⟨n, rfl⟩ : ∃ k, n = k + 1 := ⟨n - 1, by omega⟩
    refine pk_le s.1 (k + 1) (fun e => absurd e (by omega)) (fun _ => pk_le 64 (k + 1) (fun e => absurd e (by omega)) (fun _ => ⟨vp_in_nI (by omega) (by omega), ?_, nm_r (ty_shE (by omega)) (nm_r (nI_1 (k + 1)) (ih (k + 1) n (by omega) (by omega) h))⟩))
    rw [nI_pred]; exact vp_in_nI (by omega) (by omega)
theorem yt_out {x : Int32} (h1 : 0 < s.1) (h64 : s.1 ≤ 64) (h : Q x (nI lc, nI ic, nI oc, nI L, nI t.1, nI (ty_or s).1, nI y.1, nI z.1, fl, dr, (ty_or s).2.1, fg, ie, rm, st, pe, la, ln, lw, t.2.2, (ty_or s).2.2.2, y.2.2, z.2.2, ct)) : ∃ n, wY_transmit_25 Q x (nI lc) (nI ic) (nI oc) (nI L) (nI t.1) (nI s.1) (nI y.1) (nI z.1) fl dr s.2.1 fg ie rm st pe la n 1 ln lw t.2.2 s.2.2.2 y.2.2 z.2.2 ct := by
  have k := yt_outL (x := x) h64 (s.1 - 1) 0 (s.1 + 1) (by omega) (by omega) h
  rw [ty_sh1] at k
  exact ⟨s.1 + 1, k⟩
theorem yt_usrL {x : Int32} (h64 : y.1 ≤ 64) : ∀ (d k n : Nat), k + 1 + d = y.1 → d < n → Q x (nI lc, nI ic, nI oc, nI L, nI t.1, nI s.1, nI (ty_rm y).1, nI z.1, fl, dr, s.2.1, fg, ie, rm, st, pe, la, ln, lw, t.2.2, s.2.2.2, (ty_rm y).2.2, z.2.2, ct) → wY_takeByte_18 Q x (nI lc) (nI ic) (nI oc) (nI L) (nI t.1) (nI s.1) (nI y.1) (nI z.1) fl dr s.2.1 fg ie rm st pe la n (nI (k + 1)) ln lw t.2.2 s.2.2.2 (ty_sh y.2.2 (k + 1)) z.2.2 ct := by
  intro d
  induction d with
  | zero =>
    intro k n hk hn h
    obtain ⟨n, rfl⟩ : ∃ k, n = k + 1 := ⟨n - 1, by omega⟩
    refine pk_le y.1 (k + 1) (fun _ => ?_) (fun e => absurd e (by omega))
    rw [show k + 1 = y.1 by omega]
    exact nm_r (ty_pred (by omega)) h
  | succ d ih =>
    intro k n hk hn h
    obtain ⟨n, rfl⟩ : ∃ k, n = k + 1 := ⟨n - 1, by omega⟩
    refine pk_le y.1 (k + 1) (fun e => absurd e (by omega)) (fun _ => pk_le 64 (k + 1) (fun e => absurd e (by omega)) (fun _ => ⟨vp_in_nI (by omega) (by omega), ?_, nm_r (ty_shE (by omega)) (nm_r (nI_1 (k + 1)) (ih (k + 1) n (by omega) (by omega) h))⟩))
    rw [nI_pred]; exact vp_in_nI (by omega) (by omega)
theorem yt_usr {x : Int32} (h1 : 0 < y.1) (h64 : y.1 ≤ 64) (h : Q x (nI lc, nI ic, nI oc, nI L, nI t.1, nI s.1, nI (ty_rm y).1, nI z.1, fl, dr, s.2.1, fg, ie, rm, st, pe, la, ln, lw, t.2.2, s.2.2.2, (ty_rm y).2.2, z.2.2, ct)) : ∃ n, wY_takeByte_18 Q x (nI lc) (nI ic) (nI oc) (nI L) (nI t.1) (nI s.1) (nI y.1) (nI z.1) fl dr s.2.1 fg ie rm st pe la n 1 ln lw t.2.2 s.2.2.2 y.2.2 z.2.2 ct := by
  have k := yt_usrL (x := x) h64 (y.1 - 1) 0 (y.1 + 1) (by omega) (by omega) h
  rw [ty_sh1] at k
  exact ⟨y.1 + 1, k⟩
theorem yt_sigL {x : Int32} (h64 : z.1 ≤ 8) : ∀ (d k n : Nat), k + 1 + d = z.1 → d < n → Q x (nI lc, nI ic, nI oc, nI L, nI t.1, nI s.1, nI y.1, nI (ty_rm z).1, fl, dr, s.2.1, fg, ie, rm, st, pe, la, ln, lw, t.2.2, s.2.2.2, y.2.2, (ty_rm z).2.2, ct) → wY_takeSignal_18 Q x (nI lc) (nI ic) (nI oc) (nI L) (nI t.1) (nI s.1) (nI y.1) (nI z.1) fl dr s.2.1 fg ie rm st pe la n (nI (k + 1)) ln lw t.2.2 s.2.2.2 y.2.2 (ty_sh z.2.2 (k + 1)) ct := by
  intro d
  induction d with
  | zero =>
    intro k n hk hn h
    obtain ⟨n, rfl⟩ : ∃ k, n = k + 1 := ⟨n - 1, by omega⟩
    refine pk_le z.1 (k + 1) (fun _ => ?_) (fun e => absurd e (by omega))
    rw [show k + 1 = z.1 by omega]
    exact nm_r (ty_pred (by omega)) h
  | succ d ih =>
    intro k n hk hn h
    obtain ⟨n, rfl⟩ : ∃ k, n = k + 1 := ⟨n - 1, by omega⟩
    refine pk_le z.1 (k + 1) (fun e => absurd e (by omega)) (fun _ => pk_le 8 (k + 1) (fun e => absurd e (by omega)) (fun _ => ⟨vp_in_nI (by omega) (by omega), ?_, nm_r (ty_shE (by omega)) (nm_r (nI_1 (k + 1)) (ih (k + 1) n (by omega) (by omega) h))⟩))
    rw [nI_pred]; exact vp_in_nI (by omega) (by omega)
theorem yt_sig {x : Int32} (h1 : 0 < z.1) (h64 : z.1 ≤ 8) (h : Q x (nI lc, nI ic, nI oc, nI L, nI t.1, nI s.1, nI y.1, nI (ty_rm z).1, fl, dr, s.2.1, fg, ie, rm, st, pe, la, ln, lw, t.2.2, s.2.2.2, y.2.2, (ty_rm z).2.2, ct)) : ∃ n, wY_takeSignal_18 Q x (nI lc) (nI ic) (nI oc) (nI L) (nI t.1) (nI s.1) (nI y.1) (nI z.1) fl dr s.2.1 fg ie rm st pe la n 1 ln lw t.2.2 s.2.2.2 y.2.2 z.2.2 ct := by
  have k := yt_sigL (x := x) h64 (z.1 - 1) 0 (z.1 + 1) (by omega) (by omega) h
  rw [ty_sh1] at k
  exact ⟨z.1 + 1, k⟩
theorem i_vc_transmit {k : Nat} {u : SX} {v : SY} (I : i_Rel k u v) (hk : k + 3 ≤ 1539) : wpX_transmit (fun r u' => wpY_transmit (fun r' v' => r' = r ∧ i_Rel (k + 3) u' v') v) u := by
  have I' := I
  obtain ⟨lc, ic, oc, L, hi, ho, hu, hs, s, t, y, z, fl, dr, st, fg, ie, pe, la, rm, ln, lw, ct, rfl, rfl, C⟩ := I'
  obtain ⟨c, ok, q, p, qz, hl, hp⟩ := C
  have o1 := ok.1
  have q1 := ok.2.1
  have q2 := ok.2.2.1
  by_cases a : st = 0
  · by_cases b : s.1 = 0
    · have b' : nI s.1 = 0 := by rw [b]; rfl
      exact br_t a (br_t b' (br_t a (br_t b' ⟨rfl, I⟩)))
    · have b' : ¬ nI s.1 = 0 := nI_ne0 (by omega) (by omega)
      have hd : s.2.2.1 (nI ho).toNatClampNeg = s.2.2.2 0 := by rw [nI_clamp (by omega)]; exact ty_iHd (t := (s.1, s.2.2.1, s.2.2.2)) ok.2 (by show 0 < s.1; omega)
      have R : ty_R (nI lc, nI ic, nI oc, nI L, nI hi, nI t.1, nI ((ho + 1) % 64), nI (ty_or s).1, nI hu, nI y.1, nI hs, nI z.1, fl, dr, (ty_or s).2.1, st, fg, ie, pe, la, rm, ln, lw, t.2.1, (ty_or s).2.2.1, y.2.1, z.2.1, ct) (nI lc, nI ic, nI oc, nI L, nI t.1, nI (ty_or s).1, nI y.1, nI z.1, fl, dr, (ty_or s).2.1, fg, ie, rm, st, pe, la, ln, lw, t.2.2, (ty_or s).2.2.2, y.2.2, z.2.2, ct) := ty_mk ⟨c, ty_oOr ok (by omega), q, p, qz, hl, hp⟩
      exact br_t a (br_f b' ⟨vp_in_nI q1 (by omega), nm_r hd (nm_r (ty_ring1 q1) (nm_r (ty_pred (by omega)) (br_t a (br_f b' (nm_e (yt_out (by omega) (by omega) ⟨rfl, R⟩))))))⟩)
  · exact br_f a (br_f a ⟨rfl, I⟩)
theorem i_vc_takeByte {k : Nat} {u : SX} {v : SY} (I : i_Rel k u v) (hk : k + 3 ≤ 1539) : wpX_takeByte (fun r u' => wpY_takeByte (fun r' v' => r' = r ∧ i_Rel (k + 3) u' v') v) u := by
  have I' := I
  obtain ⟨lc, ic, oc, L, hi, ho, hu, hs, s, t, y, z, fl, dr, st, fg, ie, pe, la, rm, ln, lw, ct, rfl, rfl, C⟩ := I'
  obtain ⟨c, ok, q, p, qz, hl, hp⟩ := C
  have q1 := p.1
  have q2 := p.2.1
  by_cases b : y.1 = 0
  · have b' : nI y.1 = 0 := by rw [b]; rfl
    exact br_t b' (br_t b' ⟨rfl, I⟩)
  · have b' : ¬ nI y.1 = 0 := nI_ne0 (by omega) (by omega)
    have hd : y.2.1 (nI hu).toNatClampNeg = y.2.2 0 := by rw [nI_clamp (by omega)]; exact ty_iHd p (by omega)
    have hp' : ty_p pe rm (ty_rm y) := fun e => by
      obtain ⟨r, h1, h2, h3⟩ := hp e
      exact ⟨r, h1, by show y.1 - 1 + r ≤ 64; omega, h3⟩
    have R : ty_R (nI lc, nI ic, nI oc, nI L, nI hi, nI t.1, nI ho, nI s.1, nI ((hu + 1) % 64), nI (ty_rm y).1, nI hs, nI z.1, fl, dr, s.2.1, st, fg, ie, pe, la, rm, ln, lw, t.2.1, s.2.2.1, (ty_rm y).2.1, z.2.1, ct) (nI lc, nI ic, nI oc, nI L, nI t.1, nI s.1, nI (ty_rm y).1, nI z.1, fl, dr, s.2.1, fg, ie, rm, st, pe, la, ln, lw, t.2.2, s.2.2.2, (ty_rm y).2.2, z.2.2, ct) := ty_mk ⟨c, ok, q, ty_iRm p (by omega), qz, hl, hp'⟩
    exact br_f b' ⟨vp_in_nI q1 (by omega), nm_r hd (nm_r (ty_ring1 q1) (nm_r (ty_pred (by omega)) (br_f b' (nm_e (yt_usr (by omega) q2 ⟨rfl, R⟩)))))⟩
theorem i_vc_takeSignal {k : Nat} {u : SX} {v : SY} (I : i_Rel k u v) (hk : k + 3 ≤ 1539) : wpX_takeSignal (fun r u' => wpY_takeSignal (fun r' v' => r' = r ∧ i_Rel (k + 3) u' v') v) u := by
  have I' := I
  obtain ⟨lc, ic, oc, L, hi, ho, hu, hs, s, t, y, z, fl, dr, st, fg, ie, pe, la, rm, ln, lw, ct, rfl, rfl, C⟩ := I'
  obtain ⟨c, ok, q, p, qz, hl, hp⟩ := C
  have q1 := qz.1
  have q2 := qz.2.1
  by_cases b : z.1 = 0
  · have b' : nI z.1 = 0 := by rw [b]; rfl
    exact br_t b' (br_t b' ⟨rfl, I⟩)
  · have b' : ¬ nI z.1 = 0 := nI_ne0 (by omega) (by omega)
    have hd : z.2.1 (nI hs).toNatClampNeg = z.2.2 0 := by
      rw [nI_clamp (by omega)]
      obtain ⟨n, a, b⟩ := z
      obtain ⟨m, rfl⟩ : ∃ m, n = m + 1 := ⟨n - 1, by have : ¬ n = 0 := by assumption
                                                     omega⟩
      exact ty_qHead qz
    have R : ty_R (nI lc, nI ic, nI oc, nI L, nI hi, nI t.1, nI ho, nI s.1, nI hu, nI y.1, nI ((hs + 1) % 8), nI (ty_rm z).1, fl, dr, s.2.1, st, fg, ie, pe, la, rm, ln, lw, t.2.1, s.2.2.1, y.2.1, (ty_rm z).2.1, ct) (nI lc, nI ic, nI oc, nI L, nI t.1, nI s.1, nI y.1, nI (ty_rm z).1, fl, dr, s.2.1, fg, ie, rm, st, pe, la, ln, lw, t.2.2, s.2.2.2, y.2.2, (ty_rm z).2.2, ct) := ty_mk ⟨c, ok, q, p, ty_zRm qz (by omega), hl, hp⟩
    exact br_f b' ⟨vp_in_nI q1 (by omega), nm_r hd (nm_r (ty_rung1 q1) (nm_r (ty_pred (by omega)) (br_f b' (nm_e (yt_sig (by omega) q2 ⟨rfl, R⟩)))))⟩
/-! write -/
theorem ty_b1n (oc : Nat) (s : TyO) : narrow .boolean (.int (ty_b1 oc s)) = .int (ty_b1 oc s) := by
  unfold ty_b1; split <;> rfl
theorem ty_b2n (oc : Nat) (s : TyO) : narrow .boolean (.int (ty_b2 oc s)) = .int (ty_b2 oc s) := by
  unfold ty_b2; split <;> rfl
theorem yw_31 {b : Int32} (hb : b = 0 ∨ b = 1) (h : Q b (nI lc, nI ic, nI oc, nI L, nI t.1, nI s.1, nI y.1, nI z.1, fl, dr, s.2.1, fg, ie, rm, st, pe, la, ln, lw, t.2.2, s.2.2.2, y.2.2, z.2.2, ct)) : wY_write_31 Q b (nI lc) (nI ic) (nI oc) (nI L) (nI t.1) (nI s.1) (nI y.1) (nI z.1) fl dr s.2.1 fg ie rm st pe la ln lw t.2.2 s.2.2.2 y.2.2 z.2.2 ct := by
  rcases hb with rfl | rfl
  · exact br_f (by decide) h
  · exact br_t rfl h
theorem ty_b1o (oc : Nat) (s : TyO) : ty_b1 oc s = 0 ∨ ty_b1 oc s = 1 := by
  unfold ty_b1; split
  · exact Or.inr rfl
  · exact Or.inl rfl
theorem ty_b2o (oc : Nat) (s : TyO) : ty_b2 oc s = 0 ∨ ty_b2 oc s = 1 := by
  unfold ty_b2; split
  · exact Or.inr rfl
  · exact Or.inl rfl
theorem i_vc_write {k : Nat} {u : SX} {v : SY} (I : i_Rel k u v) (hk : k + 3 ≤ 1539) (v1 : Int32) : wpX_write (fun r u' => wpY_write (fun r' v' => r' = r ∧ i_Rel (k + 3) u' v') v v1) u v1 := by
  have I' := I
  obtain ⟨lc, ic, oc, L, hi, ho, hu, hs, s, t, y, z, fl, dr, st, fg, ie, pe, la, rm, ln, lw, ct, rfl, rfl, C⟩ := I'
  obtain ⟨c, ok, q, p, qz, hl, hp⟩ := C
  have c6 := c.2.2.2.2.2.1
  have q1 := ok.2.1
  obtain ⟨m, hm, hv⟩ := ty_byte v1
  refine nm_r hv (pk_eq m 10 (fun e => ?_) (fun e => ?_))
  · have R : ty_R (nI lc, nI ic, nI oc, nI L, nI hi, nI t.1, nI ho, nI (ty_2 oc ho 13 10 s).1, nI hu, nI y.1, nI hs, nI z.1, fl, dr, (ty_2 oc ho 13 10 s).2.1, st, fg, ie, pe, la, rm, ln, lw, t.2.1, (ty_2 oc ho 13 10 s).2.2.1, y.2.1, z.2.1, ct) (nI lc, nI ic, nI oc, nI L, nI t.1, nI (ty_2 oc ho 13 10 s).1, nI y.1, nI z.1, fl, dr, (ty_2 oc ho 13 10 s).2.1, fg, ie, rm, st, pe, la, ln, lw, t.2.2, (ty_2 oc ho 13 10 s).2.2.2, y.2.2, z.2.2, ct) := ty_mk ⟨c, ty_o2 ok c6, q, p, qz, hl, hp⟩
    refine xo_2 (m := 13) (m' := 10) (by omega) (by omega) q1 ok.1 c6 ?_
    refine ⟨ty_b2n oc s, ?_⟩
    refine nm_r hv (pk_eq m 10 (fun _ => ?_) (fun e' => absurd e e'))
    refine yo_2 (m := 13) (m' := 10) ho (by omega) (by omega) ok.1 c6 ?_
    exact yw_31 (ty_b2o oc s) ⟨rfl, R⟩
  · have R : ty_R (nI lc, nI ic, nI oc, nI L, nI hi, nI t.1, nI ho, nI (ty_1 oc ho m s).1, nI hu, nI y.1, nI hs, nI z.1, fl, dr, (ty_1 oc ho m s).2.1, st, fg, ie, pe, la, rm, ln, lw, t.2.1, (ty_1 oc ho m s).2.2.1, y.2.1, z.2.1, ct) (nI lc, nI ic, nI oc, nI L, nI t.1, nI (ty_1 oc ho m s).1, nI y.1, nI z.1, fl, dr, (ty_1 oc ho m s).2.1, fg, ie, rm, st, pe, la, ln, lw, t.2.2, (ty_1 oc ho m s).2.2.2, y.2.2, z.2.2, ct) := ty_mk ⟨c, ty_o1 ok c6, q, p, qz, hl, hp⟩
    refine xo_1 hm q1 ok.1 c6 ?_
    refine ⟨ty_b1n oc s, ?_⟩
    refine nm_r hv (pk_eq m 10 (fun e' => absurd e' e) (fun _ => ?_))
    refine yo_1 ho hm ok.1 c6 ?_
    exact yw_31 (ty_b1o oc s) ⟨rfl, R⟩
/-! tick, startRead, setControl -/
theorem i_vc_tick {k : Nat} {u : SX} {v : SY} (I : i_Rel k u v) (hk : k + 3 ≤ 1539) (v1 : Int32) : wpX_tick (fun r u' => wpY_tick (fun r' v' => r' = r ∧ i_Rel (k + 3) u' v') v v1) u v1 := by
  have I' := I
  obtain ⟨lc, ic, oc, L, hi, ho, hu, hs, s, t, y, z, fl, dr, st, fg, ie, pe, la, rm, ln, lw, ct, rfl, rfl, C⟩ := I'
  have C' := C
  obtain ⟨c, ok, q, p, qz, hl, hp⟩ := C'
  by_cases a : v1 < 1
  · exact br_t a (br_t a ⟨rfl, I⟩)
  · by_cases b : v1 ≤ 1000
    · by_cases d : pe = 0
      · exact br_f a (br_t b (br_t d (br_f a (br_t b (br_t d ⟨rfl, I⟩)))))
      · refine br_f a (br_t b (br_f d (nm_e ?_)))
        refine xc_check q p hp ?_
        refine br_f a (br_t b (br_f d (nm_e ?_)))
        exact yc_check hi hu q.2.1 hp ⟨rfl, ty_mkK C⟩
    · exact br_f a (br_f b (br_f a (br_f b ⟨rfl, I⟩)))
theorem i_vc_startRead {k : Nat} {u : SX} {v : SY} (I : i_Rel k u v) (hk : k + 3 ≤ 1539) (v1 : Int32) : wpX_startRead (fun r u' => wpY_startRead (fun r' v' => r' = r ∧ i_Rel (k + 3) u' v') v v1) u v1 := by
  have I' := I
  obtain ⟨lc, ic, oc, L, hi, ho, hu, hs, s, t, y, z, fl, dr, st, fg, ie, pe, la, rm, ln, lw, ct, rfl, rfl, C⟩ := I'
  obtain ⟨c, ok, q, p, qz, hl, hp⟩ := C
  have p2 := p.2.1
  by_cases d : pe = 0
  · by_cases a : v1 < 1
    · exact br_t d (br_t a (br_t d (br_t a ⟨rfl, I⟩)))
    · by_cases b : v1 ≤ 64 - nI y.1
      · have e : (64 : Int32) - nI y.1 = nI (64 - y.1) := pk_sub (a := 64) p2
        have n0 : ¬ v1 < 0 := fun k => a (Int32.lt_trans k (by decide))
        obtain ⟨j, hj, rfl⟩ := nI_of n0
        have b2 : j ≤ 64 - y.1 := by rw [e] at b; exact (nI_leI hj (by omega)).mp b
        have a2 : 1 ≤ j := by
          refine Nat.le_of_not_lt (fun k => a ?_)
          exact nI_lt (b := 1) k (by decide)
        have hp' : ty_p 1 (nI j) y := fun _ => ⟨j, a2, by omega, rfl⟩
        refine br_t d (br_f a (br_t b ?_))
        refine xc_check q p hp' ?_
        refine br_t d (br_f a (br_t b ?_))
        exact yc_check hi hu q.2.1 hp' ⟨rfl, ty_mkK ⟨c, ok, q, p, qz, hl, hp'⟩⟩
      · exact br_t d (br_f a (br_f b (br_t d (br_f a (br_f b ⟨rfl, I⟩)))))
  · exact br_f d (br_f d ⟨rfl, I⟩)
theorem i_vc_setControl {k : Nat} {u : SX} {v : SY} (I : i_Rel k u v) (hk : k + 3 ≤ 1539) (v1 : Int32) (v2 : Int32) : wpX_setControl (fun r u' => wpY_setControl (fun r' v' => r' = r ∧ i_Rel (k + 3) u' v') v v1 v2) u v1 v2 := by
  have I' := I
  obtain ⟨lc, ic, oc, L, hi, ho, hu, hs, s, t, y, z, fl, dr, st, fg, ie, pe, la, rm, ln, lw, ct, rfl, rfl, C⟩ := I'
  have C' := C
  obtain ⟨c, ok, q, p, qz, hl, hp⟩ := C'
  by_cases a : v1 < 0
  · exact br_t a (br_t a ⟨rfl, I⟩)
  · by_cases b : v1 ≤ 9
    · obtain ⟨j, hj, rfl⟩ := nI_of2 (M := 9) (n := 9) (by decide) a b
      have i : vp_in (nI j) 10 := vp_in_nI (by omega) (by omega)
      by_cases e : 7 < nI j
      · have e8 : ¬ nI j < 8 := fun k => by
          have k1 : j < 8 := (nI_ltI (a := j) (b := 8) (by omega) (by omega)).mp k
          have k2 : 7 < j := (nI_ltI (a := 7) (b := j) (by omega) (by omega)).mp e
          omega
        by_cases f : v2 < 0
        · exact br_f a (br_t b (br_t e (br_t f (br_f a (br_t b (br_t e (br_f e8 (br_t f ⟨rfl, I⟩))))))))
        · by_cases g : v2 ≤ 255
          · refine br_f a (br_t b (br_t e (br_f f (br_t g ⟨i, nm_e ?_⟩))))
            refine xc_check q p hp ?_
            refine br_f a (br_t b (br_t e (br_f e8 (br_f f (br_t g ⟨i, nm_e ?_⟩)))))
            exact yc_check hi hu q.2.1 hp ⟨rfl, ty_mkK C⟩
          · exact br_f a (br_t b (br_t e (br_f f (br_f g (br_f a (br_t b (br_t e (br_f e8 (br_f f (br_f g ⟨rfl, I⟩))))))))))
      · have e8 : nI j < 8 := by
          have k2 : ¬ 7 < j := fun k => e (nI_lt (a := 7) k (by omega))
          exact nI_lt (b := 8) (by omega) (by decide)
        by_cases f : v2 < -1
        · exact br_f a (br_t b (br_f e (br_t f (br_f a (br_t b (br_f e (br_t f ⟨rfl, I⟩)))))))
        · by_cases g : v2 ≤ 255
          · refine br_f a (br_t b (br_f e (br_f f (br_t g ⟨i, nm_e ?_⟩))))
            refine xc_check q p hp ?_
            refine br_f a (br_t b (br_f e (br_f f (br_t g (br_t e8 ⟨i, nm_e ?_⟩)))))
            exact yc_check hi hu q.2.1 hp ⟨rfl, ty_mkK C⟩
          · exact br_f a (br_t b (br_f e (br_f f (br_f g (br_f a (br_t b (br_f e (br_f f (br_f g ⟨rfl, I⟩)))))))))
    · exact br_f a (br_f b (br_f a (br_f b ⟨rfl, I⟩)))
end TQ
