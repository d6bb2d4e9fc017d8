section TS
variable {lc ic oc L hi ho hu hs m : Nat} {s : TyO} {t y z : TyI} {fl dr st fg ie pe la rm : Int32} {ln lw ct : TyF} {A : SX → Prop} {P : SY → Prop} {x2 : Int32}
def ty_st (x2 st : Int32) : Int32 := if x2 &&& 16 = 0 then 0 else st
theorem xf_27 (q : ty_i hi t) (p : ty_i hu y) (hp : ty_p pe rm y) (h : A (nI lc, nI ic, nI oc, nI L, nI (ty_ck x2 pe la rm ie ct hi hu t y).1, nI (ty_ck x2 pe la rm ie ct hi hu t y).2.1.1, nI ho, nI s.1, nI hu, nI (ty_ck x2 pe la rm ie ct hi hu t y).2.2.1.1, nI hs, nI z.1, x2, dr, s.2.1, ty_st x2 st, fg, ie, (ty_ck x2 pe la rm ie ct hi hu t y).2.2.2.1, (ty_ck x2 pe la rm ie ct hi hu t y).2.2.2.2, rm, ln, lw, (ty_ck x2 pe la rm ie ct hi hu t y).2.1.2.1, s.2.2.1, (ty_ck x2 pe la rm ie ct hi hu t y).2.2.1.2.1, z.2.1, ct)) : wX_setFlags_27 A x2 (nI lc) (nI ic) (nI oc) (nI L) (nI hi) (nI t.1) (nI ho) (nI s.1) (nI hu) (nI y.1) (nI hs) (nI z.1) fl dr s.2.1 st fg ie pe la rm ln lw t.2.1 s.2.2.1 y.2.1 z.2.1 ct := by
  unfold ty_st at h
  by_cases c : x2 &&& 16 = 0
  · simp only [if_pos c] at h
    refine br_t c ?_
    exact xc_check q p hp h
  · simp only [if_neg c] at h
    refine br_f c ?_
    exact xc_check q p hp h
theorem yf_161 (hi hu : Nat) (h64 : t.1 ≤ 64) (hp : ty_p pe rm y) (h : P (nI lc, nI ic, nI oc, nI L, nI (ty_ck x2 pe la rm ie ct hi hu t y).2.1.1, nI s.1, nI (ty_ck x2 pe la rm ie ct hi hu t y).2.2.1.1, nI z.1, x2, dr, s.2.1, fg, ie, rm, ty_st x2 st, (ty_ck x2 pe la rm ie ct hi hu t y).2.2.2.1, (ty_ck x2 pe la rm ie ct hi hu t y).2.2.2.2, ln, lw, (ty_ck x2 pe la rm ie ct hi hu t y).2.1.2.2, s.2.2.2, (ty_ck x2 pe la rm ie ct hi hu t y).2.2.1.2.2, z.2.2, ct)) : wY_setFlags_161 P x2 (nI lc) (nI ic) (nI oc) (nI L) (nI t.1) (nI s.1) (nI y.1) (nI z.1) fl dr s.2.1 fg ie rm st pe la ln lw t.2.2 s.2.2.2 y.2.2 z.2.2 ct := by
  unfold ty_st at h
  by_cases c : x2 &&& 16 = 0
  · simp only [if_pos c] at h
    refine br_t c ?_
    exact yc_check hi hu h64 hp h
  · simp only [if_neg c] at h
    refine br_f c ?_
    exact yc_check hi hu h64 hp h
theorem yf_84 (hi : Nat) (hL : L ≤ 32) (hc : ic ≤ 64) : ∀ (d k n : Nat) (t : TyI) (dr : Int32), k + d = L → d < n → t.1 ≤ ic → wY_setFlags_161 P x2 (nI lc) (nI ic) (nI oc) (nI 0) (nI ((ty_sp hi ic ln d k t dr).1).1) (nI s.1) (nI y.1) (nI z.1) fl ((ty_sp hi ic ln d k t dr).2) s.2.1 fg ie rm st pe la ln lw (((ty_sp hi ic ln d k t dr).1).2.2) s.2.2.2 y.2.2 z.2.2 ct → wY_setFlags_84 P x2 (nI lc) (nI ic) (nI oc) (nI L) (nI s.1) (nI y.1) (nI z.1) fl s.2.1 fg ie rm st pe la n (nI k) (nI t.1) dr ln lw t.2.2 s.2.2.2 y.2.2 z.2.2 ct := by
  intro d
  induction d with
  | zero =>
    intro k n t dr hk hn ht h
    obtain ⟨n, rfl⟩ : ∃ k, n = k + 1 := ⟨n - 1, by omega⟩
    exact pk_le L k (fun _ => h) (fun e => absurd e (by omega))
  | succ d ih =>
    intro k n t dr hk hn ht h
    obtain ⟨n, rfl⟩ : ∃ k, n = k + 1 := ⟨n - 1, by omega⟩
    refine pk_le L k (fun e => absurd e (by omega)) (fun _ => pk_le 32 k (fun e => absurd e (by omega)) (fun _ => pk_le ic t.1 (fun c => ?_) (fun c => ⟨vp_in_nI (by omega) (by omega), vp_in_nI (by omega) (by omega), ?_⟩)))
    · have e1 : ty_sp hi ic ln (d + 1) k t dr = ty_sp hi ic ln d (k + 1) t (dr + 1) := if_neg (by omega)
      rw [e1] at h
      exact nm_e (nm_r (nI_1 k) (ih (k + 1) n t (dr + 1) (by omega) (by omega) ht h))
    · have e1 : ty_sp hi ic ln (d + 1) k t dr = ty_sp hi ic ln d (k + 1) (ty_in hi (ln k) t) dr := if_pos c
      rw [e1] at h
      rw [nI_clamp (n := k) (by omega), nI_clamp (n := t.1) (by omega)]
      exact nm_e (nm_r (nI_1 t.1) (nm_r (nI_1 k) (ih (k + 1) n (ty_in hi (ln k) t) dr (by omega) (by omega) c h)))
theorem yf_25 {N : Nat} (hi : Nat) (hN : N ≤ 64) : ∀ (d i n : Nat) (t : TyI), i + d = N → d < n → t.1 ≤ i → (∃ n84, wY_setFlags_84 P x2 (nI lc) (nI ic) (nI oc) (nI L) (nI s.1) (nI y.1) (nI z.1) fl s.2.1 fg ie rm st pe la n84 0 (nI (ty_fl hi d i t).1) dr ln lw ((ty_fl hi d i t).2.2) s.2.2.2 y.2.2 z.2.2 ct) → wY_setFlags_25 P x2 (nI lc) (nI ic) (nI oc) (nI L) (nI N) (nI s.1) (nI y.1) (nI z.1) fl dr s.2.1 fg ie rm st pe la n (nI t.1) (nI i) ln lw t.2.2 s.2.2.2 y.2.2 z.2.2 ct := by
  intro d
  induction d with
  | zero =>
    intro i n t hi' hn ht h
    obtain ⟨n, rfl⟩ : ∃ k, n = k + 1 := ⟨n - 1, by omega⟩
    exact pk_le N i (fun _ => h) (fun e => absurd e (by omega))
  | succ d ih =>
    intro i n t hi' hn ht h
    obtain ⟨n, rfl⟩ : ∃ k, n = k + 1 := ⟨n - 1, by omega⟩
    refine pk_le N i (fun e => absurd e (by omega)) (fun _ => pk_le 64 i (fun e => absurd e (by omega)) (fun _ => ⟨vp_in_nI (by omega) (by omega), ?_⟩))
    rw [nI_clamp (n := i) (by omega)]
    by_cases e : t.2.2 i = 256
    · have e1 : ty_fl hi (d + 1) i t = ty_fl hi d (i + 1) t := if_pos e
      rw [e1] at h
      exact br_t e (nm_r (nI_1 i) (ih (i + 1) n t (by omega) (by omega) (by omega) h))
    · have e1 : ty_fl hi (d + 1) i t = ty_fl hi d (i + 1) (ty_in hi (t.2.2 i) t) := if_neg e
      rw [e1] at h
      exact br_f e ⟨vp_in_nI (by omega) (by omega), vp_in_nI (by omega) (by omega), nm_r (congrArg (fun k => upd t.2.2 k (t.2.2 i)) (nI_clamp (by omega))) (nm_r (nI_1 t.1) (nm_r (nI_1 i) (ih (i + 1) n (ty_in hi (t.2.2 i) t) (by omega) (by omega) (by show t.1 + 1 ≤ i + 1; omega) h)))⟩
theorem i_vc_setFlags {k : Nat} {u : SX} {v : SY} (I : i_Rel k u v) (hk : k + 3 ≤ 1539) (v1 : Int32) : wpX_setFlags (fun u' => wpY_setFlags (fun v' => i_Rel (k + 3) u' v') v v1) u v1 := by
  have I' := I
  obtain ⟨lc, ic, oc, L, hi, ho, hu, hs, s, t, y, z, fl, dr, st, fg, ie, pe, la, rm, ln, lw, ct, rfl, rfl, C⟩ := I'
  have C' := C
  obtain ⟨⟨c1, c2, c3, c4, c5, c6, c7, c8⟩, ok, q, p, qz, hl, hp⟩ := C'
  have h64 := q.2.1
  refine nm_e ?_
  by_cases a : fl &&& 1 = 0
  · refine xs_0 a ?_
    refine br_t rfl ?_
    refine xf_27 q p hp ?_
    exact nm_e (br_t a (yf_161 hi hu h64 hp (ty_mkK C)))
  · refine xs_1 a ?_
    refine br_f (by decide) ?_
    by_cases b : v1 &&& 31 &&& 1 = 0
    · have f := ty_iFl t.1 0 (0, t.2) t.1 (by omega) (ty_f0 q)
      have f2 : (ty_fl hi t.1 0 (0, t.2)).1 ≤ ic := by have := f.2; have e : ((0, t.2) : TyI).1 = 0 := rfl; omega
      have g := ty_iSp (ln := ln) c4 L 0 (ty_fl hi t.1 0 (0, t.2)) dr f.1 f2
      have g2 := g.2
      have hl0 : ty_l lw 0 := fun j hj => absurd hj (Nat.not_lt_zero j)
      have R : ty_R (nI lc, nI ic, nI oc, nI 0, nI (ty_ck (v1 &&& 31) pe la rm ie ct hi hu (ty_sp hi ic ln L 0 (ty_fl hi t.1 0 (0, t.2)) dr).1 y).1, nI (ty_ck (v1 &&& 31) pe la rm ie ct hi hu (ty_sp hi ic ln L 0 (ty_fl hi t.1 0 (0, t.2)) dr).1 y).2.1.1, nI ho, nI s.1, nI hu, nI (ty_ck (v1 &&& 31) pe la rm ie ct hi hu (ty_sp hi ic ln L 0 (ty_fl hi t.1 0 (0, t.2)) dr).1 y).2.2.1.1, nI hs, nI z.1, v1 &&& 31, (ty_sp hi ic ln L 0 (ty_fl hi t.1 0 (0, t.2)) dr).2, s.2.1, ty_st (v1 &&& 31) st, fg, ie, (ty_ck (v1 &&& 31) pe la rm ie ct hi hu (ty_sp hi ic ln L 0 (ty_fl hi t.1 0 (0, t.2)) dr).1 y).2.2.2.1, (ty_ck (v1 &&& 31) pe la rm ie ct hi hu (ty_sp hi ic ln L 0 (ty_fl hi t.1 0 (0, t.2)) dr).1 y).2.2.2.2, rm, ln, lw, (ty_ck (v1 &&& 31) pe la rm ie ct hi hu (ty_sp hi ic ln L 0 (ty_fl hi t.1 0 (0, t.2)) dr).1 y).2.1.2.1, s.2.2.1, (ty_ck (v1 &&& 31) pe la rm ie ct hi hu (ty_sp hi ic ln L 0 (ty_fl hi t.1 0 (0, t.2)) dr).1 y).2.2.1.2.1, z.2.1, ct) (nI lc, nI ic, nI oc, nI 0, nI (ty_ck (v1 &&& 31) pe la rm ie ct hi hu (ty_sp hi ic ln L 0 (ty_fl hi t.1 0 (0, t.2)) dr).1 y).2.1.1, nI s.1, nI (ty_ck (v1 &&& 31) pe la rm ie ct hi hu (ty_sp hi ic ln L 0 (ty_fl hi t.1 0 (0, t.2)) dr).1 y).2.2.1.1, nI z.1, v1 &&& 31, (ty_sp hi ic ln L 0 (ty_fl hi t.1 0 (0, t.2)) dr).2, s.2.1, fg, ie, rm, ty_st (v1 &&& 31) st, (ty_ck (v1 &&& 31) pe la rm ie ct hi hu (ty_sp hi ic ln L 0 (ty_fl hi t.1 0 (0, t.2)) dr).1 y).2.2.2.1, (ty_ck (v1 &&& 31) pe la rm ie ct hi hu (ty_sp hi ic ln L 0 (ty_fl hi t.1 0 (0, t.2)) dr).1 y).2.2.2.2, ln, lw, (ty_ck (v1 &&& 31) pe la rm ie ct hi hu (ty_sp hi ic ln L 0 (ty_fl hi t.1 0 (0, t.2)) dr).1 y).2.1.2.2, s.2.2.2, (ty_ck (v1 &&& 31) pe la rm ie ct hi hu (ty_sp hi ic ln L 0 (ty_fl hi t.1 0 (0, t.2)) dr).1 y).2.2.1.2.2, z.2.2, ct) :=
        ty_mkK ⟨⟨c1, c2, c3, c4, c5, c6, by omega, g2⟩, ok, g.1, p, qz, hl0, hp⟩
      refine br_t b ?_
      refine xf_rm q ?_
      refine xf_sp q.1 (by omega) c4 f2 ?_
      refine xf_27 (L := 0) g.1 p hp ?_
      refine nm_e (br_f a (br_t b ⟨t.1 + 1, ?_⟩))
      refine yf_25 (t := (0, t.2)) hi h64 t.1 0 (t.1 + 1) (by omega) (by omega) (Nat.zero_le _) ⟨L + 1, ?_⟩
      refine yf_84 hi (by omega) c4 L 0 (L + 1) (ty_fl hi t.1 0 (0, t.2)) dr (by omega) (by omega) f2 ?_
      exact yf_161 (L := 0) hi hu (by omega) hp R
    · refine br_f b ?_
      refine xf_27 q p hp ?_
      exact nm_e (br_f a (br_f b (yf_161 hi hu h64 hp (ty_mkK C))))
/-! the constructors -/
def ty_clp (p lo hi : Int32) : Int32 := if lo ≤ p then (if p ≤ hi then p else hi) else lo
theorem xi_clamp {U : Int32 → Prop} {p lo hi : Int32} (h : U (ty_clp p lo hi)) : wpX_clamp U p lo hi := by
  unfold ty_clp at h
  by_cases a : lo ≤ p
  · rw [if_pos a] at h
    by_cases b : p ≤ hi
    · rw [if_pos b] at h; exact br_t a (br_t b h)
    · rw [if_neg b] at h; exact br_t a (br_f b h)
  · rw [if_neg a] at h; exact br_f a h
theorem ty_clpN (p : Int32) (a b : Nat) (hab : a ≤ b) (hb : b < 2 ^ 31) : ∃ n : Nat, a ≤ n ∧ n ≤ b ∧ ty_clp p (nI a) (nI b) = nI n := by
  unfold ty_clp
  by_cases c : nI a ≤ p
  · rw [if_pos c]
    by_cases d : p ≤ nI b
    · rw [if_pos d]
      have n0 : ¬ p < 0 := Int32.not_lt.mpr (Int32.le_trans (nI_pos' (n := a) (by omega)) c)
      obtain ⟨j, hj, rfl⟩ := nI_of n0
      exact ⟨j, (nI_leI (by omega) hj).mp c, (nI_leI hj hb).mp d, rfl⟩
    · rw [if_neg d]; exact ⟨b, hab, Nat.le_refl b, rfl⟩
  · rw [if_neg c]; exact ⟨a, Nat.le_refl a, hab, rfl⟩
theorem yi_127 {x3 a b : Int32} (h : wY_init_154 P (ty_clp x3 32 64) a b 0 0 0 0 0 0 31 0 0 1 0 0 0 0 (-1) (fun _ => 0) (fun _ => 0) (fun _ => 0) (fun _ => 0) (fun _ => 0) (fun _ => 0) (fun _ => 0)) : wY_init_127 P x3 b a 0 0 0 0 0 0 0 31 0 0 1 0 0 0 0 (-1) (fun _ => 0) (fun _ => 0) (fun _ => 0) (fun _ => 0) (fun _ => 0) (fun _ => 0) (fun _ => 0) := by
  unfold ty_clp at h
  by_cases c : 32 ≤ x3
  · rw [if_pos c] at h
    by_cases d : x3 ≤ 64
    · rw [if_pos d] at h; exact br_t c (br_t d h)
    · rw [if_neg d] at h; exact br_t c (br_f d h)
  · rw [if_neg c] at h; exact br_f c h
theorem yi_100 {x2 x3 a : Int32} (h : wY_init_154 P (ty_clp x3 32 64) a (ty_clp x2 16 64) 0 0 0 0 0 0 31 0 0 1 0 0 0 0 (-1) (fun _ => 0) (fun _ => 0) (fun _ => 0) (fun _ => 0) (fun _ => 0) (fun _ => 0) (fun _ => 0)) : wY_init_100 P x2 x3 a 0 0 0 0 0 0 0 0 31 0 0 1 0 0 0 0 (-1) (fun _ => 0) (fun _ => 0) (fun _ => 0) (fun _ => 0) (fun _ => 0) (fun _ => 0) (fun _ => 0) := by
  unfold ty_clp at h
  by_cases c : 16 ≤ x2
  · rw [if_pos (c := 16 ≤ x2) c] at h
    by_cases d : x2 ≤ 64
    · rw [if_pos (c := x2 ≤ 64) d] at h; exact br_t c (br_t d (yi_127 h))
    · rw [if_neg (c := x2 ≤ 64) d] at h; exact br_t c (br_f d (yi_127 h))
  · rw [if_neg (c := 16 ≤ x2) c] at h; exact br_f c (yi_127 h)
theorem yi_init {p0 p1 p2 : Int32} (h : wY_init_154 P (ty_clp p2 32 64) (ty_clp p0 8 32) (ty_clp p1 16 64) 0 0 0 0 0 0 31 0 0 1 0 0 0 0 (-1) (fun _ => 0) (fun _ => 0) (fun _ => 0) (fun _ => 0) (fun _ => 0) (fun _ => 0) (fun _ => 0)) : wpY_init P p0 p1 p2 := by
  have k : ∀ a, ty_clp p0 8 32 = a → wY_init_100 P p1 p2 a 0 0 0 0 0 0 0 0 31 0 0 1 0 0 0 0 (-1) (fun _ => 0) (fun _ => 0) (fun _ => 0) (fun _ => 0) (fun _ => 0) (fun _ => 0) (fun _ => 0) := fun a e => yi_100 (by rw [← e]; exact h)
  by_cases c : 8 ≤ p0
  · by_cases d : p0 ≤ 32
    · exact br_t c (br_t d (k _ ((if_pos c).trans (if_pos d))))
    · exact br_t c (br_f d (k _ ((if_pos c).trans (if_neg d))))
  · exact br_f c (k _ (if_neg c))
theorem i_vc0 (k0 : Int32) (k1 : Int32) (k2 : Int32) : wpX_init (fun u => wpY_init (fun v => i_Rel 3 u v) k0 k1 k2) k0 k1 k2 := by
  obtain ⟨lc, l1, l2, l3⟩ := ty_clpN k0 8 32 (by omega) (by omega)
  obtain ⟨ic, j1, j2, j3⟩ := ty_clpN k1 16 64 (by omega) (by omega)
  obtain ⟨oc, o1, o2, o3⟩ := ty_clpN k2 32 64 (by omega) (by omega)
  have C : ty_C lc ic oc 0 0 0 0 0 (0, 0, (fun _ => 0), (fun _ => 0)) (0, (fun _ => 0), (fun _ => 0)) (0, (fun _ => 0), (fun _ => 0)) (0, (fun _ => 0), (fun _ => 0)) 0 0 (fun _ => 0) :=
    ⟨⟨l1, l2, j1, j2, o1, o2, by omega, Nat.zero_le _⟩, ⟨Nat.zero_le _, ty_q0 (by omega)⟩, ty_q0 (by omega), ty_q0 (by omega), ty_q0 (by omega), fun j hj => absurd hj (Nat.not_lt_zero j), ty_p0 _ _⟩
  have R : ∀ ct : TyF, ty_R (nI lc, nI ic, nI oc, 0, 0, 0, 0, 0, 0, 0, 0, 0, 31, 0, 0, 0, 1, 0, 0, (-1), 0, (fun _ => 0), (fun _ => 0), (fun _ => 0), (fun _ => 0), (fun _ => 0), (fun _ => 0), ct) (nI lc, nI ic, nI oc, 0, 0, 0, 0, 0, 31, 0, 0, 1, 0, 0, 0, 0, (-1), (fun _ => 0), (fun _ => 0), (fun _ => 0), (fun _ => 0), (fun _ => 0), (fun _ => 0), ct) := fun ct => ty_mk C
  have l3' : ty_clp k0 8 32 = nI lc := l3
  have j3' : ty_clp k1 16 64 = nI ic := j3
  have o3' : ty_clp k2 32 64 = nI oc := o3
  unfold wpX_init
  refine xi_clamp ?_
  refine xi_clamp ?_
  refine xi_clamp ?_
  refine nm_e (nm_e (nm_e (nm_e (nm_e (nm_e (nm_e (nm_e (nm_e (nm_e ?_)))))))))
  refine yi_init ?_
  rw [l3', j3', o3']
  exact nm_e (nm_e (nm_e (nm_e (nm_e (nm_e (nm_e (nm_e (nm_e (nm_e (R _))))))))))
end TS
