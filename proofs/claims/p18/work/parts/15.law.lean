section PZ
variable {lc ic oc L hi ho hu hs m k p Ls kc ks n : Nat} {s : TyO} {t y z : TyI} {fl dr st fg ie pe la rm v1 : Int32} {ln lw : TyF} {P : Int32 → Prop} {xs : Nat → Int32} {J : PrJ} {x3 x6 : Int64} {x5 x8 x9 x10 x11 : Int32}
theorem pr_fl (a b : Int32) : ¬ ((1 ||| a) ||| b) &&& 31 &&& 1 = 0 := by
  intro h
  have k := congrArg (fun x : Int32 => x.toBitVec.getLsbD 0) h
  have a1 : (1 : Int32).toBitVec.getLsbD 0 = true := by decide
  have a2 : (31 : Int32).toBitVec.getLsbD 0 = true := by decide
  have a3 : (0 : Int32).toBitVec.getLsbD 0 = false := by decide
  simp only [Int32.toBitVec_and, Int32.toBitVec_or, BitVec.getLsbD_and, BitVec.getLsbD_or, a1, a2, a3, Bool.true_or, Bool.and_true, Bool.true_and] at k
  exact absurd k (by decide)
theorem pr_485 {nn : Nat} (H : pr_H k p J) (hk : k ≤ 1000) (hic : ic = 16) (hfl : ¬ fl &&& 1 = 0) (hN : nn ≤ 8) (hJ : pr_J k x3 x5 x6 x8 x9 x10 L dr t y ln) : ∀ (r i fu ho : Nat) (s : TyO), i + r = nn → r < fu → ty_C lc ic oc L hi ho hu hs s t y z pe rm lw → wL_law_485 P Ls xs J x3 x5 x6 x8 x9 x10 (nI p) (nI nn) kc ks fu (nI i) (nI lc) (nI ic) (nI oc) (nI L) (nI hi) (nI t.1) (nI ho) (nI s.1) (nI hu) (nI y.1) (nI hs) (nI z.1) fl dr s.2.1 st fg ie pe la rm ln lw t.2.1 s.2.2.1 y.2.1 z.2.1 pr_ct := by
  intro r
  induction r with
  | zero =>
    intro i fu ho s hi' hf C
    obtain ⟨fu, rfl⟩ : ∃ k, fu = k + 1 := ⟨fu - 1, by omega⟩
    exact pk_le nn i (fun _ => pr_go H hk hic hfl C hJ) (fun e => absurd e (by omega))
  | succ r ih =>
    intro i fu ho s hi' hf C
    obtain ⟨fu, rfl⟩ : ∃ k, fu = k + 1 := ⟨fu - 1, by omega⟩
    refine pk_le nn i (fun e => absurd e (by omega)) (fun _ => ?_)
    refine xm_trans C.2.1 C.1.2.2.2.2.2.1 (fun r ho' s' o' => ?_)
    exact nm_r (nI_1 i) (ih (i + 1) fu ho' s' (by omega) (by omega) ⟨C.1, o', C.2.2⟩)
theorem pr_oth (hLs : Ls ≤ 260) (hp : p < Ls) {a : Nat} (ha : xs (nI p).toNatClampNeg &&& 15 = nI a) (ha16 : a < 16) (ha10 : 10 ≤ a) (H : pr_H (p + 1) p (wL_law_60 P Ls xs kc ks n)) (hic : ic = 16) (hfl : ¬ fl &&& 1 = 0) (C : ty_C lc ic oc L hi ho hu hs s t y z pe rm lw) (hJ : pr_J (p + 1) x3 x5 x6 x8 x9 x10 L dr t y ln) : wL_law_60 P Ls xs kc ks (n + 1) x3 x5 x6 x8 x9 x10 (nI p) (nI lc) (nI ic) (nI oc) (nI L) (nI hi) (nI t.1) (nI ho) (nI s.1) (nI hu) (nI y.1) (nI hs) (nI z.1) fl dr s.2.1 st fg ie pe la rm ln lw t.2.1 s.2.2.1 y.2.1 z.2.1 pr_ct := by
  have C0 := C
  obtain ⟨c, ok, q, pq, qz, hl, hq⟩ := C0
  have c6 := c.2.2.2.2.2.1
  have st_ : ∀ w : Int32, wL_law_383 P Ls xs (wL_law_60 P Ls xs kc ks n) x3 x5 x6 x8 x9 x10 (nI p) w kc ks (nI lc) (nI ic) (nI oc) (nI L) (nI hi) (nI t.1) (nI ho) (nI s.1) (nI hu) (nI y.1) (nI hs) (nI z.1) fl dr s.2.1 st fg ie pe la rm ln lw t.2.1 s.2.2.1 y.2.1 z.2.1 pr_ct := fun w => by
    unfold wL_law_383
    refine xm_start q pq (fun r => ?_) (fun r j j1 j2 => ?_)
    · exact pr_go H (by omega) hic hfl C hJ
    · exact pr_goK (pe := 1) (rm := nI j) (ie := 0) H (by omega) hic hfl ⟨c, ok, q, pq, qz, hl, fun _ => ⟨j, j1, j2, rfl⟩⟩ hJ
  have wr : ∀ w : Int32, wL_law_459 P Ls xs (wL_law_60 P Ls xs kc ks n) x3 x5 x6 x8 x9 x10 (nI p) w kc ks (nI lc) (nI ic) (nI oc) (nI L) (nI hi) (nI t.1) (nI ho) (nI s.1) (nI hu) (nI y.1) (nI hs) (nI z.1) fl dr s.2.1 st fg ie pe la rm ln lw t.2.1 s.2.2.1 y.2.1 z.2.1 pr_ct := fun w => by
    unfold wL_law_459
    refine xm_write ok c6 (fun r s o' => ?_)
    exact pr_go H (by omega) hic hfl ⟨c, o', q, pq, qz, hl, hq⟩ hJ
  refine pk_lt Ls p (fun e => absurd e (by omega)) (fun _ => pk_le Ls p (fun e => absurd e (by omega)) (fun _ => ⟨vp_in_nI hp (by omega), nm_e (nm_r ha (nm_e (pk_le 10 a (fun _ => ?_) (fun e => absurd e (by omega)))))⟩))
  refine pk_eq a 10 (fun e => st_ _) (fun e10 => pk_eq a 11 (fun e => st_ _) (fun e11 => pk_eq a 12 (fun e => ?_) (fun e12 => pk_eq a 13 (fun e => br_c (fun _ => wr _) (fun _ => wr _)) (fun e13 => pk_eq a 14 (fun e => ?_) (fun e14 => ?_)))))
  · refine xm_flags (pr_fl _ _) q pq hq (fun st => ?_)
    exact pr_goK H (by omega) hic (pr_fl _ _) C hJ
  · obtain ⟨b, hb, eb⟩ := pk_andE ((xs (nI p).toNatClampNeg).toUInt32 >>> ((4 : Int32).toUInt32 &&& Int32.toUInt32 31)).toInt32 3 (m := 7) (by decide)
    refine nm_r (e' := nI (b + 1)) (by rw [eb]; exact nI_1 b) ⟨b + 2, ?_⟩
    exact pr_485 H (by omega) hic hfl (by omega) hJ (b + 1) 0 (b + 2) ho s (by omega) (by omega) C
  · refine xm_tick q pq hq (fun r => ?_) (fun r ie => ?_)
    · exact pr_go H (by omega) hic hfl C hJ
    · exact pr_goK H (by omega) hic hfl C hJ
theorem pr_60 (hP : P 1) (hLs : Ls ≤ 260) : ∀ (r p fu : Nat) (x3 : Int64) (x5 : Int32) (x6 : Int64) (x8 x9 x10 : Int32) (lc ic oc L hi ho hu hs : Nat) (s : TyO) (t y z : TyI) (fl dr st fg ie pe la rm : Int32) (ln lw : TyF), p + r = Ls + 1 → r < fu → ty_C lc ic oc L hi ho hu hs s t y z pe rm lw → ic = 16 → ¬ fl &&& 1 = 0 → pr_J p x3 x5 x6 x8 x9 x10 L dr t y ln → (dr = 0 → y.1 = 0) → wL_law_60 P Ls xs kc ks fu x3 x5 x6 x8 x9 x10 (nI p) (nI lc) (nI ic) (nI oc) (nI L) (nI hi) (nI t.1) (nI ho) (nI s.1) (nI hu) (nI y.1) (nI hs) (nI z.1) fl dr s.2.1 st fg ie pe la rm ln lw t.2.1 s.2.2.1 y.2.1 z.2.1 pr_ct := by
  intro r
  induction r with
  | zero =>
    intro p fu x3 x5 x6 x8 x9 x10 lc ic oc L hi ho hu hs s t y z fl dr st fg ie pe la rm ln lw hr hf C hic hfl hJ hy
    obtain ⟨fu, rfl⟩ : ∃ k, fu = k + 1 := ⟨fu - 1, by omega⟩
    exact pr_end hP (by omega) (by omega) C hJ (by omega) hy
  | succ r ih =>
    intro p fu x3 x5 x6 x8 x9 x10 lc ic oc L hi ho hu hs s t y z fl dr st fg ie pe la rm ln lw hr hf C hic hfl hJ hy
    obtain ⟨fu, rfl⟩ : ∃ k, fu = k + 1 := ⟨fu - 1, by omega⟩
    have H : pr_H (p + 1) p (wL_law_60 P Ls xs kc ks fu) := fun x3 x5 x6 x8 x9 x10 lc ic oc L hi ho hu hs s t y z fl dr st fg ie pe la rm ln lw C hic hfl hJ hy => ih (p + 1) fu x3 x5 x6 x8 x9 x10 lc ic oc L hi ho hu hs s t y z fl dr st fg ie pe la rm ln lw (by omega) (by omega) C hic hfl hJ hy
    by_cases e : p = Ls
    · exact pk_lt Ls p (fun k => absurd k (by omega)) (fun _ => pk_le Ls p (fun _ => pr_go H (by omega) hic hfl C (pr_Ju hJ)) (fun k => absurd k (by omega)))
    · obtain ⟨a, ha16, ha⟩ := pk_andE (xs (nI p).toNatClampNeg) 4 (m := 15) (by decide)
      by_cases a10 : 10 ≤ a
      · exact pr_oth hLs (by omega) ha ha16 a10 H hic hfl C (pr_Ju hJ)
      · obtain ⟨i, hi', hi8⟩ := pk_andE ((xs (nI p).toNatClampNeg).toUInt32 >>> ((4 : Int32).toUInt32 &&& Int32.toUInt32 31)).toInt32 3 (m := 7) (by decide)
        obtain ⟨ds, cs, d, ⟨d1, d2, rfl, rfl⟩, ⟨o1, o2, rfl, rfl⟩, h3, h4, h5⟩ := hJ
        match i, hi', hi8 with
        | 0, _, hi8 => exact pr_sta hP hLs (by omega) ha (by omega) H hic hfl C ⟨d1, d2⟩ ⟨o1, o2⟩ h3 h4 h5 hi8
        | 1, _, hi8 => exact pr_stb hP hLs (by omega) ha (by omega) H hic hfl C ⟨d1, d2⟩ ⟨o1, o2⟩ h3 h4 h5 hi8
        | 2, _, hi8 => exact pr_stc hP hLs (by omega) ha (by omega) H hic hfl C ⟨d1, d2⟩ ⟨o1, o2⟩ h3 h4 h5 hi8
        | 3, _, hi8 => exact pr_er hP hLs (by omega) ha (by omega) H hic hfl C ⟨d1, d2⟩ ⟨o1, o2⟩ h3 h4 h5 hi8
        | 4, _, hi8 => exact pr_we hP hLs (by omega) ha (by omega) H hic hfl C ⟨d1, d2⟩ ⟨o1, o2⟩ h3 h4 h5 hi8
        | 5, _, hi8 => exact pr_ki hP hLs (by omega) ha (by omega) H hic hfl C ⟨d1, d2⟩ ⟨o1, o2⟩ h3 h4 h5 hi8
        | 6, _, hi8 => exact pr_ef hP hLs (by omega) ha (by omega) H hic hfl C ⟨d1, d2⟩ ⟨o1, o2⟩ h3 h4 h5 hy hi8
        | 7, _, hi8 => exact pr_nl hP hLs (by omega) ha (by omega) H hic hfl C ⟨d1, d2⟩ ⟨o1, o2⟩ h3 h4 h5 hy hi8
/-! the constructor and the law -/
def ty_clp (p lo hi : Int32) : Int32 := if lo ≤ p then (if p ≤ hi then p else hi) else lo
theorem xi_clamp {U : Int32 → Prop} {p lo hi : Int32} (h : U (ty_clp p lo hi)) : wpX_clamp U () p lo hi := by
  unfold ty_clp at h
  by_cases a : lo ≤ p
  · rw [if_pos a] at h
    by_cases b : p ≤ hi
    · rw [if_pos b] at h; exact br_t a (br_t b h)
    · rw [if_neg b] at h; exact br_t a (br_f b h)
  · rw [if_neg a] at h; exact br_f a h
theorem ty_clpN (p : Int32) (a b : Nat) (hab : a ≤ b) (hb : b < 2 ^ 31) : ∃ n : Nat, a ≤ n ∧ n ≤ b ∧ ty_clp p (nI a) (nI b) = nI n := by
  unfold ty_clp
  by_cases c : nI a ≤ p
  · rw [if_pos c]
    by_cases d : p ≤ nI b
    · rw [if_pos d]
      have n0 : ¬ p < 0 := Int32.not_lt.mpr (Int32.le_trans (nI_pos' (n := a) (by omega)) c)
      obtain ⟨j, hj, rfl⟩ := nI_of n0
      exact ⟨j, (nI_leI (by omega) hj).mp c, (nI_leI hj hb).mp d, rfl⟩
    · rw [if_neg d]; exact ⟨b, hab, Nat.le_refl b, rfl⟩
  · rw [if_neg c]; exact ⟨a, Nat.le_refl a, hab, rfl⟩
theorem pr_cell {U : Int32 → Prop} {i : Nat} (hLs : Ls ≤ 260) (hi : i ≤ 2) (h : ∀ v, U v) : wpL_cell U Ls xs () (nI i) :=
  pk_le Ls i (fun _ => h 0) (fun c => ⟨vp_in_nI c (by omega), h _⟩)
theorem pr_fin (hP : P 1) (hLs : Ls ≤ 260) (lc oc : Nat) (l1 : 8 ≤ lc) (l2 : lc ≤ 32) (o1 : 32 ≤ oc) (o2 : oc ≤ 64) : ∃ fu, wL_law_60 P Ls xs kc ks fu 0 0 0 0 0 0 3 (nI lc) 16 (nI oc) 0 0 0 0 0 0 0 0 0 31 0 0 0 1 0 0 (-1) 0 (fun _ => 0) (fun _ => 0) (fun _ => 0) (fun _ => 0) (fun _ => 0) (fun _ => 0) pr_ct := by
  have C : ty_C lc 16 oc 0 0 0 0 0 (0, 0, (fun _ => 0), (fun _ => 0)) (0, (fun _ => 0), (fun _ => 0)) (0, (fun _ => 0), (fun _ => 0)) (0, (fun _ => 0), (fun _ => 0)) 0 0 (fun _ => 0) :=
    ⟨⟨l1, l2, by omega, by omega, o1, o2, by omega, Nat.zero_le _⟩, ⟨Nat.zero_le _, ty_q0 (by omega)⟩, ty_q0 (by omega), ty_q0 (by omega), ty_q0 (by omega), fun j hj => absurd hj (Nat.not_lt_zero j), ty_p0 _ _⟩
  have hJ : ∀ k, pr_J k 0 0 0 0 0 0 0 0 (0, (fun _ => 0), (fun _ => 0)) (0, (fun _ => 0), (fun _ => 0)) (fun _ => 0) := fun k =>
    ⟨[], [], 0, ⟨pe_ok0 3, Nat.zero_le _, rfl, rfl⟩, ⟨pe_ok0 4, Nat.zero_le _, rfl, rfl⟩, rfl, Nat.zero_le _, fun _ => ⟨rfl, rfl, rfl, rfl, rfl⟩⟩
  by_cases e : Ls < 3
  · exact ⟨1, pr_end (p := 3) (k := 3) (n := 0) hP e (by omega) C (hJ 3) (by omega) (fun _ => rfl)⟩
  · exact ⟨Ls, pr_60 hP hLs (Ls - 2) 3 Ls 0 0 0 0 0 0 lc 16 oc 0 0 0 0 0 _ _ _ _ 31 0 0 1 0 0 (-1) 0 (fun _ => 0) (fun _ => 0) (by omega) (by omega) C rfl (by decide) (hJ 3) (fun _ => rfl)⟩
theorem i_vc (xs : Nat → Int32) (L : Nat) (hL : L ≤ 260) : wpL_law (fun r => r = 1) L xs := by
  unfold wpL_law
  refine pr_cell (i := 0) hL (by omega) (fun r2 => ?_)
  refine pr_cell (i := 1) hL (by omega) (fun r3 => ?_)
  refine pr_cell (i := 2) hL (by omega) (fun r4 => ?_)
  obtain ⟨lc, l1, l2, l3⟩ := ty_clpN (8 + (r2 &&& 31)) 8 32 (by omega) (by omega)
  obtain ⟨oc, o1, o2, o3⟩ := ty_clpN (32 + (r4 &&& 31)) 32 64 (by omega) (by omega)
  have l3' : ty_clp (8 + (r2 &&& 31)) 8 32 = nI lc := l3
  have o3' : ty_clp (32 + (r4 &&& 31)) 32 64 = nI oc := o3
  have j3' : ty_clp (r3 &&& 15) 16 64 = 16 := by
    obtain ⟨j, hj, e⟩ := pk_andE r3 4 (m := 15) (by decide)
    rw [e]
    exact if_neg (nI_ge (b := 16) hj (by decide))
  refine ⟨7, 274, by omega, by omega, ?_⟩
  refine ⟨by omega, by omega, by omega, by omega, by omega, by omega, by omega, by omega, by omega, by omega, by omega, by omega, by omega, by omega, ?_⟩
  refine xi_clamp ?_
  refine xi_clamp ?_
  refine xi_clamp ?_
  rw [l3', j3', o3']
  refine nm_e (nm_e (nm_e (nm_e (nm_e (nm_e (nm_e (nm_e (nm_e (nm_e ?_)))))))))
  exact pr_fin (P := fun r => r = 1) rfl hL lc oc l1 l2 o1 o2
end PZ
