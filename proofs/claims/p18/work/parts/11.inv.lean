section PI
abbrev PrJ : Type := Int64 → Int32 → Int64 → Int32 → Int32 → Int32 → Int32 → Int32 → Int32 → Int32 → Int32 → Int32 → Int32 → Int32 → Int32 → Int32 → Int32 → Int32 → Int32 → Int32 → Int32 → Int32 → Int32 → Int32 → Int32 → Int32 → Int32 → Int32 → (Nat → Int32) → (Nat → Int32) → (Nat → Int32) → (Nat → Int32) → (Nat → Int32) → (Nat → Int32) → (Nat → Int32) → Prop
variable {lc ic oc L hi ho hu hs m k p Ls kc ks : Nat} {s : TyO} {t y z : TyI} {fl dr st fg ie pe la rm v1 : Int32} {ln lw : TyF} {P : Int32 → Prop} {xs : Nat → Int32} {J : PrJ} {x3 x6 : Int64} {x5 x8 x9 x10 : Int32}
/-- the controls, which no step changes -/
def pr_ct : TyF := (upd (upd (upd (upd (upd (upd (upd (upd (upd (upd (fun _ => 0) 0 3) 1 26) 2 127) 3 23) 4 21) 5 4) 6 17) 7 19) 8 1) 9 0)
/-- the law's own models beside the state: ds the line, cs what is committed and not taken, d what was dropped -/
def pr_J (k : Nat) (x3 : Int64) (x5 : Int32) (x6 : Int64) (x8 x9 x10 : Int32) (L : Nat) (dr : Int32) (t y : TyI) (ln : TyF) : Prop :=
  ∃ (ds cs : List Nat) (d : Nat), (pe_ok 3 ds ∧ ds.length ≤ 32 ∧ x3 = lN (pe_enc ds) ∧ x5 = nI ds.length) ∧ (pe_ok 4 cs ∧ cs.length ≤ 32 ∧ x6 = lN (pe_enc cs) ∧ x8 = nI cs.length) ∧ dr = nI d ∧ d ≤ 40 * k ∧ (d = 0 → x9 = 0 ∧ x10 = 0 ∧ ds.length = L ∧ pe_us ln L 0 = ds.map pe_by ∧ pe_u y ++ pe_i t = cs.map pe_by)
theorem pr_Ju (h : pr_J k x3 x5 x6 x8 x9 x10 L dr t y ln) : pr_J (k + 1) x3 x5 x6 x8 x9 x10 L dr t y ln := by
  obtain ⟨ds, cs, d, h1, h2, h3, h4, h5⟩ := h
  exact ⟨ds, cs, d, h1, h2, h3, by omega, h5⟩
theorem pr_Jck (b : ¬ fl &&& 1 = 0) (h : pr_J k x3 x5 x6 x8 x9 x10 L dr t y ln) : pr_J k x3 x5 x6 x8 x9 x10 L dr (ty_ck fl pe la rm ie pr_ct hi hu t y).2.1 (ty_ck fl pe la rm ie pr_ct hi hu t y).2.2.1 ln := by
  obtain ⟨ds, cs, d, h1, h2, h3, h4, h5⟩ := h
  refine ⟨ds, cs, d, h1, h2, h3, h4, fun e => ?_⟩
  obtain ⟨a1, a2, a3, a4, a5⟩ := h5 e
  exact ⟨a1, a2, a3, a4, by rw [pe_ck b]; exact a5⟩
/-- what the next turn takes -/
def pr_H (k p : Nat) (J : PrJ) : Prop := ∀ (x3 : Int64) (x5 : Int32) (x6 : Int64) (x8 x9 x10 : Int32) (lc ic oc L hi ho hu hs : Nat) (s : TyO) (t y z : TyI) (fl dr st fg ie pe la rm : Int32) (ln lw : TyF), ty_C lc ic oc L hi ho hu hs s t y z pe rm lw → ic = 16 → ¬ fl &&& 1 = 0 → pr_J k x3 x5 x6 x8 x9 x10 L dr t y ln → (dr = 0 → y.1 = 0) → J x3 x5 x6 x8 x9 x10 (nI (p + 1)) (nI lc) (nI ic) (nI oc) (nI L) (nI hi) (nI t.1) (nI ho) (nI s.1) (nI hu) (nI y.1) (nI hs) (nI z.1) fl dr s.2.1 st fg ie pe la rm ln lw t.2.1 s.2.2.1 y.2.1 z.2.1 pr_ct
theorem pr_by1 (c : Nat) : ¬ pe_by c = -1 := by
  unfold pe_by
  by_cases a : c = 0
  · rw [if_pos a]; decide
  · rw [if_neg a]
    by_cases b : c = 1
    · rw [if_pos b]; decide
    · rw [if_neg b]
      by_cases e : c = 2
      · rw [if_pos e]; decide
      · rw [if_neg e]; decide
theorem pr_by2 (c : Nat) : ¬ pe_by c = 256 := by
  unfold pe_by
  by_cases a : c = 0
  · rw [if_pos a]; decide
  · rw [if_neg a]
    by_cases b : c = 1
    · rw [if_pos b]; decide
    · rw [if_neg b]
      by_cases e : c = 2
      · rw [if_pos e]; decide
      · rw [if_neg e]; decide
theorem pr_521 (H : pr_H k p J) (hk : k ≤ 1000) (hic : ic = 16) (hfl : ¬ fl &&& 1 = 0) : ∀ (n g fu hu : Nat) (y : TyI) (x6 : Int64) (x8 x9 : Int32), y.1 = n → g + n ≤ 64 → n < fu → ty_C lc ic oc L hi ho hu hs s t y z pe rm lw → pr_J k x3 x5 x6 x8 x9 x10 L dr t y ln → wL_law_521 P Ls xs J x3 x5 x10 (nI p) kc ks fu x6 x8 x9 (nI g) (nI lc) (nI ic) (nI oc) (nI L) (nI hi) (nI t.1) (nI ho) (nI s.1) (nI hu) (nI y.1) (nI hs) (nI z.1) fl dr s.2.1 st fg ie pe la rm ln lw t.2.1 s.2.2.1 y.2.1 z.2.1 pr_ct := by
  intro n
  induction n with
  | zero =>
    intro g fu hu y x6 x8 x9 hn hg hf C hJ
    obtain ⟨fu, rfl⟩ : ∃ k, fu = k + 1 := ⟨fu - 1, by omega⟩
    refine pk_le 80 g (fun e => absurd e (by omega)) (fun _ => ?_)
    refine xm_take0 hn ?_
    exact br_t rfl (nm_r (nI_1 p) (H _ _ _ _ _ _ _ _ _ _ _ _ _ _ s t y z _ _ _ _ _ _ _ _ _ _ C hic hfl hJ (fun _ => hn)))
  | succ n ih =>
    intro g fu hu y x6 x8 x9 hn hg hf C hJ
    obtain ⟨fu, rfl⟩ : ∃ k, fu = k + 1 := ⟨fu - 1, by omega⟩
    have C' := C
    obtain ⟨c, o, q, pq, qz, hl, hp⟩ := C'
    have y0 : 0 < y.1 := by omega
    have hp' : ty_p pe rm (ty_rm y) := fun e => by
      obtain ⟨r, a1, a2, a3⟩ := hp e
      exact ⟨r, a1, by show y.1 - 1 + r ≤ 64; omega, a3⟩
    have C2 : ty_C lc ic oc L hi ho ((hu + 1) % 64) hs s t (ty_rm y) z pe rm lw := ⟨c, o, q, ty_iRm pq y0, qz, hl, hp'⟩
    have n1 : (ty_rm y).1 = n := by show y.1 - 1 = n; omega
    obtain ⟨ds, cs, d, h1, ⟨o1, o2, rfl, rfl⟩, h3, h4, h5⟩ := hJ
    have bad : ∀ (x6 : Int64) (x8 x9 : Int32) (cs : List Nat), ¬ d = 0 → pe_ok 4 cs → cs.length ≤ 32 → x6 = lN (pe_enc cs) → x8 = nI cs.length → pr_J k x3 x5 x6 x8 x9 x10 L dr t (ty_rm y) ln := fun x6 x8 x9 cs dn a b e f => ⟨ds, cs, d, h1, ⟨a, b, e, f⟩, h3, h4, fun e => absurd e dn⟩
    refine pk_le 80 g (fun e => absurd e (by omega)) (fun _ => ?_)
    refine xm_take1 pq y0 ?_
    by_cases e : y.2.2 0 = -1
    · have dn : ¬ d = 0 := fun z0 => by
        have a5 := (h5 z0).2.2.2.2
        rw [pe_uRm y0, e] at a5
        cases cs with
        | nil => exact absurd a5 (by simp)
        | cons c cs => exact pr_by1 c (by have := (List.cons.inj a5).1; exact this.symm)
      exact br_t e (nm_r (nI_1 p) (H _ _ _ _ _ _ _ _ _ _ _ _ _ _ s t (ty_rm y) z _ _ _ _ _ _ _ _ _ _ C2 hic hfl (bad _ _ _ cs dn o1 o2 rfl rfl) (fun z0 => by rw [h3] at z0; exact absurd ((nI_eq (b := 0) (by omega) (by omega)).mp z0) dn)))
    · refine br_f e ?_
      cases cs with
      | nil =>
        have dn : ¬ d = 0 := fun z0 => by
          have a5 := (h5 z0).2.2.2.2
          rw [pe_uRm y0] at a5
          exact absurd a5 (by simp)
        exact br_t rfl (nm_r (nI_1 g) (ih (g + 1) fu _ (ty_rm y) _ _ 1 n1 (by omega) (by omega) C2 (bad _ _ 1 [] dn o1 o2 rfl rfl)))
      | cons c cs =>
        have oc := pe_okc o1
        have len : (c :: cs).length = cs.length + 1 := rfl
        refine br_f (nI_ne0 (by rw [len]; omega) (by omega)) ?_
        rw [pb_head o1 o2]
        refine pb_by oc.1 ?_
        by_cases e2 : y.2.2 0 = pe_by c
        · refine br_t e2 (nm_r (pb_tail o1 o2) (nm_r (pk_m1 cs.length) (nm_r (nI_1 g) (ih (g + 1) fu _ (ty_rm y) _ _ x9 n1 (by omega) (by omega) C2 ⟨ds, cs, d, h1, ⟨oc.2, by omega, rfl, rfl⟩, h3, h4, fun z0 => ?_⟩))))
          obtain ⟨a1, a2, a3, a4, a5⟩ := h5 z0
          refine ⟨a1, a2, a3, a4, ?_⟩
          rw [pe_uRm y0] at a5
          exact (List.cons.inj a5).2
        · have dn : ¬ d = 0 := fun z0 => by
            have a5 := (h5 z0).2.2.2.2
            rw [pe_uRm y0] at a5
            exact e2 (List.cons.inj a5).1
          exact br_f e2 (nm_r (pb_tail o1 o2) (nm_r (pk_m1 cs.length) (nm_r (nI_1 g) (ih (g + 1) fu _ (ty_rm y) _ _ 1 n1 (by omega) (by omega) C2 (bad _ _ 1 cs dn oc.2 (by omega) rfl rfl)))))
theorem pr_go (H : pr_H k p J) (hk : k ≤ 1000) (hic : ic = 16) (hfl : ¬ fl &&& 1 = 0) (C : ty_C lc ic oc L hi ho hu hs s t y z pe rm lw) (hJ : pr_J k x3 x5 x6 x8 x9 x10 L dr t y ln) : ∃ fu, wL_law_521 P Ls xs J x3 x5 x10 (nI p) kc ks fu x6 x8 x9 0 (nI lc) (nI ic) (nI oc) (nI L) (nI hi) (nI t.1) (nI ho) (nI s.1) (nI hu) (nI y.1) (nI hs) (nI z.1) fl dr s.2.1 st fg ie pe la rm ln lw t.2.1 s.2.2.1 y.2.1 z.2.1 pr_ct :=
  ⟨y.1 + 1, pr_521 H hk hic hfl y.1 0 (y.1 + 1) hu y x6 x8 x9 rfl (by have := C.2.2.2.1.2.1; omega) (by omega) C hJ⟩
end PI
