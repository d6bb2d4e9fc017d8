section PF
variable {lc ic oc L hi ho hu hs m k p Ls kc ks : Nat} {s : TyO} {t y z : TyI} {fl dr st fg ie pe la rm v1 : Int32} {ln lw : TyF} {P : Int32 → Prop} {xs : Nat → Int32} {J : PrJ} {x3 x6 : Int64} {x5 x8 x9 x10 x11 : Int32}
theorem pe_usAt {b : TyF} : ∀ (n i : Nat) (ds : List Nat), pe_us b n i = ds.map pe_by → ∀ j, j < n → b (i + j) = pe_by (ds.getD j 0) := by
  intro n
  induction n with
  | zero => intro i ds _ j hj; exact absurd hj (Nat.not_lt_zero j)
  | succ n ih =>
    intro i ds h j hj
    cases ds with
    | nil => exact absurd h (by intro e; exact List.cons_ne_nil _ _ e)
    | cons c ds =>
      have a := List.cons.inj h
      cases j with
      | zero => exact a.1
      | succ j =>
        have r := ih (i + 1) ds a.2 j (by omega)
        rw [show i + (j + 1) = i + 1 + j by omega]
        exact r
theorem pe_usTk {b : TyF} : ∀ (n i m : Nat), m ≤ n → pe_us b m i = (pe_us b n i).take m := by
  intro n
  induction n with
  | zero =>
    intro i m hm
    obtain rfl : m = 0 := by omega
    rfl
  | succ n ih =>
    intro i m hm
    cases m with
    | zero => rfl
    | succ m =>
      show b i :: pe_us b m (i + 1) = b i :: (pe_us b n (i + 1)).take m
      rw [ih (i + 1) m (by omega)]
theorem pe_usTm {b : TyF} {n m : Nat} {ds : List Nat} (h : pe_us b n 0 = ds.map pe_by) (hm : m ≤ n) : pe_us b m 0 = (ds.take m).map pe_by := by
  rw [pe_usTk n 0 m hm, h, List.map_take]
/-! the law's last loops -/
theorem pr_740 {ds : List Nat} (hP : P 1) (od : pe_ok 3 ds) (hd : ds.length ≤ 32) (hL : L = ds.length) (hU : pe_us ln L 0 = ds.map pe_by) : ∀ (r j fu : Nat), j + r = L → r < fu → wL_law_740 P Ls xs (lN (pe_enc ds)) (nI L) kc ks (nI lc) (nI ic) (nI oc) (nI L) (nI hi) (nI t.1) (nI ho) (nI s.1) (nI hu) (nI y.1) (nI hs) (nI z.1) fl dr s.2.1 st fg ie pe la rm ln lw t.2.1 s.2.2.1 y.2.1 z.2.1 pr_ct fu (nI j) := by
  intro r
  induction r with
  | zero =>
    intro j fu hj hf
    obtain ⟨fu, rfl⟩ : ∃ k, fu = k + 1 := ⟨fu - 1, by omega⟩
    exact pk_le L j (fun _ => hP) (fun e => absurd e (by omega))
  | succ r ih =>
    intro j fu hj hf
    obtain ⟨fu, rfl⟩ : ∃ k, fu = k + 1 := ⟨fu - 1, by omega⟩
    refine pk_le L j (fun e => absurd e (by omega)) (fun _ => ?_)
    refine xm_lineAt (by omega) (by omega) ?_
    refine pb_codeAt (pe_okm od (by omega)) hd (by omega) ?_
    have hc : ds.getD j 0 < 4 := by
      have e : ds.getD j 0 = ds[j]'(by omega) := by rw [List.getD_eq_getElem?_getD, List.getElem?_eq_getElem (by omega)]; rfl
      rw [e]; exact Nat.lt_of_lt_of_le (od _ (List.getElem_mem _)) (by omega)
    refine pb_by hc ?_
    have e := pe_usAt L 0 ds hU j (by omega)
    rw [Nat.zero_add] at e
    exact br_t e (nm_r (nI_1 j) (ih (j + 1) fu (by omega) (by omega)))
theorem pr_649 {ds : List Nat} (hP : P 1) (q : ty_i hi t) (od : pe_ok 3 ds) (hd : ds.length ≤ 32) (hL : L = ds.length) (hU : pe_us ln L 0 = ds.map pe_by) : ∀ (r i fu : Nat) (cs : List Nat), i + r = t.1 → r < fu → pe_ok 4 cs → cs.length ≤ 32 → (pe_us t.2.2 r i).filter (fun x => decide (¬ x = 256)) = cs.map pe_by → wL_law_649 P Ls xs (lN (pe_enc ds)) (nI ds.length) (nI t.1) kc ks (nI lc) (nI ic) (nI oc) (nI L) (nI hi) (nI t.1) (nI ho) (nI s.1) (nI hu) (nI y.1) (nI hs) (nI z.1) fl dr s.2.1 st fg ie pe la rm ln lw t.2.1 s.2.2.1 y.2.1 z.2.1 pr_ct fu (lN (pe_enc cs)) (nI cs.length) (nI i) := by
  have q2 := q.2.1
  intro r
  induction r with
  | zero =>
    intro i fu cs hi' hf o1 o2 h
    obtain ⟨fu, rfl⟩ : ∃ k, fu = k + 1 := ⟨fu - 1, by omega⟩
    have e : cs = [] := by
      cases cs with
      | nil => rfl
      | cons c cs => exact absurd h (by intro e; exact List.cons_ne_nil _ _ e.symm)
    subst e
    refine pk_le t.1 i (fun _ => br_t rfl ?_) (fun e => absurd e (by omega))
    refine xm_q0 ?_
    exact br_t (by rw [hL]) ⟨L + 1, pr_740 hP od hd hL hU L 0 (L + 1) (by omega) (by omega)⟩
  | succ r ih =>
    intro i fu cs hi' hf o1 o2 h
    obtain ⟨fu, rfl⟩ : ∃ k, fu = k + 1 := ⟨fu - 1, by omega⟩
    refine pk_le t.1 i (fun e => absurd e (by omega)) (fun _ => ?_)
    refine xm_inputAt q (by omega) ?_
    have e0 : pe_us t.2.2 (r + 1) i = t.2.2 i :: pe_us t.2.2 r (i + 1) := rfl
    by_cases e : t.2.2 i = 256
    · rw [e0, List.filter_cons_of_neg (by simp [e])] at h
      exact br_t e (nm_r (nI_1 i) (ih (i + 1) fu cs (by omega) (by omega) o1 o2 h))
    · rw [e0, List.filter_cons_of_pos (by simp [e])] at h
      cases cs with
      | nil => exact absurd h (List.cons_ne_nil _ _)
      | cons c cs =>
        have a := List.cons.inj h
        have oc := pe_okc o1
        have len : (c :: cs).length = cs.length + 1 := rfl
        refine br_f e (br_f (nI_ne0 (by rw [len]; omega) (by omega)) ?_)
        rw [pb_head o1 o2]
        refine pb_by oc.1 ?_
        exact br_t a.1 (nm_r (pb_tail o1 o2) (nm_r (pk_m1 cs.length) (nm_r (nI_1 i) (ih (i + 1) fu cs (by omega) (by omega) oc.2 (by omega) a.2))))
/-- the law's answer -/
theorem pr_end {n : Nat} (hP : P 1) (hL : Ls < p) (hp : p ≤ 300) (C : ty_C lc ic oc L hi ho hu hs s t y z pe rm lw) (hJ : pr_J k x3 x5 x6 x8 x9 x10 L dr t y ln) (hk : k ≤ 1000) (hy : dr = 0 → y.1 = 0) : wL_law_60 P Ls xs kc ks (n + 1) x3 x5 x6 x8 x9 x10 (nI p) (nI lc) (nI ic) (nI oc) (nI L) (nI hi) (nI t.1) (nI ho) (nI s.1) (nI hu) (nI y.1) (nI hs) (nI z.1) fl dr s.2.1 st fg ie pe la rm ln lw t.2.1 s.2.2.1 y.2.1 z.2.1 pr_ct := by
  obtain ⟨c, o, q, pq, qz, hl, hp'⟩ := C
  obtain ⟨ds, cs, d, ⟨d1, d2, rfl, rfl⟩, ⟨o1, o2, rfl, rfl⟩, h3, h4, h5⟩ := hJ
  have q2 := q.2.1
  refine pk_lt Ls p (fun _ => ?_) (fun e => absurd e (by omega))
  refine xm_q5 ?_
  by_cases e : dr = 0
  · have d0 : d = 0 := by rw [h3] at e; exact (nI_eq (b := 0) (by omega) (by omega)).mp e
    obtain ⟨a1, a2, a3, a4, a5⟩ := h5 d0
    have y0 := hy e
    rw [pe_u0 y0, List.nil_append] at a5
    refine br_t e (br_t a2 (br_t a1 ?_))
    refine xm_q3 ?_
    refine br_t (by rw [y0]; rfl) ?_
    refine xm_q1 ?_
    refine br_f (nI_pos (by omega)) (pk_le t.1 64 (fun _ => ⟨t.1 + 1, ?_⟩) (fun k => absurd k (by omega)))
    exact pr_649 hP q d1 d2 a3.symm a4 t.1 0 (t.1 + 1) cs (by omega) (by omega) o1 o2 a5
  · exact br_f e hP
/-! the law's commit -/
theorem pr_getD {ds : List Nat} {b j : Nat} (od : pe_ok b ds) (hj : j < ds.length) : ds.getD j 0 < b ∧ ds.drop j = ds.getD j 0 :: ds.drop (j + 1) := by
  have e : ds.getD j 0 = ds[j]'hj := by rw [List.getD_eq_getElem?_getD, List.getElem?_eq_getElem hj]; rfl
  rw [e]
  exact ⟨od _ (List.getElem_mem _), List.drop_eq_getElem_cons hj⟩
theorem pr_249 {ds : List Nat} {x16 : Int32} (od : pe_ok 3 ds) (hd : ds.length ≤ 32) : ∀ (r i fu : Nat) (cs : List Nat) (x10 : Int32), i + r = ds.length → r < fu → pe_ok 4 cs → cs.length ≤ 32 → (∀ (n : Nat) (cs' : List Nat) (x10' : Int32), pe_ok 4 cs' → cs'.length ≤ 32 → (cs.length + r ≤ 32 → cs' = cs ++ ds.drop i ∧ x10' = x10) → wL_law_249 P Ls xs J (lN (pe_enc ds)) (nI ds.length) x9 x11 x16 kc ks (nI lc) (nI ic) (nI oc) (nI L) (nI hi) (nI t.1) (nI ho) (nI s.1) (nI hu) (nI y.1) (nI hs) (nI z.1) fl dr s.2.1 st fg ie pe la rm ln lw t.2.1 s.2.2.1 y.2.1 z.2.1 pr_ct (n + 1) (lN (pe_enc cs')) (nI cs'.length) x10' (nI ds.length)) → wL_law_249 P Ls xs J (lN (pe_enc ds)) (nI ds.length) x9 x11 x16 kc ks (nI lc) (nI ic) (nI oc) (nI L) (nI hi) (nI t.1) (nI ho) (nI s.1) (nI hu) (nI y.1) (nI hs) (nI z.1) fl dr s.2.1 st fg ie pe la rm ln lw t.2.1 s.2.2.1 y.2.1 z.2.1 pr_ct fu (lN (pe_enc cs)) (nI cs.length) x10 (nI i) := by
  intro r
  induction r with
  | zero =>
    intro i fu cs x10 hi' hf o1 o2 H
    obtain ⟨fu, rfl⟩ : ∃ k, fu = k + 1 := ⟨fu - 1, by omega⟩
    obtain rfl : i = ds.length := by omega
    exact H fu cs x10 o1 o2 (fun _ => ⟨by rw [List.drop_length, List.append_nil], rfl⟩)
  | succ r ih =>
    intro i fu cs x10 hi' hf o1 o2 H
    obtain ⟨fu, rfl⟩ : ∃ k, fu = k + 1 := ⟨fu - 1, by omega⟩
    have g := pr_getD od (show i < ds.length by omega)
    refine pk_le ds.length i (fun e => absurd e (by omega)) (fun _ => pk_lt cs.length 32 (fun c => ?_) (fun c => ?_))
    · refine pb_codeAt (pe_okm od (by omega)) hd (by omega) ?_
      have a : (nI (ds.getD i 0)).toInt64 = lN (ds.getD i 0) := nI_l (by omega)
      rw [a, pb_push o1 c (by omega)]
      have len : (cs ++ [ds.getD i 0]).length = cs.length + 1 := by rw [List.length_append]; rfl
      refine nm_e (nm_r (e' := nI (cs ++ [ds.getD i 0]).length) (by rw [len]; exact nI_1 _) (nm_r (nI_1 i) (ih (i + 1) fu (cs ++ [ds.getD i 0]) x10 (by omega) (by omega) (pe_oka o1 (by omega)) (by omega) (fun n cs' x10' b1 b2 b3 => H n cs' x10' b1 b2 (fun le => ?_)))))
      have r3 := b3 (by omega)
      refine ⟨?_, r3.2⟩
      rw [r3.1, g.2, List.append_assoc]
      rfl
    · exact nm_r (nI_1 i) (ih (i + 1) fu cs 1 (by omega) (by omega) o1 o2 (fun n cs' x10' b1 b2 b3 => H n cs' x10' b1 b2 (fun le => absurd le (by omega))))
end PF
