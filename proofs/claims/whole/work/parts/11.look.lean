section TL
variable {lc ic oc L hi ho hu hs m : Nat} {s : TyO} {t y z : TyI} {fl dr st fg ie pe la rm : Int32} {ln lw ct : TyF}
theorem ql_ne {v : Int32} (k : Int32) (h : v < 0 ∨ 10 < v) (hk : ¬ k < 0 ∧ ¬ 10 < k) : ¬ v = k := by
  intro e
  subst e
  rcases h with h | h
  · exact hk.1 h
  · exact hk.2 h
theorem ql_out {V : Int32 → Prop} {v : Int32} (h : v < 0 ∨ 10 < v) (p : V (-1)) : wpY_query V (nI lc, nI ic, nI oc, nI L, nI t.1, nI s.1, nI y.1, nI z.1, fl, dr, s.2.1, fg, ie, rm, st, pe, la, ln, lw, t.2.2, s.2.2.2, y.2.2, z.2.2, ct) v :=
  br_f (ql_ne 0 h (by decide)) (br_f (ql_ne 1 h (by decide)) (br_f (ql_ne 2 h (by decide)) (br_f (ql_ne 3 h (by decide)) (br_f (ql_ne 4 h (by decide)) (br_f (ql_ne 5 h (by decide)) (br_f (ql_ne 6 h (by decide)) (br_f (ql_ne 7 h (by decide)) (br_f (ql_ne 8 h (by decide)) (br_f (ql_ne 9 h (by decide)) (br_f (ql_ne 10 h (by decide)) (p)))))))))))
theorem i_vc_query {k : Nat} {u : SX} {v : SY} (I : i_Rel k u v) (hk : k + 3 ≤ 1539) (v1 : Int32) : wpX_query (fun r => wpY_query (fun r' => r' = r ∧ i_Rel (k + 3) u v) v v1) u v1 := by
  have I' := I
  obtain ⟨lc, ic, oc, L, hi, ho, hu, hs, s, t, y, z, fl, dr, st, fg, ie, pe, la, rm, ln, lw, ct, rfl, rfl, C⟩ := I'
  by_cases a : v1 < 0
  · exact br_t a (ql_out (Or.inl a) ⟨rfl, I⟩)
  · by_cases b : 10 < v1
    · exact br_f a (br_t b (ql_out (Or.inr b) ⟨rfl, I⟩))
    · obtain ⟨j, hj, rfl⟩ := nI_of2 (M := 10) (n := 10) (by decide) a (Int32.not_lt.mp b)
      match j, hj with
      | 0, _ => exact br_f a (br_f b (br_t rfl (br_t rfl ⟨rfl, I⟩)))
      | 1, _ => exact br_f a (br_f b (br_f (by decide) (br_t rfl (br_f (by decide) (br_t rfl ⟨rfl, I⟩)))))
      | 2, _ => exact br_f a (br_f b (br_f (by decide) (br_f (by decide) (br_t rfl (br_f (by decide) (br_f (by decide) (br_t rfl ⟨rfl, I⟩)))))))
      | 3, _ => exact br_f a (br_f b (br_f (by decide) (br_f (by decide) (br_f (by decide) (br_t rfl (br_f (by decide) (br_f (by decide) (br_f (by decide) (br_t rfl ⟨rfl, I⟩)))))))))
      | 4, _ => exact br_f a (br_f b (br_f (by decide) (br_f (by decide) (br_f (by decide) (br_f (by decide) (br_t rfl (br_f (by decide) (br_f (by decide) (br_f (by decide) (br_f (by decide) (br_t rfl ⟨rfl, I⟩)))))))))))
      | 5, _ => exact br_f a (br_f b (br_f (by decide) (br_f (by decide) (br_f (by decide) (br_f (by decide) (br_f (by decide) (br_t rfl (br_f (by decide) (br_f (by decide) (br_f (by decide) (br_f (by decide) (br_f (by decide) (br_t rfl ⟨rfl, I⟩)))))))))))))
      | 6, _ =>
        by_cases c : st = 0
        · exact br_f a (br_f b (br_f (by decide) (br_f (by decide) (br_f (by decide) (br_f (by decide) (br_f (by decide) (br_f (by decide) (br_t rfl (br_t c (br_f (by decide) (br_f (by decide) (br_f (by decide) (br_f (by decide) (br_f (by decide) (br_f (by decide) (br_t rfl (br_t c ⟨rfl, I⟩)))))))))))))))))
        · exact br_f a (br_f b (br_f (by decide) (br_f (by decide) (br_f (by decide) (br_f (by decide) (br_f (by decide) (br_f (by decide) (br_t rfl (br_f c (br_f (by decide) (br_f (by decide) (br_f (by decide) (br_f (by decide) (br_f (by decide) (br_f (by decide) (br_t rfl (br_f c ⟨rfl, I⟩)))))))))))))))))
      | 7, _ => exact br_f a (br_f b (br_f (by decide) (br_f (by decide) (br_f (by decide) (br_f (by decide) (br_f (by decide) (br_f (by decide) (br_f (by decide) (br_t rfl (br_f (by decide) (br_f (by decide) (br_f (by decide) (br_f (by decide) (br_f (by decide) (br_f (by decide) (br_f (by decide) (br_t rfl ⟨rfl, I⟩)))))))))))))))))
      | 8, _ => exact br_f a (br_f b (br_f (by decide) (br_f (by decide) (br_f (by decide) (br_f (by decide) (br_f (by decide) (br_f (by decide) (br_f (by decide) (br_f (by decide) (br_t rfl (br_f (by decide) (br_f (by decide) (br_f (by decide) (br_f (by decide) (br_f (by decide) (br_f (by decide) (br_f (by decide) (br_f (by decide) (br_t rfl ⟨rfl, I⟩)))))))))))))))))))
      | 9, _ => exact br_f a (br_f b (br_f (by decide) (br_f (by decide) (br_f (by decide) (br_f (by decide) (br_f (by decide) (br_f (by decide) (br_f (by decide) (br_f (by decide) (br_f (by decide) (br_t rfl (br_f (by decide) (br_f (by decide) (br_f (by decide) (br_f (by decide) (br_f (by decide) (br_f (by decide) (br_f (by decide) (br_f (by decide) (br_f (by decide) (br_t rfl ⟨rfl, I⟩)))))))))))))))))))))
      | 10, _ => exact br_f a (br_f b (br_f (by decide) (br_f (by decide) (br_f (by decide) (br_f (by decide) (br_f (by decide) (br_f (by decide) (br_f (by decide) (br_f (by decide) (br_f (by decide) (br_f (by decide) (br_t rfl (br_f (by decide) (br_f (by decide) (br_f (by decide) (br_f (by decide) (br_f (by decide) (br_f (by decide) (br_f (by decide) (br_f (by decide) (br_f (by decide) (br_f (by decide) (br_t rfl ⟨rfl, I⟩)))))))))))))))))))))))
theorem i_vc_readStatus {k : Nat} {u : SX} {v : SY} (I : i_Rel k u v) (hk : k + 3 ≤ 1539) : wpX_readStatus (fun r => wpY_readStatus (fun r' => r' = r ∧ i_Rel (k + 3) u v) v) u := by
  have I' := I
  obtain ⟨lc, ic, oc, L, hi, ho, hu, hs, s, t, y, z, fl, dr, st, fg, ie, pe, la, rm, ln, lw, ct, rfl, rfl, C⟩ := I'
  by_cases a : pe = 0
  · exact br_t a (br_t a ⟨rfl, I⟩)
  · exact br_f a (br_f a ⟨rfl, I⟩)
theorem i_vc_getControl {k : Nat} {u : SX} {v : SY} (I : i_Rel k u v) (hk : k + 3 ≤ 1539) (v1 : Int32) : wpX_getControl (fun r => wpY_getControl (fun r' => r' = r ∧ i_Rel (k + 3) u v) v v1) u v1 := by
  have I' := I
  obtain ⟨lc, ic, oc, L, hi, ho, hu, hs, s, t, y, z, fl, dr, st, fg, ie, pe, la, rm, ln, lw, ct, rfl, rfl, C⟩ := I'
  by_cases a : v1 < 0
  · exact br_t a (br_t a ⟨rfl, I⟩)
  · by_cases b : v1 ≤ 9
    · obtain ⟨j, hj, rfl⟩ := nI_of2 (M := 9) (n := 9) (by decide) a b
      have i : vp_in (nI j) 10 := vp_in_nI (by omega) (by omega)
      exact br_f a (br_t b ⟨i, br_f a (br_t b ⟨i, rfl, I⟩)⟩)
    · exact br_f a (br_f b (br_f a (br_f b ⟨rfl, I⟩)))
theorem i_vc_setForeground {k : Nat} {u : SX} {v : SY} (I : i_Rel k u v) (hk : k + 3 ≤ 1539) (v1 : Int32) : wpX_setForeground (fun r u' => wpY_setForeground (fun r' v' => r' = r ∧ i_Rel (k + 3) u' v') v v1) u v1 := by
  have I' := I
  obtain ⟨lc, ic, oc, L, hi, ho, hu, hs, s, t, y, z, fl, dr, st, fg, ie, pe, la, rm, ln, lw, ct, rfl, rfl, C⟩ := I'
  by_cases a : v1 < 1
  · exact br_t a (br_t a ⟨rfl, I⟩)
  · by_cases b : v1 ≤ 30000
    · exact br_f a (br_t b (br_f a (br_t b ⟨rfl, ty_mk C⟩)))
    · exact br_f a (br_f b (br_f a (br_f b ⟨rfl, I⟩)))
theorem i_vc_lineAt {k : Nat} {u : SX} {v : SY} (I : i_Rel k u v) (hk : k + 3 ≤ 1539) (v1 : Int32) : wpX_lineAt (fun r => wpY_lineAt (fun r' => r' = r ∧ i_Rel (k + 3) u v) v v1) u v1 := by
  have I' := I
  obtain ⟨lc, ic, oc, L, hi, ho, hu, hs, s, t, y, z, fl, dr, st, fg, ie, pe, la, rm, ln, lw, ct, rfl, rfl, C⟩ := I'
  obtain ⟨⟨c1, c2, c3, c4, c5, c6, c7, c8⟩, ok, q, p, qz, hl, hp⟩ := C
  by_cases a : v1 < 0
  · exact br_t a (br_t a ⟨rfl, I⟩)
  · obtain ⟨j, hj, rfl⟩ := nI_of a
    refine br_f a (pk_lt j L (fun e => ?_) (fun e => ?_))
    · have i : vp_in (nI j) 32 := vp_in_nI (by omega) (by omega)
      exact ⟨i, br_f a (pk_le L j (fun k => absurd k (by omega)) (fun _ => pk_lt j 32 (fun _ => ⟨i, rfl, I⟩) (fun k => absurd k (by omega))))⟩
    · exact br_f a (pk_le L j (fun _ => ⟨rfl, I⟩) (fun k => absurd k (by omega)))
theorem i_vc_inputAt {k : Nat} {u : SX} {v : SY} (I : i_Rel k u v) (hk : k + 3 ≤ 1539) (v1 : Int32) : wpX_inputAt (fun r => wpY_inputAt (fun r' => r' = r ∧ i_Rel (k + 3) u v) v v1) u v1 := by
  have I' := I
  obtain ⟨lc, ic, oc, L, hi, ho, hu, hs, s, t, y, z, fl, dr, st, fg, ie, pe, la, rm, ln, lw, ct, rfl, rfl, C⟩ := I'
  obtain ⟨⟨c1, c2, c3, c4, c5, c6, c7, c8⟩, ok, q, p, qz, hl, hp⟩ := C
  have q1 := q.1
  by_cases a : v1 < 0
  · exact br_t a (br_t a ⟨rfl, I⟩)
  · obtain ⟨j, hj, rfl⟩ := nI_of a
    refine br_f a (pk_lt j t.1 (fun e => ?_) (fun e => ?_))
    · have i : vp_in (nI j) 64 := vp_in_nI (by omega) (by omega)
      refine ⟨ty_ringI q1 (by omega), br_f a (pk_le t.1 j (fun k => absurd k (by omega)) (fun _ => pk_lt j 64 (fun _ => ⟨i, ?_, I⟩) (fun k => absurd k (by omega))))⟩
      rw [ty_at q e, nI_clamp (by omega)]
    · exact br_f a (pk_le t.1 j (fun _ => ⟨rfl, I⟩) (fun k => absurd k (by omega)))
theorem i_vc_outputAt {k : Nat} {u : SX} {v : SY} (I : i_Rel k u v) (hk : k + 3 ≤ 1539) (v1 : Int32) : wpX_outputAt (fun r => wpY_outputAt (fun r' => r' = r ∧ i_Rel (k + 3) u v) v v1) u v1 := by
  have I' := I
  obtain ⟨lc, ic, oc, L, hi, ho, hu, hs, s, t, y, z, fl, dr, st, fg, ie, pe, la, rm, ln, lw, ct, rfl, rfl, C⟩ := I'
  obtain ⟨⟨c1, c2, c3, c4, c5, c6, c7, c8⟩, ok, q, p, qz, hl, hp⟩ := C
  have o1 := ok.1
  have q1 := ok.2.1
  by_cases a : v1 < 0
  · exact br_t a (br_t a ⟨rfl, I⟩)
  · obtain ⟨j, hj, rfl⟩ := nI_of a
    refine br_f a (pk_lt j s.1 (fun e => ?_) (fun e => ?_))
    · have i : vp_in (nI j) 64 := vp_in_nI (by omega) (by omega)
      refine ⟨ty_ringI q1 (by omega), br_f a (pk_le s.1 j (fun k => absurd k (by omega)) (fun _ => pk_lt j 64 (fun _ => ⟨i, ?_, I⟩) (fun k => absurd k (by omega))))⟩
      have f : s.2.2.1 ((nI ho + nI j) &&& 63).toNatClampNeg = s.2.2.2 j := by rw [ty_ringC q1 (by omega)]; exact ok.2.2.2 j e
      rw [f, nI_clamp (by omega)]
    · exact br_f a (pk_le s.1 j (fun _ => ⟨rfl, I⟩) (fun k => absurd k (by omega)))
end TL
