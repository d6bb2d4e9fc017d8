section PC
variable {lc ic oc L hi ho hu hs m k p Ls kc ks n : Nat} {s : TyO} {t y z : TyI} {fl dr st fg ie pe la rm v1 : Int32} {ln lw : TyF} {P : Int32 → Prop} {xs : Nat → Int32} {x3 x6 : Int64} {x5 x8 x9 x10 x11 : Int32} {ds cs : List Nat} {d : Nat}
theorem pr_v {m : Nat} (hm : m < 256) (w : Int32) : (nI m + 256 * (w &&& 3)) &&& 255 = nI m := by
  obtain ⟨j, hj, e⟩ := pk_andE w 2 (m := 3) (by decide)
  have e2 : (256 : Int32) * nI j = nI (256 * j) := pk_mul 256 j
  rw [e, e2, nI_add, pk_andN (by omega) 8 (by decide), show (m + 256 * j) % 2 ^ 8 = m by omega]
theorem pr_Jbad (ds cs : List Nat) (d L' : Nat) (x9 x10 : Int32) (dr : Int32) (t y : TyI) (ln : TyF) (h1 : pe_ok 3 ds ∧ ds.length ≤ 32) (h2 : pe_ok 4 cs ∧ cs.length ≤ 32) (h3 : dr = nI d) (h4 : d ≤ 40 * k) (dn : ¬ d = 0) : pr_J k (lN (pe_enc ds)) (nI ds.length) (lN (pe_enc cs)) (nI cs.length) x9 x10 L' dr t y ln :=
  ⟨ds, cs, d, ⟨h1.1, h1.2, rfl, rfl⟩, ⟨h2.1, h2.2, rfl, rfl⟩, h3, h4, fun e => absurd e dn⟩
theorem pr_len (h : pe_u y ++ pe_i t = cs.map pe_by) (y0 : y.1 = 0) : cs.length ≤ t.1 := by
  rw [pe_u0 y0, List.nil_append] at h
  have a : cs.length = (pe_i t).length := by rw [h, List.length_map]
  have b : (pe_i t).length ≤ (pe_u t).length := List.length_filter_le _ _
  have c : (pe_u t).length = t.1 := pe_usL _ _ _
  omega
theorem pr_sta (hP : P 1) (hLs : Ls ≤ 260) (hp : p < Ls) {a : Nat} (ha : xs (nI p).toNatClampNeg &&& 15 = nI a) (ha10 : a < 10) (H : pr_H (p + 1) p (wL_law_60 P Ls xs kc ks n)) (hic : ic = 16) (hfl : ¬ fl &&& 1 = 0) (C : ty_C lc ic oc L hi ho hu hs s t y z pe rm lw) (h1 : pe_ok 3 ds ∧ ds.length ≤ 32) (h2 : pe_ok 4 cs ∧ cs.length ≤ 32) (h3 : dr = nI d) (h4 : d ≤ 40 * p) (h5 : d = 0 → x9 = 0 ∧ x10 = 0 ∧ ds.length = L ∧ pe_us ln L 0 = ds.map pe_by ∧ pe_u y ++ pe_i t = cs.map pe_by) (hi8 : ((xs (nI p).toNatClampNeg).toUInt32 >>> ((4 : Int32).toUInt32 &&& Int32.toUInt32 31)).toInt32 &&& 7 = nI 0) : wL_law_60 P Ls xs kc ks (n + 1) (lN (pe_enc ds)) (nI ds.length) (lN (pe_enc cs)) (nI cs.length) x9 x10 (nI p) (nI lc) (nI ic) (nI oc) (nI L) (nI hi) (nI t.1) (nI ho) (nI s.1) (nI hu) (nI y.1) (nI hs) (nI z.1) fl dr s.2.1 st fg ie pe la rm ln lw t.2.1 s.2.2.1 y.2.1 z.2.1 pr_ct := by
  have C0 := C
  obtain ⟨⟨c1, c2, c3, c4, c5, c6, c7, c8⟩, ok, q, pq, qz, hl, hq⟩ := C0
  have lenA : (ds ++ [0]).length = ds.length + 1 := by rw [List.length_append]; rfl
  have okA : pe_ok 3 (ds ++ [0]) := pe_oka h1.1 (by omega)
  have eA : ds.length < 32 → lN (pe_enc ds) ||| ((nI 0).toInt64 <<< ((2 * nI ds.length).toInt64 &&& 63)) = lN (pe_enc (ds ++ [0])) := fun c => by
    rw [nI_l (by omega)]; exact pb_push (pe_okm h1.1 (by omega)) c (by omega)
  refine pk_lt Ls p (fun e => absurd e (by omega)) (fun _ => pk_le Ls p (fun e => absurd e (by omega)) (fun _ => ⟨vp_in_nI hp (by omega), nm_e (nm_r ha (nm_e (pk_le 10 a (fun e => absurd e (by omega)) (fun _ => nm_r hi8 (br_f (by decide) (br_f (by decide) (br_t rfl (?_))))))))⟩))
  refine xq_st (m := 97) C hfl (pr_v (m := 97) (by decide) _) (by omega) (fun r s w o' hw => ?_) (fun r => ?_)
  · have C' : ty_C lc ic oc (L + 1) hi ho hu hs s t y z pe rm (upd lw L w) := ⟨⟨c1, c2, c3, c4, c5, c6, r, c8⟩, o', q, pq, qz, ty_lPush hl hw, hq⟩
    refine br_f (by decide) (br_f (by decide) (br_f (by decide) (br_f (by decide) (br_f (by decide) (pk_lt ds.length 32 (fun c => nm_r (eA c) (nm_r (e' := nI (ds ++ [0]).length) (by rw [lenA]; exact nI_1 _) (pr_goK (L := L + 1) H (by omega) hic hfl C' ?_))) (fun c => pr_goK (L := L + 1) H (by omega) hic hfl C' ?_))))))
    · refine ⟨ds ++ [0], cs, d, ⟨okA, by omega, rfl, rfl⟩, ⟨h2.1, h2.2, rfl, rfl⟩, h3, by omega, fun e => ?_⟩
      obtain ⟨a1, a2, a3, a4, a5⟩ := h5 e
      refine ⟨a1, a2, by omega, ?_, a5⟩
      rw [pe_usA, Nat.zero_add, pk_us, pe_usE (a := upd ln L (nI 97)) (b := ln) L 0 (fun j _ hj => pk_un (by omega)), a4, List.map_append]
      rfl
    · exact pr_Jbad ds cs d (L + 1) x9 1 dr t y _ h1 h2 h3 (by omega) (fun e => by have := (h5 e).2.2.1; omega)
  · have e1 : dr + 1 = nI (d + 1) := by rw [h3]; exact nI_1 d
    refine br_f (by decide) (br_f (by decide) (br_f (by decide) (br_f (by decide) (br_f (by decide) (pk_lt ds.length 32 (fun c => nm_r (eA c) (nm_r (e' := nI (ds ++ [0]).length) (by rw [lenA]; exact nI_1 _) (pr_goK H (by omega) hic hfl C ?_))) (fun c => pr_goK H (by omega) hic hfl C ?_))))))
    · exact pr_Jbad (ds ++ [0]) cs (d + 1) L x9 x10 _ t y ln ⟨okA, by omega⟩ h2 e1 (by omega) (by omega)
    · exact pr_Jbad ds cs (d + 1) L x9 1 _ t y ln h1 h2 e1 (by omega) (by omega)
theorem pr_stb (hP : P 1) (hLs : Ls ≤ 260) (hp : p < Ls) {a : Nat} (ha : xs (nI p).toNatClampNeg &&& 15 = nI a) (ha10 : a < 10) (H : pr_H (p + 1) p (wL_law_60 P Ls xs kc ks n)) (hic : ic = 16) (hfl : ¬ fl &&& 1 = 0) (C : ty_C lc ic oc L hi ho hu hs s t y z pe rm lw) (h1 : pe_ok 3 ds ∧ ds.length ≤ 32) (h2 : pe_ok 4 cs ∧ cs.length ≤ 32) (h3 : dr = nI d) (h4 : d ≤ 40 * p) (h5 : d = 0 → x9 = 0 ∧ x10 = 0 ∧ ds.length = L ∧ pe_us ln L 0 = ds.map pe_by ∧ pe_u y ++ pe_i t = cs.map pe_by) (hi8 : ((xs (nI p).toNatClampNeg).toUInt32 >>> ((4 : Int32).toUInt32 &&& Int32.toUInt32 31)).toInt32 &&& 7 = nI 1) : wL_law_60 P Ls xs kc ks (n + 1) (lN (pe_enc ds)) (nI ds.length) (lN (pe_enc cs)) (nI cs.length) x9 x10 (nI p) (nI lc) (nI ic) (nI oc) (nI L) (nI hi) (nI t.1) (nI ho) (nI s.1) (nI hu) (nI y.1) (nI hs) (nI z.1) fl dr s.2.1 st fg ie pe la rm ln lw t.2.1 s.2.2.1 y.2.1 z.2.1 pr_ct := by
  have C0 := C
  obtain ⟨⟨c1, c2, c3, c4, c5, c6, c7, c8⟩, ok, q, pq, qz, hl, hq⟩ := C0
  have lenA : (ds ++ [1]).length = ds.length + 1 := by rw [List.length_append]; rfl
  have okA : pe_ok 3 (ds ++ [1]) := pe_oka h1.1 (by omega)
  have eA : ds.length < 32 → lN (pe_enc ds) ||| ((nI 1).toInt64 <<< ((2 * nI ds.length).toInt64 &&& 63)) = lN (pe_enc (ds ++ [1])) := fun c => by
    rw [nI_l (by omega)]; exact pb_push (pe_okm h1.1 (by omega)) c (by omega)
  refine pk_lt Ls p (fun e => absurd e (by omega)) (fun _ => pk_le Ls p (fun e => absurd e (by omega)) (fun _ => ⟨vp_in_nI hp (by omega), nm_e (nm_r ha (nm_e (pk_le 10 a (fun e => absurd e (by omega)) (fun _ => nm_r hi8 (br_f (by decide) (br_f (by decide) (br_f (by decide) (br_t rfl (?_)))))))))⟩))
  refine xq_st (m := 32) C hfl (pr_v (m := 32) (by decide) _) (by omega) (fun r s w o' hw => ?_) (fun r => ?_)
  · have C' : ty_C lc ic oc (L + 1) hi ho hu hs s t y z pe rm (upd lw L w) := ⟨⟨c1, c2, c3, c4, c5, c6, r, c8⟩, o', q, pq, qz, ty_lPush hl hw, hq⟩
    refine br_f (by decide) (br_f (by decide) (br_f (by decide) (br_f (by decide) (br_f (by decide) (pk_lt ds.length 32 (fun c => nm_r (eA c) (nm_r (e' := nI (ds ++ [1]).length) (by rw [lenA]; exact nI_1 _) (pr_goK (L := L + 1) H (by omega) hic hfl C' ?_))) (fun c => pr_goK (L := L + 1) H (by omega) hic hfl C' ?_))))))
    · refine ⟨ds ++ [1], cs, d, ⟨okA, by omega, rfl, rfl⟩, ⟨h2.1, h2.2, rfl, rfl⟩, h3, by omega, fun e => ?_⟩
      obtain ⟨a1, a2, a3, a4, a5⟩ := h5 e
      refine ⟨a1, a2, by omega, ?_, a5⟩
      rw [pe_usA, Nat.zero_add, pk_us, pe_usE (a := upd ln L (nI 32)) (b := ln) L 0 (fun j _ hj => pk_un (by omega)), a4, List.map_append]
      rfl
    · exact pr_Jbad ds cs d (L + 1) x9 1 dr t y _ h1 h2 h3 (by omega) (fun e => by have := (h5 e).2.2.1; omega)
  · have e1 : dr + 1 = nI (d + 1) := by rw [h3]; exact nI_1 d
    refine br_f (by decide) (br_f (by decide) (br_f (by decide) (br_f (by decide) (br_f (by decide) (pk_lt ds.length 32 (fun c => nm_r (eA c) (nm_r (e' := nI (ds ++ [1]).length) (by rw [lenA]; exact nI_1 _) (pr_goK H (by omega) hic hfl C ?_))) (fun c => pr_goK H (by omega) hic hfl C ?_))))))
    · exact pr_Jbad (ds ++ [1]) cs (d + 1) L x9 x10 _ t y ln ⟨okA, by omega⟩ h2 e1 (by omega) (by omega)
    · exact pr_Jbad ds cs (d + 1) L x9 1 _ t y ln h1 h2 e1 (by omega) (by omega)
theorem pr_stc (hP : P 1) (hLs : Ls ≤ 260) (hp : p < Ls) {a : Nat} (ha : xs (nI p).toNatClampNeg &&& 15 = nI a) (ha10 : a < 10) (H : pr_H (p + 1) p (wL_law_60 P Ls xs kc ks n)) (hic : ic = 16) (hfl : ¬ fl &&& 1 = 0) (C : ty_C lc ic oc L hi ho hu hs s t y z pe rm lw) (h1 : pe_ok 3 ds ∧ ds.length ≤ 32) (h2 : pe_ok 4 cs ∧ cs.length ≤ 32) (h3 : dr = nI d) (h4 : d ≤ 40 * p) (h5 : d = 0 → x9 = 0 ∧ x10 = 0 ∧ ds.length = L ∧ pe_us ln L 0 = ds.map pe_by ∧ pe_u y ++ pe_i t = cs.map pe_by) (hi8 : ((xs (nI p).toNatClampNeg).toUInt32 >>> ((4 : Int32).toUInt32 &&& Int32.toUInt32 31)).toInt32 &&& 7 = nI 2) : wL_law_60 P Ls xs kc ks (n + 1) (lN (pe_enc ds)) (nI ds.length) (lN (pe_enc cs)) (nI cs.length) x9 x10 (nI p) (nI lc) (nI ic) (nI oc) (nI L) (nI hi) (nI t.1) (nI ho) (nI s.1) (nI hu) (nI y.1) (nI hs) (nI z.1) fl dr s.2.1 st fg ie pe la rm ln lw t.2.1 s.2.2.1 y.2.1 z.2.1 pr_ct := by
  have C0 := C
  obtain ⟨⟨c1, c2, c3, c4, c5, c6, c7, c8⟩, ok, q, pq, qz, hl, hq⟩ := C0
  have lenA : (ds ++ [2]).length = ds.length + 1 := by rw [List.length_append]; rfl
  have okA : pe_ok 3 (ds ++ [2]) := pe_oka h1.1 (by omega)
  have eA : ds.length < 32 → lN (pe_enc ds) ||| ((nI 2).toInt64 <<< ((2 * nI ds.length).toInt64 &&& 63)) = lN (pe_enc (ds ++ [2])) := fun c => by
    rw [nI_l (by omega)]; exact pb_push (pe_okm h1.1 (by omega)) c (by omega)
  refine pk_lt Ls p (fun e => absurd e (by omega)) (fun _ => pk_le Ls p (fun e => absurd e (by omega)) (fun _ => ⟨vp_in_nI hp (by omega), nm_e (nm_r ha (nm_e (pk_le 10 a (fun e => absurd e (by omega)) (fun _ => nm_r hi8 (br_f (by decide) (br_f (by decide) (br_f (by decide) (br_f (by decide) (br_t rfl (?_))))))))))⟩))
  refine xq_st (m := 9) C hfl (pr_v (m := 9) (by decide) _) (by omega) (fun r s w o' hw => ?_) (fun r => ?_)
  · have C' : ty_C lc ic oc (L + 1) hi ho hu hs s t y z pe rm (upd lw L w) := ⟨⟨c1, c2, c3, c4, c5, c6, r, c8⟩, o', q, pq, qz, ty_lPush hl hw, hq⟩
    refine br_f (by decide) (br_f (by decide) (br_f (by decide) (br_f (by decide) (br_f (by decide) (pk_lt ds.length 32 (fun c => nm_r (eA c) (nm_r (e' := nI (ds ++ [2]).length) (by rw [lenA]; exact nI_1 _) (pr_goK (L := L + 1) H (by omega) hic hfl C' ?_))) (fun c => pr_goK (L := L + 1) H (by omega) hic hfl C' ?_))))))
    · refine ⟨ds ++ [2], cs, d, ⟨okA, by omega, rfl, rfl⟩, ⟨h2.1, h2.2, rfl, rfl⟩, h3, by omega, fun e => ?_⟩
      obtain ⟨a1, a2, a3, a4, a5⟩ := h5 e
      refine ⟨a1, a2, by omega, ?_, a5⟩
      rw [pe_usA, Nat.zero_add, pk_us, pe_usE (a := upd ln L (nI 9)) (b := ln) L 0 (fun j _ hj => pk_un (by omega)), a4, List.map_append]
      rfl
    · exact pr_Jbad ds cs d (L + 1) x9 1 dr t y _ h1 h2 h3 (by omega) (fun e => by have := (h5 e).2.2.1; omega)
  · have e1 : dr + 1 = nI (d + 1) := by rw [h3]; exact nI_1 d
    refine br_f (by decide) (br_f (by decide) (br_f (by decide) (br_f (by decide) (br_f (by decide) (pk_lt ds.length 32 (fun c => nm_r (eA c) (nm_r (e' := nI (ds ++ [2]).length) (by rw [lenA]; exact nI_1 _) (pr_goK H (by omega) hic hfl C ?_))) (fun c => pr_goK H (by omega) hic hfl C ?_))))))
    · exact pr_Jbad (ds ++ [2]) cs (d + 1) L x9 x10 _ t y ln ⟨okA, by omega⟩ h2 e1 (by omega) (by omega)
    · exact pr_Jbad ds cs (d + 1) L x9 1 _ t y ln h1 h2 e1 (by omega) (by omega)
theorem pr_er (hP : P 1) (hLs : Ls ≤ 260) (hp : p < Ls) {a : Nat} (ha : xs (nI p).toNatClampNeg &&& 15 = nI a) (ha10 : a < 10) (H : pr_H (p + 1) p (wL_law_60 P Ls xs kc ks n)) (hic : ic = 16) (hfl : ¬ fl &&& 1 = 0) (C : ty_C lc ic oc L hi ho hu hs s t y z pe rm lw) (h1 : pe_ok 3 ds ∧ ds.length ≤ 32) (h2 : pe_ok 4 cs ∧ cs.length ≤ 32) (h3 : dr = nI d) (h4 : d ≤ 40 * p) (h5 : d = 0 → x9 = 0 ∧ x10 = 0 ∧ ds.length = L ∧ pe_us ln L 0 = ds.map pe_by ∧ pe_u y ++ pe_i t = cs.map pe_by) (hi8 : ((xs (nI p).toNatClampNeg).toUInt32 >>> ((4 : Int32).toUInt32 &&& Int32.toUInt32 31)).toInt32 &&& 7 = nI 3) : wL_law_60 P Ls xs kc ks (n + 1) (lN (pe_enc ds)) (nI ds.length) (lN (pe_enc cs)) (nI cs.length) x9 x10 (nI p) (nI lc) (nI ic) (nI oc) (nI L) (nI hi) (nI t.1) (nI ho) (nI s.1) (nI hu) (nI y.1) (nI hs) (nI z.1) fl dr s.2.1 st fg ie pe la rm ln lw t.2.1 s.2.2.1 y.2.1 z.2.1 pr_ct := by
  have C0 := C
  obtain ⟨⟨c1, c2, c3, c4, c5, c6, c7, c8⟩, ok, q, pq, qz, hl, hq⟩ := C0
  refine pk_lt Ls p (fun e => absurd e (by omega)) (fun _ => pk_le Ls p (fun e => absurd e (by omega)) (fun _ => ⟨vp_in_nI hp (by omega), nm_e (nm_r ha (nm_e (pk_le 10 a (fun e => absurd e (by omega)) (fun _ => nm_r hi8 (br_f (by decide) (br_f (by decide) (br_f (by decide) (br_f (by decide) (br_f (by decide) (br_t rfl (?_)))))))))))⟩))
  refine xq_er C hfl (pr_v (m := 127) (by omega) _) (fun s o' => ?_)
  have C' : ty_C lc ic oc (L - 1) hi ho hu hs s t y z pe rm lw := ⟨⟨c1, c2, c3, c4, c5, c6, by omega, c8⟩, o', q, pq, qz, ty_lLess hl (by omega), hq⟩
  refine br_t rfl (pk_le ds.length 0 (fun e => pr_goK (L := L - 1) H (by omega) hic hfl C' ?_) (fun e => nm_r (e' := nI (ds.length - 1)) (by rw [ty_m1, ty_pred e]) ?_))
  · have g := pr_Jtk (k := p + 1) ds.length (L - 1) h1 h2 h3 (by omega) h5 (Nat.le_refl _) (fun z0 => by have := (h5 z0).2.2.1; omega)
    rw [List.take_length] at g
    exact g
  · refine pb_keep (pe_okm h1.1 (by omega)) h1.2 (by omega) ?_
    exact pr_goK (L := L - 1) H (by omega) hic hfl C' (pr_Jtk (ds.length - 1) (L - 1) h1 h2 h3 (by omega) h5 (by omega) (fun z0 => by have := (h5 z0).2.2.1; omega))
theorem pr_we (hP : P 1) (hLs : Ls ≤ 260) (hp : p < Ls) {a : Nat} (ha : xs (nI p).toNatClampNeg &&& 15 = nI a) (ha10 : a < 10) (H : pr_H (p + 1) p (wL_law_60 P Ls xs kc ks n)) (hic : ic = 16) (hfl : ¬ fl &&& 1 = 0) (C : ty_C lc ic oc L hi ho hu hs s t y z pe rm lw) (h1 : pe_ok 3 ds ∧ ds.length ≤ 32) (h2 : pe_ok 4 cs ∧ cs.length ≤ 32) (h3 : dr = nI d) (h4 : d ≤ 40 * p) (h5 : d = 0 → x9 = 0 ∧ x10 = 0 ∧ ds.length = L ∧ pe_us ln L 0 = ds.map pe_by ∧ pe_u y ++ pe_i t = cs.map pe_by) (hi8 : ((xs (nI p).toNatClampNeg).toUInt32 >>> ((4 : Int32).toUInt32 &&& Int32.toUInt32 31)).toInt32 &&& 7 = nI 4) : wL_law_60 P Ls xs kc ks (n + 1) (lN (pe_enc ds)) (nI ds.length) (lN (pe_enc cs)) (nI cs.length) x9 x10 (nI p) (nI lc) (nI ic) (nI oc) (nI L) (nI hi) (nI t.1) (nI ho) (nI s.1) (nI hu) (nI y.1) (nI hs) (nI z.1) fl dr s.2.1 st fg ie pe la rm ln lw t.2.1 s.2.2.1 y.2.1 z.2.1 pr_ct := by
  have C0 := C
  obtain ⟨⟨c1, c2, c3, c4, c5, c6, c7, c8⟩, ok, q, pq, qz, hl, hq⟩ := C0
  have le1 : ty_ww ln (ty_wb ln L) ≤ L := Nat.le_trans (ty_wwle _ _) (ty_wble _ _)
  have le2 : pm_w ds (pm_b ds ds.length) ≤ ds.length := Nat.le_trans (ty_wsle _ _) (ty_wsle _ _)
  refine pk_lt Ls p (fun e => absurd e (by omega)) (fun _ => pk_le Ls p (fun e => absurd e (by omega)) (fun _ => ⟨vp_in_nI hp (by omega), nm_e (nm_r ha (nm_e (pk_le 10 a (fun e => absurd e (by omega)) (fun _ => nm_r hi8 (br_f (by decide) (br_f (by decide) (br_f (by decide) (br_f (by decide) (br_f (by decide) (br_f (by decide) (br_t rfl (?_))))))))))))⟩))
  refine xq_we C hfl (pr_v (m := 23) (by omega) _) (fun s o' => ?_)
  have C' : ty_C lc ic oc (ty_ww ln (ty_wb ln L)) hi ho hu hs s t y z pe rm lw := ⟨⟨c1, c2, c3, c4, c5, c6, by omega, c8⟩, o', q, pq, qz, ty_lLess hl le1, hq⟩
  refine br_f (by decide) (br_t rfl ⟨ds.length + 1, pr_164 h1.1 h1.2 ds.length (ds.length + 1) (Nat.le_refl _) (by omega) ?_⟩)
  refine pb_keep (pe_okm h1.1 (by omega)) h1.2 (by omega) ?_
  exact pr_goK (L := ty_ww ln (ty_wb ln L)) H (by omega) hic hfl C' (pr_Jtk _ _ h1 h2 h3 (by omega) h5 le2 (fun z0 => pm_eq h1.1 (h5 z0).2.2.1 (h5 z0).2.2.2.1))
theorem pr_ki (hP : P 1) (hLs : Ls ≤ 260) (hp : p < Ls) {a : Nat} (ha : xs (nI p).toNatClampNeg &&& 15 = nI a) (ha10 : a < 10) (H : pr_H (p + 1) p (wL_law_60 P Ls xs kc ks n)) (hic : ic = 16) (hfl : ¬ fl &&& 1 = 0) (C : ty_C lc ic oc L hi ho hu hs s t y z pe rm lw) (h1 : pe_ok 3 ds ∧ ds.length ≤ 32) (h2 : pe_ok 4 cs ∧ cs.length ≤ 32) (h3 : dr = nI d) (h4 : d ≤ 40 * p) (h5 : d = 0 → x9 = 0 ∧ x10 = 0 ∧ ds.length = L ∧ pe_us ln L 0 = ds.map pe_by ∧ pe_u y ++ pe_i t = cs.map pe_by) (hi8 : ((xs (nI p).toNatClampNeg).toUInt32 >>> ((4 : Int32).toUInt32 &&& Int32.toUInt32 31)).toInt32 &&& 7 = nI 5) : wL_law_60 P Ls xs kc ks (n + 1) (lN (pe_enc ds)) (nI ds.length) (lN (pe_enc cs)) (nI cs.length) x9 x10 (nI p) (nI lc) (nI ic) (nI oc) (nI L) (nI hi) (nI t.1) (nI ho) (nI s.1) (nI hu) (nI y.1) (nI hs) (nI z.1) fl dr s.2.1 st fg ie pe la rm ln lw t.2.1 s.2.2.1 y.2.1 z.2.1 pr_ct := by
  have C0 := C
  obtain ⟨⟨c1, c2, c3, c4, c5, c6, c7, c8⟩, ok, q, pq, qz, hl, hq⟩ := C0
  refine pk_lt Ls p (fun e => absurd e (by omega)) (fun _ => pk_le Ls p (fun e => absurd e (by omega)) (fun _ => ⟨vp_in_nI hp (by omega), nm_e (nm_r ha (nm_e (pk_le 10 a (fun e => absurd e (by omega)) (fun _ => nm_r hi8 (br_f (by decide) (br_f (by decide) (br_f (by decide) (br_f (by decide) (br_f (by decide) (br_f (by decide) (br_f (by decide) (br_t rfl (?_)))))))))))))⟩))
  refine xq_ki C hfl (pr_v (m := 21) (by omega) _) (fun s o' => ?_)
  have C' : ty_C lc ic oc 0 hi ho hu hs s t y z pe rm lw := ⟨⟨c1, c2, c3, c4, c5, c6, by omega, c8⟩, o', q, pq, qz, ty_lLess hl (by omega), hq⟩
  have g : pr_J (p + 1) 0 0 (lN (pe_enc cs)) (nI cs.length) x9 x10 0 dr t y ln := pr_Jtk 0 0 h1 h2 h3 (by omega) h5 (by omega) (fun _ => rfl)
  exact br_f (by decide) (br_f (by decide) (br_t rfl (pr_goK (L := 0) H (by omega) hic hfl C' g)))
/-- the line's model taken away, the commit's put on -/
theorem pr_Jc (cs' : List Nat) (x10 dr : Int32) (d : Nat) (t : TyI) (b1 : pe_ok 4 cs') (b2 : cs'.length ≤ 32) (h3 : dr = nI d) (h4 : d ≤ 40 * k) (h5 : d = 0 → x9 = 0 ∧ x10 = 0 ∧ pe_u y ++ pe_i t = cs'.map pe_by) : pr_J k 0 0 (lN (pe_enc cs')) (nI cs'.length) x9 x10 0 dr t y ln :=
  ⟨[], cs', d, ⟨pe_ok0 3, Nat.zero_le _, rfl, rfl⟩, ⟨b1, b2, rfl, rfl⟩, h3, h4, fun e => ⟨(h5 e).1, (h5 e).2.1, rfl, rfl, (h5 e).2.2⟩⟩
theorem pr_pli (x : Int32) (a4 : pe_us ln L 0 = ds.map pe_by) : pe_i (ty_pl hi ln L 0 t) = pe_i t ++ ds.map pe_by := by
  rw [pe_pl hi ln L 0 t (fun j _ hj => ?_), a4]
  have e := pe_usAt L 0 ds a4 j (by omega)
  rw [Nat.zero_add] at e
  rw [e]; exact pr_by2 _
theorem pr_ef (hP : P 1) (hLs : Ls ≤ 260) (hp : p < Ls) {a : Nat} (ha : xs (nI p).toNatClampNeg &&& 15 = nI a) (ha10 : a < 10) (H : pr_H (p + 1) p (wL_law_60 P Ls xs kc ks n)) (hic : ic = 16) (hfl : ¬ fl &&& 1 = 0) (C : ty_C lc ic oc L hi ho hu hs s t y z pe rm lw) (h1 : pe_ok 3 ds ∧ ds.length ≤ 32) (h2 : pe_ok 4 cs ∧ cs.length ≤ 32) (h3 : dr = nI d) (h4 : d ≤ 40 * p) (h5 : d = 0 → x9 = 0 ∧ x10 = 0 ∧ ds.length = L ∧ pe_us ln L 0 = ds.map pe_by ∧ pe_u y ++ pe_i t = cs.map pe_by) (hy : dr = 0 → y.1 = 0) (hi8 : ((xs (nI p).toNatClampNeg).toUInt32 >>> ((4 : Int32).toUInt32 &&& Int32.toUInt32 31)).toInt32 &&& 7 = nI 6) : wL_law_60 P Ls xs kc ks (n + 1) (lN (pe_enc ds)) (nI ds.length) (lN (pe_enc cs)) (nI cs.length) x9 x10 (nI p) (nI lc) (nI ic) (nI oc) (nI L) (nI hi) (nI t.1) (nI ho) (nI s.1) (nI hu) (nI y.1) (nI hs) (nI z.1) fl dr s.2.1 st fg ie pe la rm ln lw t.2.1 s.2.2.1 y.2.1 z.2.1 pr_ct := by
  have C0 := C
  obtain ⟨⟨c1, c2, c3, c4, c5, c6, c7, c8⟩, ok, q, pq, qz, hl, hq⟩ := C0
  have hl0 : ty_l lw 0 := fun j hj => absurd hj (Nat.not_lt_zero j)
  refine pk_lt Ls p (fun e => absurd e (by omega)) (fun _ => pk_le Ls p (fun e => absurd e (by omega)) (fun _ => ⟨vp_in_nI hp (by omega), nm_e (nm_r ha (nm_e (pk_le 10 a (fun e => absurd e (by omega)) (fun _ => nm_r hi8 (br_f (by decide) (br_f (by decide) (br_f (by decide) (br_f (by decide) (br_f (by decide) (br_f (by decide) (br_f (by decide) (br_f (by decide) (br_t rfl (?_))))))))))))))⟩))
  refine xq_ef C hfl (pr_v (m := 4) (by omega) _) (fun r => ?_) (fun r => ?_)
  · refine br_f (by decide) (br_f (by decide) (br_f (by decide) (br_t rfl ⟨ds.length + 1, ?_⟩)))
    refine pr_249 h1.1 h1.2 ds.length 0 (ds.length + 1) cs x10 (by omega) (by omega) h2.1 h2.2 (fun n' cs' x10' b1 b2 b3 => ?_)
    refine pk_le ds.length ds.length (fun _ => br_f (by decide) ?_) (fun e => absurd e (by omega))
    refine pr_goK (L := 0) H (by omega) hic hfl (xq_pl (ln := ln) C 256 r) (pr_Jc cs' x10' dr d _ b1 b2 h3 (by omega) (fun e => ?_))
    obtain ⟨a1, a2, a3, a4, a5⟩ := h5 e
    have y0 : y.1 = 0 := hy (by rw [h3, e]; rfl)
    have le := pr_len a5 y0
    obtain ⟨f1, f2⟩ := b3 (by omega)
    rw [List.drop_zero] at f1
    refine ⟨a1, f2.trans a2, ?_⟩
    rw [pe_iIn0, pr_pli 0 a4, f1, List.map_append, ← a5, List.append_assoc]
  · have e1 : dr + nI L = nI (d + L) := by rw [h3]; exact nI_add d L
    have C' : ty_C lc ic oc 0 hi ho hu hs s t y z pe rm lw := ⟨⟨c1, c2, c3, c4, c5, c6, by omega, c8⟩, ok, q, pq, qz, hl0, hq⟩
    refine br_f (by decide) (br_f (by decide) (br_f (by decide) (br_t rfl ⟨ds.length + 1, ?_⟩)))
    refine pr_249 h1.1 h1.2 ds.length 0 (ds.length + 1) cs x10 (by omega) (by omega) h2.1 h2.2 (fun n' cs' x10' b1 b2 b3 => ?_)
    refine pk_le ds.length ds.length (fun _ => br_f (by decide) ?_) (fun e => absurd e (by omega))
    refine pr_goK (L := 0) H (by omega) hic hfl C' (pr_Jc cs' x10' _ (d + L) _ b1 b2 e1 (by omega) (fun e => ?_))
    obtain ⟨a1, a2, a3, a4, a5⟩ := h5 (by omega)
    have l0 : ds = [] := List.length_eq_zero_iff.mp (by omega)
    subst l0
    obtain ⟨f1, f2⟩ := b3 (by have := h2.2; exact this)
    refine ⟨a1, f2.trans a2, ?_⟩
    rw [f1, a5]
    simp
theorem pr_nl (hP : P 1) (hLs : Ls ≤ 260) (hp : p < Ls) {a : Nat} (ha : xs (nI p).toNatClampNeg &&& 15 = nI a) (ha10 : a < 10) (H : pr_H (p + 1) p (wL_law_60 P Ls xs kc ks n)) (hic : ic = 16) (hfl : ¬ fl &&& 1 = 0) (C : ty_C lc ic oc L hi ho hu hs s t y z pe rm lw) (h1 : pe_ok 3 ds ∧ ds.length ≤ 32) (h2 : pe_ok 4 cs ∧ cs.length ≤ 32) (h3 : dr = nI d) (h4 : d ≤ 40 * p) (h5 : d = 0 → x9 = 0 ∧ x10 = 0 ∧ ds.length = L ∧ pe_us ln L 0 = ds.map pe_by ∧ pe_u y ++ pe_i t = cs.map pe_by) (hy : dr = 0 → y.1 = 0) (hi8 : ((xs (nI p).toNatClampNeg).toUInt32 >>> ((4 : Int32).toUInt32 &&& Int32.toUInt32 31)).toInt32 &&& 7 = nI 7) : wL_law_60 P Ls xs kc ks (n + 1) (lN (pe_enc ds)) (nI ds.length) (lN (pe_enc cs)) (nI cs.length) x9 x10 (nI p) (nI lc) (nI ic) (nI oc) (nI L) (nI hi) (nI t.1) (nI ho) (nI s.1) (nI hu) (nI y.1) (nI hs) (nI z.1) fl dr s.2.1 st fg ie pe la rm ln lw t.2.1 s.2.2.1 y.2.1 z.2.1 pr_ct := by
  have C0 := C
  obtain ⟨⟨c1, c2, c3, c4, c5, c6, c7, c8⟩, ok, q, pq, qz, hl, hq⟩ := C0
  have hl0 : ty_l lw 0 := fun j hj => absurd hj (Nat.not_lt_zero j)
  have push : ∀ cs' : List Nat, pe_ok 4 cs' → cs'.length < 32 → lN (pe_enc cs') ||| ((3 : Int64) <<< ((2 * nI cs'.length).toInt64 &&& 63)) = lN (pe_enc (cs' ++ [3])) := fun cs' a b => pb_push (c := 3) a b (by decide)
  have lenA : ∀ cs' : List Nat, (cs' ++ [3]).length = cs'.length + 1 := fun cs' => by rw [List.length_append]; rfl
  refine pk_lt Ls p (fun e => absurd e (by omega)) (fun _ => pk_le Ls p (fun e => absurd e (by omega)) (fun _ => ⟨vp_in_nI hp (by omega), nm_e (nm_r ha (nm_e (pk_le 10 a (fun e => absurd e (by omega)) (fun _ => nm_r hi8 (br_f (by decide) (br_t (by decide) (?_)))))))⟩))
  refine xq_nl C hfl (pr_v (m := 10) (by omega) _) (fun r s o' => ?_) (fun r => ?_)
  · have C1 : ty_C lc ic oc 0 hi ho hu hs s (ty_in hi 10 (ty_pl hi ln L 0 t)) y z pe rm lw := by
      obtain ⟨g1, g2, g3⟩ := xq_pl (ln := ln) C 10 r
      exact ⟨g1, o', g3⟩
    refine br_f (by decide) (br_f (by decide) (br_f (by decide) (br_f (by decide) (br_t rfl ⟨ds.length + 1, ?_⟩))))
    refine pr_249 h1.1 h1.2 ds.length 0 (ds.length + 1) cs x10 (by omega) (by omega) h2.1 h2.2 (fun n' cs' x10' b1 b2 b3 => ?_)
    have fit : d = 0 → cs' = cs ++ ds ∧ x10' = x10 ∧ cs'.length < 32 := fun e => by
      obtain ⟨a1, a2, a3, a4, a5⟩ := h5 e
      have y0 : y.1 = 0 := hy (by rw [h3, e]; rfl)
      have le := pr_len a5 y0
      obtain ⟨f1, f2⟩ := b3 (by omega)
      rw [List.drop_zero] at f1
      exact ⟨f1, f2, by rw [f1, List.length_append]; omega⟩
    refine pk_le ds.length ds.length (fun _ => br_t rfl (pk_lt cs'.length 32 (fun c => nm_r (push cs' b1 c) (nm_r (e' := nI (cs' ++ [3]).length) (by rw [lenA]; exact nI_1 _) ?_)) (fun c => ?_))) (fun e => absurd e (by omega))
    · refine pr_goK (L := 0) H (by omega) hic hfl C1 (pr_Jc (cs' ++ [3]) x10' dr d _ (pe_oka b1 (by omega)) (by rw [lenA]; exact c) h3 (by omega) (fun e => ?_))
      obtain ⟨a1, a2, a3, a4, a5⟩ := h5 e
      obtain ⟨f1, f2, f3⟩ := fit e
      refine ⟨a1, f2.trans a2, ?_⟩
      rw [pe_iIn1 hi _ (by decide), pr_pli 0 a4, f1, List.map_append, List.map_append, ← a5]
      simp only [List.append_assoc]
      rfl
    · exact pr_goK (L := 0) H (by omega) hic hfl C1 (pr_Jc cs' 1 dr d _ b1 b2 h3 (by omega) (fun e => absurd (fit e).2.2 (by omega)))
  · have e1 : dr + (nI L + 1) = nI (d + (L + 1)) := by rw [h3, nI_1]; exact nI_add d (L + 1)
    have C' : ty_C lc ic oc 0 hi ho hu hs s t y z pe rm lw := ⟨⟨c1, c2, c3, c4, c5, c6, by omega, c8⟩, ok, q, pq, qz, hl0, hq⟩
    refine br_f (by decide) (br_f (by decide) (br_f (by decide) (br_f (by decide) (br_t rfl ⟨ds.length + 1, ?_⟩))))
    refine pr_249 h1.1 h1.2 ds.length 0 (ds.length + 1) cs x10 (by omega) (by omega) h2.1 h2.2 (fun n' cs' x10' b1 b2 b3 => ?_)
    refine pk_le ds.length ds.length (fun _ => br_t rfl (pk_lt cs'.length 32 (fun c => nm_r (push cs' b1 c) (nm_r (e' := nI (cs' ++ [3]).length) (by rw [lenA]; exact nI_1 _) ?_)) (fun c => ?_))) (fun e => absurd e (by omega))
    · exact pr_goK (L := 0) H (by omega) hic hfl C' (pr_Jc (cs' ++ [3]) x10' _ (d + (L + 1)) _ (pe_oka b1 (by omega)) (by rw [lenA]; exact c) e1 (by omega) (fun e => absurd e (by omega)))
    · exact pr_goK (L := 0) H (by omega) hic hfl C' (pr_Jc cs' 1 _ (d + (L + 1)) _ b1 b2 e1 (by omega) (fun e => absurd e (by omega)))
end PC
