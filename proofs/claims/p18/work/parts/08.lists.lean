section PL
/-! the queues as lists -/
def pe_by (c : Nat) : Int32 := if c = 0 then 97 else if c = 1 then 32 else if c = 2 then 9 else 10
def pe_us (b : TyF) : Nat → Nat → List Int32
  | 0, _ => []
  | n + 1, i => b i :: pe_us b n (i + 1)
theorem pe_usA (b : TyF) : ∀ n i, pe_us b (n + 1) i = pe_us b n i ++ [b (i + n)] := by
  intro n
  induction n with
  | zero => intro i; rfl
  | succ n ih =>
    intro i
    show b i :: pe_us b (n + 1) (i + 1) = b i :: (pe_us b n (i + 1) ++ [b (i + (n + 1))])
    rw [ih (i + 1), show i + 1 + n = i + (n + 1) by omega]
theorem pe_usE {a b : TyF} : ∀ n i, (∀ j, i ≤ j → j < i + n → a j = b j) → pe_us a n i = pe_us b n i := by
  intro n
  induction n with
  | zero => intro i _; rfl
  | succ n ih =>
    intro i h
    show a i :: pe_us a n (i + 1) = b i :: pe_us b n (i + 1)
    rw [h i (by omega) (by omega), ih (i + 1) (fun j h1 h2 => h j (by omega) (by omega))]
theorem pe_usS {a b : TyF} : ∀ n i, (∀ j, i ≤ j → j < i + n → a j = b (j + 1)) → pe_us a n i = pe_us b n (i + 1) := by
  intro n
  induction n with
  | zero => intro i _; rfl
  | succ n ih =>
    intro i h
    show a i :: pe_us a n (i + 1) = b (i + 1) :: pe_us b n (i + 1 + 1)
    rw [h i (by omega) (by omega), ih (i + 1) (fun j h1 h2 => h j (by omega) (by omega))]
theorem pe_usL (b : TyF) : ∀ n i, (pe_us b n i).length = n := by
  intro n
  induction n with
  | zero => intro i; rfl
  | succ n ih => intro i; show (pe_us b n (i + 1)).length + 1 = n + 1; rw [ih]
def pe_u (t : TyI) : List Int32 := pe_us t.2.2 t.1 0
def pe_i (t : TyI) : List Int32 := (pe_u t).filter (fun x => decide (¬ x = 256))
theorem pe_uIn (h : Nat) (x : Int32) (t : TyI) : pe_u (ty_in h x t) = pe_u t ++ [x] := by
  show pe_us (upd t.2.2 t.1 x) (t.1 + 1) 0 = pe_us t.2.2 t.1 0 ++ [x]
  rw [pe_usA, Nat.zero_add, pk_us, pe_usE (a := upd t.2.2 t.1 x) (b := t.2.2) t.1 0 (fun j _ hj => pk_un (by omega))]
theorem pe_uRm {t : TyI} (h : 0 < t.1) : pe_u t = t.2.2 0 :: pe_u (ty_rm t) := by
  obtain ⟨n, a, b⟩ := t
  obtain ⟨m, rfl⟩ : ∃ m, n = m + 1 := ⟨n - 1, by have : 0 < n := h; omega⟩
  show b 0 :: pe_us b m 1 = b 0 :: pe_us (ty_sh b (m + 1)) m 0
  rw [pe_usS (a := ty_sh b (m + 1)) (b := b) m 0 (fun j _ hj => ty_shd (by omega))]
theorem pe_u0 {t : TyI} (h : t.1 = 0) : pe_u t = [] := by
  unfold pe_u; rw [h]; rfl
theorem pe_iIn1 (h : Nat) {x : Int32} (t : TyI) (e : ¬ x = 256) : pe_i (ty_in h x t) = pe_i t ++ [x] := by
  unfold pe_i; rw [pe_uIn, List.filter_append]; simp [e]
theorem pe_iIn0 (h : Nat) (t : TyI) : pe_i (ty_in h 256 t) = pe_i t := by
  unfold pe_i; rw [pe_uIn, List.filter_append]; simp
theorem pe_iRm1 {t : TyI} (h : 0 < t.1) (e : ¬ t.2.2 0 = 256) : pe_i t = t.2.2 0 :: pe_i (ty_rm t) := by
  unfold pe_i; rw [pe_uRm h]; simp [e]
theorem pe_iRm0 {t : TyI} (h : 0 < t.1) (e : t.2.2 0 = 256) : pe_i t = pe_i (ty_rm t) := by
  unfold pe_i; rw [pe_uRm h]; simp [e]
theorem pe_pl (h : Nat) (ln : TyF) : ∀ (d k : Nat) (t : TyI), (∀ j, k ≤ j → j < k + d → ¬ ln j = 256) → pe_i (ty_pl h ln d k t) = pe_i t ++ pe_us ln d k := by
  intro d
  induction d with
  | zero => intro k t _; exact (List.append_nil _).symm
  | succ d ih =>
    intro k t hk
    show pe_i (ty_pl h ln d (k + 1) (ty_in h (ln k) t)) = pe_i t ++ (ln k :: pe_us ln d (k + 1))
    rw [ih (k + 1) _ (fun j h1 h2 => hk j (by omega) (by omega)), pe_iIn1 h t (hk k (by omega) (by omega)), List.append_assoc]
    rfl
/-- a delivery moves the input's entries to the user buffer, in order, and drops marks alone -/
theorem pe_dl {hu r : Nat} : ∀ (n c h : Nat) (t y : TyI), t.1 = n → pe_u (ty_dl hu r n c h t y).2.2.2 ++ pe_i (ty_dl hu r n c h t y).2.2.1 = pe_u y ++ pe_i t := by
  intro n
  induction n with
  | zero => intro c h t y _; rfl
  | succ n ih =>
    intro c h t y e
    have h0 : 0 < t.1 := by omega
    unfold ty_dl
    by_cases c1 : t.2.2 0 = 256
    · rw [if_pos c1]
      show pe_u y ++ pe_i (ty_rm t) = pe_u y ++ pe_i t
      rw [pe_iRm0 h0 c1]
    · rw [if_neg c1]
      have k : pe_u (ty_in hu (t.2.2 0) y) ++ pe_i (ty_rm t) = pe_u y ++ pe_i t := by
        rw [pe_uIn, pe_iRm1 h0 c1, List.append_assoc]; rfl
      by_cases c2 : c = r
      · rw [if_pos c2]
      · rw [if_neg c2]
        by_cases c3 : t.2.2 0 = 10
        · rw [if_pos c3]; exact k
        · rw [if_neg c3, ih (c + 1) ((h + 1) % 64) (ty_rm t) (ty_in hu (t.2.2 0) y) (by show t.1 - 1 = n; omega)]
          exact k
theorem pe_ck {fl pe la rm ie : Int32} {ct : TyF} {hi hu : Nat} {t y : TyI} (b : ¬ fl &&& 1 = 0) : pe_u (ty_ck fl pe la rm ie ct hi hu t y).2.2.1 ++ pe_i (ty_ck fl pe la rm ie ct hi hu t y).2.1 = pe_u y ++ pe_i t := by
  unfold ty_ck
  by_cases a : pe = 0
  · rw [if_pos a]
  · rw [if_neg a, if_neg b]
    by_cases c : ty_an t.2.2 t.1 0 = true
    · rw [if_pos c]; exact pe_dl t.1 0 hi t y rfl
    · rw [if_neg c]
end PL
