/-! ===== the tape's tokens: the reference ===== -/
def y_t (μ : ZMem) (p f : Int) : ZMem := zUp (zUp μ 0 23 p) 0 24 f
def y_T (T : Int → Int) (E : Int) (μ : ZMem) : Prop := μ 0 22 = E ∧ ∀ i, 0 ≤ i → i < E → μ 15 i = T i
def q_lg (T : Int → Int) (E : Int) : Nat → Int → Nat
  | 0, _ => 0
  | n + 1, x => if E ≤ x then 0 else if 97 ≤ T x ∧ T x ≤ 122 then q_lg T E n (x + 1) + 1 else 0
def q_ls (T : Int → Int) (E x : Int) : Nat := q_lg T E 401 x
section TY
variable {T : Int → Int} {E p f x lo hi : Int} {μ : ZMem} {j : Nat}
theorem y_t_p (p' : Int) : zUp (y_t μ p f) 0 23 p' = y_t μ p' f := by
  unfold y_t
  rw [zUp_swap (by decide), zUp_twice]
theorem y_t_f (f' : Int) : zUp (y_t μ p f) 0 24 f' = y_t μ p f' := zUp_twice _ _ _ _ _
theorem y_t_0 {k : Int} (h1 : k ≠ 23) (h2 : k ≠ 24) : y_t μ p f 0 k = μ 0 k := by
  unfold y_t
  rw [zUp_at, q_up_ne h2, zUp_at, q_up_ne h1]
theorem y_t_23 : y_t μ p f 0 23 = p := by
  unfold y_t
  rw [zUp_at, q_up_ne (by decide), zUp_at, q_up_at]
theorem y_t_24 : y_t μ p f 0 24 = f := by
  unfold y_t
  rw [zUp_at, q_up_at]
theorem y_t_c {c : Nat} (h : c ≠ 0) : y_t μ p f c = μ c := by
  unfold y_t
  rw [zUp_ne h, zUp_ne h]
theorem y_here_loop (hT : q_T T E) (h : y_T T E μ) (K : ZMem → Option ZRes) : ∀ (k n : Nat) (p : Int), 0 ≤ p → p ≤ E → E - p ≤ k → k < n → L_Model_here_0 K n (y_t μ p f) = K (y_t μ (q_sk T E k p) f)
  | 0, n, p, p0, p1, hk, hn => by
    obtain ⟨n, rfl⟩ : ∃ i, n = i + 1 := ⟨n - 1, by omega⟩
    have := hT.1
    rw [L_Model_here_0, y_t_0 (by decide) (by decide), y_t_23, h.1, w32_of (by omega) (by omega), w32_of (by omega) (by omega), if_pos (by omega), q_sk]
  | k + 1, n, p, p0, p1, hk, hn => by
    obtain ⟨n, rfl⟩ : ∃ i, n = i + 1 := ⟨n - 1, by omega⟩
    have hE := hT.1
    rw [L_Model_here_0, y_t_0 (by decide) (by decide), y_t_23, h.1, w32_of (by omega) (by omega), w32_of (by omega) (by omega), q_sk]
    by_cases e : E ≤ p
    · rw [if_pos e, if_pos e]
    · have tb := hT.2 p p0 (by omega)
      rw [if_neg e, if_neg e, zRd_ok (by omega) (by omega) (by omega), y_t_c (by decide), h.2 p p0 (by omega), w32_of (by omega) (by omega), w32_of (by decide) (by decide)]
      by_cases e2 : T p = 32
      · rw [if_pos e2, if_pos e2, zLet_eq, y_t_p]
        exact y_here_loop hT h K k n (p + 1) (by omega) (by omega) (by omega) (by omega)
      · rw [if_neg e2, if_neg e2]
theorem y_here (hT : q_T T E) (h : y_T T E μ) (p0 : 0 ≤ p) (p1 : p ≤ E) : F_Model_here (y_t μ p f) = some (.inr (some (zI (q_nx T E p))), y_t μ (q_nx T E p) f) := by
  have hE := hT.1
  unfold F_Model_here
  show (_ : Option ZRes) = some (.inr (some (zI (q_sk T E (400 + 1) p))), y_t μ (q_sk T E (400 + 1) p) f)
  rw [y_t_0 (by decide) (by decide), y_t_23, h.1, w32_of (by omega) (by omega), w32_of (by omega) (by omega), q_sk]
  by_cases e : E ≤ p
  · rw [if_pos e, if_pos e]
  · have tb := hT.2 p p0 (by omega)
    rw [if_neg e, if_neg e, zRd_ok (by omega) (by omega) (by omega), y_t_c (by decide), h.2 p p0 (by omega), w32_of (by omega) (by omega), w32_of (by decide) (by decide)]
    by_cases e2 : T p = 32
    · rw [if_pos e2, if_pos e2, zLet_eq, y_t_p, y_here_loop hT h _ 400 zN (p + 1) (by omega) (by omega) (by omega) (zN_gt (by omega)), y_t_23]
    · rw [if_neg e2, if_neg e2]
theorem y_wrongY (a : Int) : F_Model_wrong a (y_t μ p (-1)) = some (.inr none, y_t μ p a) := by
  unfold F_Model_wrong
  rw [y_t_24, if_pos rfl, zLet_eq, y_t_f]
theorem y_wrongF (a : Int) (f0 : 0 ≤ f) (f1 : f ≤ 400) : F_Model_wrong a (y_t μ p f) = some (.inr none, y_t μ p f) := by
  unfold F_Model_wrong
  rw [y_t_24, w32_of (by omega) (by omega), w32_of (by decide) (by decide), if_neg (by omega)]
/-! words -/
theorem q_lg_in {T : Int → Int} {E : Int} : ∀ (n : Nat) (x : Int), x ≤ E → E - x ≤ n → (x + q_lg T E n x ≤ E) ∧ (∀ i : Nat, i < q_lg T E n x → 97 ≤ T (x + i) ∧ T (x + i) ≤ 122) ∧ (x + q_lg T E n x = E ∨ ¬ (97 ≤ T (x + q_lg T E n x) ∧ T (x + q_lg T E n x) ≤ 122))
  | 0, x, h0, h1 => ⟨by rw [q_lg]; omega, fun i hi => absurd hi (Nat.not_lt_zero _), Or.inl (by rw [q_lg]; omega)⟩
  | n + 1, x, h0, h1 => by
    rw [q_lg]
    by_cases e : E ≤ x
    · rw [if_pos e]; exact ⟨by omega, fun i hi => absurd hi (Nat.not_lt_zero _), Or.inl (by omega)⟩
    · rw [if_neg e]
      by_cases e2 : 97 ≤ T x ∧ T x ≤ 122
      · rw [if_pos e2]
        obtain ⟨a, b, c⟩ := q_lg_in (T := T) (E := E) n (x + 1) (by omega) (by omega)
        refine ⟨by omega, fun i hi => ?_, ?_⟩
        · by_cases hi0 : i = 0
          · subst hi0
            rw [show x + ((0 : Nat) : Int) = x by omega]; exact e2
          · have := b (i - 1) (by omega)
            rw [show x + 1 + ((i - 1 : Nat) : Int) = x + i by omega] at this
            exact this
        · rw [show x + ((q_lg T E n (x + 1) + 1 : Nat) : Int) = x + 1 + (q_lg T E n (x + 1) : Int) by omega]
          exact c
      · rw [if_neg e2]
        refine ⟨by omega, fun i hi => absurd hi (Nat.not_lt_zero _), Or.inr ?_⟩
        rw [show x + ((0 : Nat) : Int) = x by omega]; exact e2
theorem q_ls_in (hT : q_T T E) (x0 : 0 ≤ x) (x1 : x ≤ E) : (x + q_ls T E x ≤ E) ∧ (∀ i : Nat, i < q_ls T E x → 97 ≤ T (x + i) ∧ T (x + i) ≤ 122) ∧ (x + q_ls T E x = E ∨ ¬ (97 ≤ T (x + q_ls T E x) ∧ T (x + q_ls T E x) ≤ 122)) := q_lg_in 401 x x1 (by have := hT.1; omega)
theorem q_wd_iff (hT : q_T T E) (hj : j < 19) (x0 : 0 ≤ x) (x1 : x ≤ E) : q_wd T E j x ↔ ((q_ls T E x : Int) = zSl j ∧ ∀ i, 0 ≤ i → i < zSl j → T (x + i) = zSc j i) := by
  obtain ⟨l1, l2, l3⟩ := q_ls_in hT x0 x1
  have hl := zSl_in hj
  constructor
  · intro ⟨w1, w2, w3⟩
    refine ⟨?_, w2⟩
    by_cases a : (q_ls T E x : Int) < zSl j
    · exfalso
      have hs := zSc_in hj (show (0 : Int) ≤ q_ls T E x by omega) a
      rw [← w2 _ (by omega) a] at hs
      omega
    · by_cases b : zSl j < (q_ls T E x : Int)
      · exfalso
        have := l2 (zSl j).toNat (by omega)
        rw [Int.toNat_of_nonneg (by omega)] at this
        omega
      · omega
  · intro ⟨w1, w2⟩
    refine ⟨by omega, w2, ?_⟩
    rw [← w1]
    omega
theorem y_has_loop (hT : q_T T E) (h : y_T T E μ) (x0 : 0 ≤ x) (x1 : x ≤ E) (K : Int → Option ZRes) : ∀ (k n i : Nat), i + k = q_ls T E x → k < n → L_Model_has_5 j (y_t μ p f) K n (x + i) = K (x + q_ls T E x)
  | 0, n, i, hi', hn => by
    obtain ⟨n, rfl⟩ : ∃ i, n = i + 1 := ⟨n - 1, by omega⟩
    have hE := hT.1
    obtain ⟨d1, d2, d3⟩ := q_ls_in hT x0 x1
    obtain rfl : i = q_ls T E x := by omega
    rw [L_Model_has_5, y_t_0 (by decide) (by decide), h.1, w32_of (by omega) (by omega), w32_of (by omega) (by omega)]
    by_cases e : E ≤ x + q_ls T E x
    · rw [if_pos e]
    · have tb := hT.2 (x + q_ls T E x) (by omega) (by omega)
      rw [if_neg e, zRd_ok (by omega) (by omega) (by omega), y_t_c (by decide), h.2 _ (by omega) (by omega), w32_of (by omega) (by omega), z_isInN (by omega) (by omega) (by omega) (by decide) (by decide) (by decide) (by decide), zC_I, w32_of (by decide) (by decide), if_pos rfl]
  | k + 1, n, i, hi', hn => by
    obtain ⟨n, rfl⟩ : ∃ i, n = i + 1 := ⟨n - 1, by omega⟩
    have hE := hT.1
    obtain ⟨d1, d2, d3⟩ := q_ls_in hT x0 x1
    have db := d2 i (by omega)
    rw [L_Model_has_5, y_t_0 (by decide) (by decide), h.1, w32_of (by omega) (by omega), w32_of (by omega) (by omega), if_neg (by omega), zRd_ok (by omega) (by omega) (by omega), y_t_c (by decide), h.2 _ (by omega) (by omega), w32_of (by omega) (by omega), z_isInY db.1 db.2 (by decide) (by decide), zC_I, w32_of (by decide) (by decide), if_neg (by decide), zLet_eq, show x + (i : Int) + 1 = x + ((i + 1 : Nat) : Int) by omega]
    exact y_has_loop hT h x0 x1 K k n (i + 1) (by omega) (by omega)
theorem y_cmpY (hT : q_T T E) (h : y_T T E μ) (hj : j < 19) (x0 : 0 ≤ x) (hw : x + zSl j ≤ E) (hc : ∀ i, 0 ≤ i → i < zSl j → T (x + i) = zSc j i) (c2 : Int) (K : Option ZRes) : ∀ (k n : Nat) (i : Int), 0 ≤ i → i + k = zSl j → k < n → L_Model_has_63 j c2 (y_t μ x f) K n i = K
  | 0, n, i, i0, hi, hn => by
    obtain ⟨n, rfl⟩ : ∃ i, n = i + 1 := ⟨n - 1, by omega⟩
    have hE := hT.1
    rw [L_Model_has_63]
    rw [zSln_ok hj, w32_of (by omega) (by omega), w32_of (by omega) (by omega), if_pos (by omega)]
  | k + 1, n, i, i0, hi, hn => by
    obtain ⟨n, rfl⟩ : ∃ i, n = i + 1 := ⟨n - 1, by omega⟩
    have hE := hT.1
    have hs := zSc_in hj i0 (show i < zSl j by omega)
    rw [L_Model_has_63]
    rw [zSln_ok hj, w32_of (by omega) (by omega), w32_of (by omega) (by omega), if_neg (by omega), y_t_23, zRd_ok (by omega) (by omega) (by omega), y_t_c (by decide), h.2 (x + i) (by omega) (by omega), hc i i0 (by omega), zSch_ok hj i0 (by omega), if_pos rfl, zLet_eq]
    exact y_cmpY hT h hj x0 hw hc c2 K k n (i + 1) (by omega) (by omega) (by omega)
theorem y_cmpN (hT : q_T T E) (h : y_T T E μ) (hj : j < 19) (x0 : 0 ≤ x) (hw : x + zSl j ≤ E) (c2 : Int) (K : Option ZRes) : ∀ (k n : Nat) (i : Int), 0 ≤ i → i + k = zSl j → k < n → (¬ ∀ i', i ≤ i' → i' < zSl j → T (x + i') = zSc j i') → L_Model_has_63 j c2 (y_t μ x f) K n i = some (.inr (some (zI 0)), y_t μ x f)
  | 0, n, i, i0, hi, hn, hc => by
    exfalso
    exact hc (fun i' a b => by omega)
  | k + 1, n, i, i0, hi, hn, hc => by
    obtain ⟨n, rfl⟩ : ∃ i, n = i + 1 := ⟨n - 1, by omega⟩
    have hE := hT.1
    have hs := zSc_in hj i0 (show i < zSl j by omega)
    have tb := hT.2 (x + i) (by omega) (by omega)
    rw [L_Model_has_63]
    rw [zSln_ok hj, w32_of (by omega) (by omega), w32_of (by omega) (by omega), if_neg (by omega), y_t_23, zRd_ok (by omega) (by omega) (by omega), y_t_c (by decide), h.2 (x + i) (by omega) (by omega), zSch_ok hj i0 (by omega), w32_of (by omega) (by omega), w32_of (by omega) (by omega)]
    by_cases e : T (x + i) = zSc j i
    · rw [if_pos e, zLet_eq]
      refine y_cmpN hT h hj x0 hw c2 K k n (i + 1) (by omega) (by omega) (by omega) (fun q => hc (fun i' a b => ?_))
      by_cases e2 : i' = i
      · rw [e2]; exact e
      · exact q i' (by omega) b
    · rw [if_neg e]
theorem y_hasY (hT : q_T T E) (h : y_T T E μ) (hj : j < 19) (p0 : 0 ≤ p) (p1 : p ≤ E) (hw : q_wd T E j (q_nx T E p)) : F_Model_has j (y_t μ p (-1)) = some (.inr (some (zI 1)), y_t μ (q_nx T E p + zSl j) (-1)) := by
  have hE := hT.1
  have hx := q_nx_in hT p0 p1
  have hl := zSl_in hj
  obtain ⟨i1, i2⟩ := (q_wd_iff hT hj (show 0 ≤ q_nx T E p by omega) hx.2.1).mp hw
  obtain ⟨l1, l2, l3⟩ := q_ls_in (x := q_nx T E p) hT (by omega) hx.2.1
  unfold F_Model_has
  rw [y_here hT h p0 p1, zC_I]
  have := y_has_loop (j := j) (p := q_nx T E p) (f := -1) hT h (show 0 ≤ q_nx T E p by omega) hx.2.1 (fun k7 => if w32 (y_t μ (q_nx T E p) (-1) 0 24) = w32 (-1) then (zSln j (fun x8 => if w32 (k7 - (y_t μ (q_nx T E p) (-1) 0 23)) = w32 x8 then (L_Model_has_63 j k7 (y_t μ (q_nx T E p) (-1)) (zLet (zUp (y_t μ (q_nx T E p) (-1)) 0 23 k7) (fun μ13 => some (.inr (some (zI 1)), μ13))) zN 0) else (some (.inr (some (zI 0)), y_t μ (q_nx T E p) (-1))))) else (some (.inr (some (zI 0)), y_t μ (q_nx T E p) (-1)))) (q_ls T E (q_nx T E p)) zN 0 (by omega) (zN_gt (by omega))
  rw [show q_nx T E p + ((0 : Nat) : Int) = q_nx T E p by omega] at this
  refine this.trans ?_
  rw [y_t_24, if_pos rfl, zSln_ok hj, y_t_23, i1, show q_nx T E p + zSl j - q_nx T E p = zSl j by omega, if_pos rfl, zLet_eq, y_t_p]
  exact y_cmpY hT h hj (show 0 ≤ q_nx T E p by omega) (by omega) i2 _ _ (zSl j).toNat zN 0 (by decide) (by omega) (zN_gt (by omega))
theorem y_hasN (hT : q_T T E) (h : y_T T E μ) (hj : j < 19) (p0 : 0 ≤ p) (p1 : p ≤ E) (hw : ¬ q_wd T E j (q_nx T E p)) : F_Model_has j (y_t μ p (-1)) = some (.inr (some (zI 0)), y_t μ (q_nx T E p) (-1)) := by
  have hE := hT.1
  have hx := q_nx_in hT p0 p1
  have hl := zSl_in hj
  have hi := q_wd_iff hT hj (show 0 ≤ q_nx T E p by omega) hx.2.1
  obtain ⟨l1, l2, l3⟩ := q_ls_in (x := q_nx T E p) hT (by omega) hx.2.1
  unfold F_Model_has
  rw [y_here hT h p0 p1, zC_I]
  have := y_has_loop (j := j) (p := q_nx T E p) (f := -1) hT h (show 0 ≤ q_nx T E p by omega) hx.2.1 (fun k7 => if w32 (y_t μ (q_nx T E p) (-1) 0 24) = w32 (-1) then (zSln j (fun x8 => if w32 (k7 - (y_t μ (q_nx T E p) (-1) 0 23)) = w32 x8 then (L_Model_has_63 j k7 (y_t μ (q_nx T E p) (-1)) (zLet (zUp (y_t μ (q_nx T E p) (-1)) 0 23 k7) (fun μ13 => some (.inr (some (zI 1)), μ13))) zN 0) else (some (.inr (some (zI 0)), y_t μ (q_nx T E p) (-1))))) else (some (.inr (some (zI 0)), y_t μ (q_nx T E p) (-1)))) (q_ls T E (q_nx T E p)) zN 0 (by omega) (zN_gt (by omega))
  rw [show q_nx T E p + ((0 : Nat) : Int) = q_nx T E p by omega] at this
  refine this.trans ?_
  rw [y_t_24, if_pos rfl, zSln_ok hj, y_t_23, show q_nx T E p + (q_ls T E (q_nx T E p) : Int) - q_nx T E p = q_ls T E (q_nx T E p) by omega, w32_of (by omega) (by omega), w32_of (by omega) (by omega)]
  by_cases e : (q_ls T E (q_nx T E p) : Int) = zSl j
  · rw [if_pos e]
    exact y_cmpN hT h hj (show 0 ≤ q_nx T E p by omega) (by omega) _ _ (zSl j).toNat zN 0 (by decide) (by omega) (zN_gt (by omega)) (fun q => hw (hi.mpr ⟨e, q⟩))
  · rw [if_neg e]
theorem y_hasF (hT : q_T T E) (h : y_T T E μ) (p0 : 0 ≤ p) (p1 : p ≤ E) (f0 : 0 ≤ f) (f1 : f ≤ 400) : F_Model_has j (y_t μ p f) = some (.inr (some (zI 0)), y_t μ (q_nx T E p) f) := by
  have hE := hT.1
  have hx := q_nx_in hT p0 p1
  obtain ⟨l1, l2, l3⟩ := q_ls_in (x := q_nx T E p) hT (by omega) hx.2.1
  unfold F_Model_has
  rw [y_here hT h p0 p1, zC_I]
  have := y_has_loop (j := j) (p := q_nx T E p) (f := f) hT h (show 0 ≤ q_nx T E p by omega) hx.2.1 (fun k7 => if w32 (y_t μ (q_nx T E p) f 0 24) = w32 (-1) then (zSln j (fun x8 => if w32 (k7 - (y_t μ (q_nx T E p) f 0 23)) = w32 x8 then (L_Model_has_63 j k7 (y_t μ (q_nx T E p) f) (zLet (zUp (y_t μ (q_nx T E p) f) 0 23 k7) (fun μ13 => some (.inr (some (zI 1)), μ13))) zN 0) else (some (.inr (some (zI 0)), y_t μ (q_nx T E p) f)))) else (some (.inr (some (zI 0)), y_t μ (q_nx T E p) f))) (q_ls T E (q_nx T E p)) zN 0 (by omega) (zN_gt (by omega))
  rw [show q_nx T E p + ((0 : Nat) : Int) = q_nx T E p by omega] at this
  refine this.trans ?_
  rw [y_t_24, w32_of (by omega) (by omega), w32_of (by decide) (by decide), if_neg (by omega)]
/-! numbers -/
def q_m5 (i : Nat) : Nat := if i ≤ 5 then i else 5
theorem y_num_loop (hT : q_T T E) (h : y_T T E μ) (x0 : 0 ≤ x) (x1 : x ≤ E) (K : Int → ZMem → Option ZRes) : ∀ (k n i : Nat), i + k = q_m5 (q_ds T E x) → k < n → L_Model_number_18 lo hi x K n (q_vl T x i) (y_t μ (x + i) f) = K (q_vl T x (q_m5 (q_ds T E x))) (y_t μ (x + q_m5 (q_ds T E x)) f)
  | 0, n, i, hi', hn => by
    obtain ⟨n, rfl⟩ : ∃ i, n = i + 1 := ⟨n - 1, by omega⟩
    have hE := hT.1
    obtain ⟨d1, d2, d3⟩ := q_ds_in hT x0 x1
    obtain rfl : i = q_m5 (q_ds T E x) := by omega
    have hm : q_m5 (q_ds T E x) ≤ q_ds T E x ∧ q_m5 (q_ds T E x) ≤ 5 ∧ (q_m5 (q_ds T E x) < 5 → q_m5 (q_ds T E x) = q_ds T E x) := by
      unfold q_m5
      split <;> omega
    rw [L_Model_number_18, y_t_0 (by decide) (by decide), y_t_23, h.1, w32_of (by omega) (by omega), w32_of (by omega) (by omega)]
    by_cases e : E ≤ x + q_m5 (q_ds T E x)
    · rw [if_pos e]
    · have tb := hT.2 (x + q_m5 (q_ds T E x)) (by omega) (by omega)
      rw [if_neg e, zRd_ok (by omega) (by omega) (by omega), y_t_c (by decide), h.2 _ (by omega) (by omega), w32_of (by omega) (by omega)]
      by_cases e2 : 48 ≤ T (x + q_m5 (q_ds T E x)) ∧ T (x + q_m5 (q_ds T E x)) ≤ 57
      · rw [z_isInY e2.1 e2.2 (by decide) (by decide), zC_I, w32_of (by decide) (by decide), if_neg (by decide), show x + (q_m5 (q_ds T E x) : Int) - x = q_m5 (q_ds T E x) by omega, w32_of (by decide) (by decide), w32_of (by omega) (by omega)]
        have : ¬ q_m5 (q_ds T E x) < 5 := fun q => by
          rw [hm.2.2 q] at e2 e
          omega
        rw [if_pos (by omega)]
      · rw [z_isInN (by omega) (by omega) (by omega) (by decide) (by decide) (by decide) (by decide), zC_I, w32_of (by decide) (by decide), if_pos rfl]
  | k + 1, n, i, hi', hn => by
    obtain ⟨n, rfl⟩ : ∃ i, n = i + 1 := ⟨n - 1, by omega⟩
    have hE := hT.1
    obtain ⟨d1, d2, d3⟩ := q_ds_in hT x0 x1
    have hm : q_m5 (q_ds T E x) ≤ q_ds T E x ∧ q_m5 (q_ds T E x) ≤ 5 := by
      unfold q_m5
      split <;> omega
    have db := d2 i (by omega)
    rw [L_Model_number_18, y_t_0 (by decide) (by decide), y_t_23, h.1, w32_of (by omega) (by omega), w32_of (by omega) (by omega), if_neg (by omega), zRd_ok (by omega) (by omega) (by omega), y_t_c (by decide), h.2 _ (by omega) (by omega), w32_of (by omega) (by omega), z_isInY db.1 db.2 (by decide) (by decide), zC_I, w32_of (by decide) (by decide), if_neg (by decide), show x + (i : Int) - x = i by omega, w32_of (by decide) (by decide), w32_of (by omega) (by omega), if_neg (by omega), zRd_ok (by omega) (by omega) (by omega), y_t_c (by decide), h.2 _ (by omega) (by omega), zLet_eq, zLet_eq, y_t_p, show x + (i : Int) + 1 = x + ((i + 1 : Nat) : Int) by omega, show 10 * q_vl T x i + T (x + i) - 48 = q_vl T x (i + 1) by rw [q_vl]; omega]
    exact y_num_loop hT h x0 x1 K k n (i + 1) (by omega) (by omega)
theorem y_numY (hT : q_T T E) (h : y_T T E μ) (p0 : 0 ≤ p) (p1 : p ≤ E) (l0 : -1 ≤ lo) (l1 : lo ≤ 10000) (h0 : -1 ≤ hi) (h1 : hi ≤ 10000) (hn : q_no T E lo hi (q_nx T E p)) : F_Model_number lo hi (y_t μ p (-1)) = some (.inr (some (zI (q_vl T (q_nx T E p) (q_ds T E (q_nx T E p))))), y_t μ (q_nx T E p + q_ds T E (q_nx T E p)) (-1)) := by
  have hE := hT.1
  have hx := q_nx_in hT p0 p1
  have x0 : 0 ≤ q_nx T E p := by omega
  obtain ⟨d1, d2, d3⟩ := q_ds_in (x := q_nx T E p) hT x0 hx.2.1
  obtain ⟨n1, n2, n3, n4⟩ := hn
  have hv := q_vl_small (k := q_ds T E (q_nx T E p)) (by omega) d2
  have m5 : q_m5 (q_ds T E (q_nx T E p)) = q_ds T E (q_nx T E p) := by unfold q_m5; rw [if_pos (by omega)]
  unfold F_Model_number
  rw [y_t_24, if_pos rfl, y_here hT h p0 p1, zC_I]
  have := y_num_loop (lo := lo) (hi := hi) (f := -1) hT h x0 hx.2.1 (fun k10 μ9 => if w32 (μ9 0 23) = w32 (q_nx T E p) then (J_Model_number_124 (q_nx T E p) k10 μ9) else (if w32 4 < w32 ((μ9 0 23) - q_nx T E p) then (J_Model_number_124 (q_nx T E p) k10 μ9) else (if w32 k10 < w32 lo then (J_Model_number_124 (q_nx T E p) k10 μ9) else (if w32 k10 ≤ w32 hi then (some (.inr (some (zI k10)), μ9)) else (J_Model_number_124 (q_nx T E p) k10 μ9))))) (q_m5 (q_ds T E (q_nx T E p))) zN 0 (by omega) (zN_gt (by omega))
  rw [show q_nx T E p + ((0 : Nat) : Int) = q_nx T E p by omega] at this
  refine this.trans ?_
  rw [m5, y_t_23, w32_of (by omega) (by omega), w32_of (by omega) (by omega), if_neg (by omega), show q_nx T E p + (q_ds T E (q_nx T E p) : Int) - q_nx T E p = q_ds T E (q_nx T E p) by omega, w32_of (by decide) (by decide), w32_of (by omega) (by omega), if_neg (by omega), w32_of (by omega) (by omega), w32_of (by omega) (by omega), if_neg (by omega), w32_of (by omega) (by omega), if_pos n4]
theorem y_numN (hT : q_T T E) (h : y_T T E μ) (p0 : 0 ≤ p) (p1 : p ≤ E) (l0 : -1 ≤ lo) (l1 : lo ≤ 10000) (h0 : -1 ≤ hi) (h1 : hi ≤ 10000) (hn : ¬ q_no T E lo hi (q_nx T E p)) : ∃ v p', F_Model_number lo hi (y_t μ p (-1)) = some (.inr (some (zI v)), y_t μ p' (q_nx T E p)) ∧ 0 ≤ p' ∧ p' ≤ E ∧ 0 ≤ v ∧ v < 100000 := by
  have hE := hT.1
  have hx := q_nx_in hT p0 p1
  have x0 : 0 ≤ q_nx T E p := by omega
  obtain ⟨d1, d2, d3⟩ := q_ds_in (x := q_nx T E p) hT x0 hx.2.1
  have hm : q_m5 (q_ds T E (q_nx T E p)) ≤ q_ds T E (q_nx T E p) ∧ q_m5 (q_ds T E (q_nx T E p)) ≤ 5 ∧ (q_m5 (q_ds T E (q_nx T E p)) < 5 → q_m5 (q_ds T E (q_nx T E p)) = q_ds T E (q_nx T E p)) := by
    unfold q_m5
    split <;> omega
  have hv := q_vl_small (T := T) (x := q_nx T E p) (k := q_m5 (q_ds T E (q_nx T E p))) (by omega) (fun i hi => d2 i (by omega))
  refine ⟨q_vl T (q_nx T E p) (q_m5 (q_ds T E (q_nx T E p))), q_nx T E p + q_m5 (q_ds T E (q_nx T E p)), ?_, by omega, by omega, hv.1, hv.2⟩
  unfold F_Model_number
  rw [y_t_24, if_pos rfl, y_here hT h p0 p1, zC_I]
  have := y_num_loop (lo := lo) (hi := hi) (f := -1) hT h x0 hx.2.1 (fun k10 μ9 => if w32 (μ9 0 23) = w32 (q_nx T E p) then (J_Model_number_124 (q_nx T E p) k10 μ9) else (if w32 4 < w32 ((μ9 0 23) - q_nx T E p) then (J_Model_number_124 (q_nx T E p) k10 μ9) else (if w32 k10 < w32 lo then (J_Model_number_124 (q_nx T E p) k10 μ9) else (if w32 k10 ≤ w32 hi then (some (.inr (some (zI k10)), μ9)) else (J_Model_number_124 (q_nx T E p) k10 μ9))))) (q_m5 (q_ds T E (q_nx T E p))) zN 0 (by omega) (zN_gt (by omega))
  rw [show q_nx T E p + ((0 : Nat) : Int) = q_nx T E p by omega] at this
  refine this.trans ?_
  have e124 : J_Model_number_124 (q_nx T E p) (q_vl T (q_nx T E p) (q_m5 (q_ds T E (q_nx T E p)))) (y_t μ (q_nx T E p + q_m5 (q_ds T E (q_nx T E p))) (-1)) = some (.inr (some (zI (q_vl T (q_nx T E p) (q_m5 (q_ds T E (q_nx T E p)))))), y_t μ (q_nx T E p + q_m5 (q_ds T E (q_nx T E p))) (q_nx T E p)) := by
    unfold J_Model_number_124
    rw [y_wrongY, zC_V]
  rw [e124, y_t_23, w32_of (by omega) (by omega), w32_of (by omega) (by omega), show q_nx T E p + (q_m5 (q_ds T E (q_nx T E p)) : Int) - q_nx T E p = q_m5 (q_ds T E (q_nx T E p)) by omega, w32_of (a := 4) (by decide) (by decide), w32_of (a := (q_m5 (q_ds T E (q_nx T E p)) : Int)) (by omega) (by omega), w32_of (a := q_vl T (q_nx T E p) (q_m5 (q_ds T E (q_nx T E p)))) (by omega) (by omega), w32_of (a := lo) (by omega) (by omega), w32_of (a := hi) (by omega) (by omega)]
  by_cases e1 : q_nx T E p + (q_m5 (q_ds T E (q_nx T E p)) : Int) = q_nx T E p
  · rw [if_pos e1]
  · rw [if_neg e1]
    by_cases e2 : (4 : Int) < q_m5 (q_ds T E (q_nx T E p))
    · rw [if_pos e2]
    · rw [if_neg e2]
      by_cases e3 : q_vl T (q_nx T E p) (q_m5 (q_ds T E (q_nx T E p))) < lo
      · rw [if_pos e3]
      · rw [if_neg e3, if_neg (fun q => hn (by
          have e := hm.2.2 (by omega)
          rw [e] at q e3
          exact ⟨by omega, by omega, by omega, q⟩))]
theorem y_numF (f0 : 0 ≤ f) (f1 : f ≤ 400) : F_Model_number lo hi (y_t μ p f) = some (.inr (some (zI 0)), y_t μ p f) := by
  unfold F_Model_number
  rw [y_t_24, w32_of (by omega) (by omega), w32_of (by decide) (by decide), if_neg (by omega)]
end TY
