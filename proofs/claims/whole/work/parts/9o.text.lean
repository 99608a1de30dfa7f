/-! ===== the tape's tokens ===== -/
def q_sk (T : Int → Int) (E : Int) : Nat → Int → Int
  | 0, p => p
  | n + 1, p => if E ≤ p then p else if T p = 32 then q_sk T E n (p + 1) else p
def q_nx (T : Int → Int) (E p : Int) : Int := q_sk T E 401 p
def q_T (T : Int → Int) (E : Int) : Prop := (0 ≤ E ∧ E ≤ 400) ∧ ∀ i, 0 ≤ i → i < E → 0 ≤ T i ∧ T i ≤ 255
theorem q_sk_in {T : Int → Int} {E : Int} : ∀ (n : Nat) (p : Int), p ≤ E → E - p ≤ n → p ≤ q_sk T E n p ∧ q_sk T E n p ≤ E ∧ (q_sk T E n p = E ∨ T (q_sk T E n p) ≠ 32)
  | 0, p, h0, h1 => ⟨Int.le_refl _, h0, Or.inl (by show p = E; omega)⟩
  | n + 1, p, h0, h1 => by
    rw [q_sk]
    by_cases e : E ≤ p
    · rw [if_pos e]; exact ⟨Int.le_refl _, h0, Or.inl (by omega)⟩
    · rw [if_neg e]
      by_cases e2 : T p = 32
      · rw [if_pos e2]
        obtain ⟨a, b, c⟩ := q_sk_in (T := T) (E := E) n (p + 1) (by omega) (by omega)
        exact ⟨by omega, b, c⟩
      · rw [if_neg e2]; exact ⟨Int.le_refl _, h0, Or.inr e2⟩
theorem q_nx_in {T : Int → Int} {E p : Int} (hT : q_T T E) (h0 : 0 ≤ p) (h1 : p ≤ E) : p ≤ q_nx T E p ∧ q_nx T E p ≤ E ∧ (q_nx T E p = E ∨ T (q_nx T E p) ≠ 32) := q_sk_in 401 p h1 (by have := hT.1; omega)
theorem q_nx_id {T : Int → Int} {E x : Int} (h : x = E ∨ T x ≠ 32) : q_nx T E x = x := by
  show q_sk T E (400 + 1) x = x
  rw [q_sk]
  rcases h with h | h
  · rw [if_pos (by omega)]
  · by_cases e : E ≤ x
    · rw [if_pos e]
    · rw [if_neg e, if_neg h]
theorem q_nx_nx {T : Int → Int} {E p : Int} (hT : q_T T E) (h0 : 0 ≤ p) (h1 : p ≤ E) : q_nx T E (q_nx T E p) = q_nx T E p := q_nx_id (q_nx_in hT h0 h1).2.2
theorem zUp_twice (μ : ZMem) (c : Nat) (i v w : Int) : zUp (zUp μ c i v) c i w = zUp μ c i w := by
  funext c' i'
  unfold zUp
  by_cases h : c' = c ∧ i' = i
  · rw [if_pos h, if_pos h]
  · rw [if_neg h, if_neg h, if_neg h]
theorem zUp_swap {μ : ZMem} {c : Nat} {i j v w : Int} (h : i ≠ j) : zUp (zUp μ c i v) c j w = zUp (zUp μ c j w) c i v := by
  funext c' i'
  unfold zUp
  by_cases h1 : c' = c ∧ i' = j
  · rw [if_pos h1, if_neg (by omega), if_pos h1]
  · rw [if_neg h1, if_neg h1]
theorem zUp_self {μ : ZMem} {c : Nat} {i : Int} {v : Int} (h : μ c i = v) : zUp μ c i v = μ := by
  funext c' i'
  unfold zUp
  by_cases h1 : c' = c ∧ i' = i
  · rw [if_pos h1, h1.1, h1.2, h]
  · rw [if_neg h1]
theorem zMg_up {pl : List Nat} {c : Nat} (hc : zIx pl 0 (zRho pl c) = some c) (μ : ZMem) (i v : Int) : zMg pl μ (zUp (zVw pl μ) c i v) = zUp μ (zRho pl c) i v := by
  funext c' i'
  unfold zMg
  cases hx : zIx pl 0 c' with
  | none =>
    show μ c' i' = zUp μ (zRho pl c) i v c' i'
    unfold zUp
    rw [if_neg]
    intro q
    rw [q.1, hc] at hx
    cases hx
  | some j =>
    show zUp (zVw pl μ) c i v j i' = zUp μ (zRho pl c) i v c' i'
    have e := zIx_rho hx
    unfold zUp
    by_cases h : j = c ∧ i' = i
    · rw [if_pos h, if_pos ⟨by rw [← e, h.1], h.2⟩]
    · rw [if_neg h, if_neg]
      · show μ (zRho pl j) i' = μ c' i'
        rw [e]
      · intro q
        rw [q.1, hc] at hx
        cases hx
        exact h ⟨rfl, q.2⟩
/-- the class's text: its place, where it is wrong -/
def x_t (ν : ZMem) (p w : Int) : ZMem := zUp (zUp ν 0 2 p) 0 3 w
def x_T (T : Int → Int) (E : Int) (ν : ZMem) : Prop := ν 0 1 = E ∧ ∀ i, 0 ≤ i → i < E → ν 1 i = T i
section TX
variable {T : Int → Int} {E p w x lo hi : Int} {ν : ZMem} {j : Nat}
theorem x_t_p (p' : Int) : zUp (x_t ν p w) 0 2 p' = x_t ν p' w := by
  unfold x_t
  rw [zUp_swap (by decide), zUp_twice]
theorem x_t_w (w' : Int) : zUp (x_t ν p w) 0 3 w' = x_t ν p w' := zUp_twice _ _ _ _ _
theorem x_t_1 : x_t ν p w 0 1 = ν 0 1 := by
  unfold x_t
  rw [zUp_at, q_up_ne (by decide), zUp_at, q_up_ne (by decide)]
theorem x_t_2 : x_t ν p w 0 2 = p := by
  unfold x_t
  rw [zUp_at, q_up_ne (by decide), zUp_at, q_up_at]
theorem x_t_3 : x_t ν p w 0 3 = w := by
  unfold x_t
  rw [zUp_at, q_up_at]
theorem x_t_c {c : Nat} (h : c ≠ 0) : x_t ν p w c = ν c := by
  unfold x_t
  rw [zUp_ne h, zUp_ne h]
theorem x_next_loop (hT : q_T T E) (h : x_T T E ν) (K : ZMem → Option ZRes) : ∀ (k n : Nat) (p : Int), 0 ≤ p → p ≤ E → E - p ≤ k → k < n → L_Text_next_0 K n (x_t ν p w) = K (x_t ν (q_sk T E k p) w)
  | 0, n, p, p0, p1, hk, hn => by
    obtain ⟨n, rfl⟩ : ∃ i, n = i + 1 := ⟨n - 1, by omega⟩
    have := hT.1
    rw [L_Text_next_0, x_t_1, x_t_2, h.1, w32_of (by omega) (by omega), w32_of (by omega) (by omega), if_pos (by omega), q_sk]
  | k + 1, n, p, p0, p1, hk, hn => by
    obtain ⟨n, rfl⟩ : ∃ i, n = i + 1 := ⟨n - 1, by omega⟩
    have hE := hT.1
    rw [L_Text_next_0, x_t_1, x_t_2, h.1, w32_of (by omega) (by omega), w32_of (by omega) (by omega), q_sk]
    by_cases e : E ≤ p
    · rw [if_pos e, if_pos e]
    · have tb := hT.2 p p0 (by omega)
      rw [if_neg e, if_neg e, zRd_ok (by omega) (by omega) (by omega), x_t_c (by decide), h.2 p p0 (by omega), w32_of (by omega) (by omega), w32_of (by decide) (by decide)]
      by_cases e2 : T p = 32
      · rw [if_pos e2, if_pos e2, zLet_eq, x_t_p]
        exact x_next_loop hT h K k n (p + 1) (by omega) (by omega) (by omega) (by omega)
      · rw [if_neg e2, if_neg e2]
theorem x_next (hT : q_T T E) (h : x_T T E ν) (p0 : 0 ≤ p) (p1 : p ≤ E) : F_Text_next (x_t ν p w) = some (.inr (some (zI (q_nx T E p))), x_t ν (q_nx T E p) w) := by
  have hE := hT.1
  unfold F_Text_next
  show (_ : Option ZRes) = some (.inr (some (zI (q_sk T E (400 + 1) p))), x_t ν (q_sk T E (400 + 1) p) w)
  rw [x_t_1, x_t_2, h.1, w32_of (by omega) (by omega), w32_of (by omega) (by omega), q_sk]
  by_cases e : E ≤ p
  · rw [if_pos e, if_pos e]
  · have tb := hT.2 p p0 (by omega)
    rw [if_neg e, if_neg e, zRd_ok (by omega) (by omega) (by omega), x_t_c (by decide), h.2 p p0 (by omega), w32_of (by omega) (by omega), w32_of (by decide) (by decide)]
    by_cases e2 : T p = 32
    · rw [if_pos e2, if_pos e2, zLet_eq, x_t_p, x_next_loop hT h _ 400 zN (p + 1) (by omega) (by omega) (by omega) (zN_gt (by omega)), x_t_2]
    · rw [if_neg e2, if_neg e2]
theorem x_through (hT : q_T T E) (h : x_T T E ν) (p0 : 0 ≤ p) (p1 : p ≤ E) : F_Text_isThrough (x_t ν p w) = some (.inr (some (zI (if q_nx T E p = E then 1 else 0))), x_t ν (q_nx T E p) w) := by
  have hE := hT.1
  have hx := q_nx_in hT p0 p1
  unfold F_Text_isThrough
  rw [x_next hT h p0 p1, zC_I, x_t_1, h.1, w32_of (by omega) (by omega), w32_of (by omega) (by omega)]
  by_cases e : q_nx T E p = E
  · rw [if_pos e, if_pos e]
  · rw [if_neg e, if_neg e]
theorem x_refuse (a : Int) : F_Text_refuse a (x_t ν p w) = some (.inr (some (zI 0)), x_t ν p a) := by
  unfold F_Text_refuse
  rw [zLet_eq, x_t_w]
theorem x_refuseNext (hT : q_T T E) (h : x_T T E ν) (p0 : 0 ≤ p) (p1 : p ≤ E) : F_Text_refuseNext (x_t ν p w) = some (.inr (some (zI 0)), x_t ν (q_nx T E p) (q_nx T E p)) := by
  unfold F_Text_refuseNext
  rw [x_next hT h p0 p1, zC_I, x_refuse, zC_I, if_pos (Or.inl rfl)]
theorem x_isRightY : F_Text_isRight (x_t ν p (-1)) = some (.inr (some (zI 1)), x_t ν p (-1)) := by
  unfold F_Text_isRight
  rw [x_t_3, if_pos rfl]
theorem x_isRightN (h0 : 0 ≤ w) (h1 : w ≤ 400) : F_Text_isRight (x_t ν p w) = some (.inr (some (zI 0)), x_t ν p w) := by
  unfold F_Text_isRight
  rw [x_t_3, w32_of (by omega) (by omega), w32_of (by decide) (by decide), if_neg (by omega)]
def q_sm1 (T : Int → Int) (E x : Int) : Prop := x < E ∧ T x = 59
theorem x_semiY (hT : q_T T E) (h : x_T T E ν) (p0 : 0 ≤ p) (p1 : p ≤ E) (hs : q_sm1 T E (q_nx T E p)) : F_Text_takeSemicolon (x_t ν p w) = some (.inr (some (zI 1)), x_t ν (q_nx T E p + 1) w) := by
  have hE := hT.1
  have hx := q_nx_in hT p0 p1
  obtain ⟨s1, s2⟩ := hs
  unfold F_Text_takeSemicolon
  rw [x_through hT h p0 p1, zC_I, if_neg (show ¬ q_nx T E p = E by omega), w32_of (by decide) (by decide), if_pos rfl, x_t_2, zRd_ok (by omega) (by omega) (by omega), x_t_c (by decide), h.2 _ (by omega) s1, s2, if_pos rfl, zLet_eq, x_t_p]
theorem x_semiN (hT : q_T T E) (h : x_T T E ν) (p0 : 0 ≤ p) (p1 : p ≤ E) (hs : ¬ q_sm1 T E (q_nx T E p)) : F_Text_takeSemicolon (x_t ν p w) = some (.inr (some (zI 0)), x_t ν (q_nx T E p) w) := by
  have hE := hT.1
  have hx := q_nx_in hT p0 p1
  unfold F_Text_takeSemicolon
  rw [x_through hT h p0 p1, zC_I]
  by_cases e : q_nx T E p = E
  · rw [if_pos e, w32_of (by decide) (by decide), if_neg (by decide)]
  · have tb := hT.2 (q_nx T E p) (by omega) (by omega)
    rw [if_neg e, w32_of (by decide) (by decide), if_pos rfl, x_t_2, zRd_ok (by omega) (by omega) (by omega), x_t_c (by decide), h.2 _ (by omega) (by omega), w32_of (by omega) (by omega), w32_of (by decide) (by decide), if_neg (fun q => hs ⟨by omega, q⟩)]
/-! words -/
def q_wd (T : Int → Int) (E : Int) (j : Nat) (x : Int) : Prop := x + zSl j ≤ E ∧ (∀ i, 0 ≤ i → i < zSl j → T (x + i) = zSc j i) ∧ (E ≤ x + zSl j ∨ T (x + zSl j) < 97 ∨ 122 < T (x + zSl j))
theorem zSl_in (hj : j < 19) : 3 ≤ zSl j ∧ zSl j ≤ 8 := by
  have : ∀ j : Nat, j < 19 → 3 ≤ zSl j ∧ zSl j ≤ 8 := by decide +kernel
  exact this j hj
theorem zSc_in (hj : j < 19) {i : Int} (i0 : 0 ≤ i) (i1 : i < zSl j) : 97 ≤ zSc j i ∧ zSc j i ≤ 122 := by
  have : ∀ j : Nat, j < 19 → ∀ i : Nat, i < 8 → (i : Int) < zSl j → 97 ≤ zSc j (i : Int) ∧ zSc j (i : Int) ≤ 122 := by decide +kernel
  have hl := zSl_in hj
  have := this j hj i.toNat (by omega) (by omega)
  rw [Int.toNat_of_nonneg i0] at this
  exact this
theorem zSln_ok (hj : j < 19) {K : Int → Option ZRes} : zSln j K = K (zSl j) := if_pos hj
theorem zSch_ok (hj : j < 19) {i : Int} (i0 : 0 ≤ i) (i1 : i < zSl j) {K : Int → Option ZRes} : zSch j i K = K (zSc j i) := by
  have hl := zSl_in hj
  unfold zSch
  rw [w32_of (by omega) (by omega)]
  exact if_pos ⟨hj, i0, i1⟩
theorem x_letter (hT : q_T T E) (h : x_T T E ν) (x0 : 0 ≤ x) (x1 : x ≤ 500) : F_Text_isLetterAt x (x_t ν p w) = some (.inr (some (zI (if x < E ∧ 97 ≤ T x ∧ T x ≤ 122 then 1 else 0))), x_t ν p w) := by
  have hE := hT.1
  unfold F_Text_isLetterAt
  rw [x_t_1, h.1, w32_of (by omega) (by omega), w32_of (by omega) (by omega)]
  by_cases e : E ≤ x
  · rw [if_pos e, if_neg (by omega)]
  · have tb := hT.2 x x0 (by omega)
    rw [if_neg e, zRd_ok (by omega) (by omega) (by omega), x_t_c (by decide), h.2 x x0 (by omega), w32_of (by omega) (by omega), w32_of (by decide) (by decide)]
    by_cases e2 : T x < 97
    · rw [if_pos e2, if_neg (by omega)]
    · rw [if_neg e2, zRd_ok (by omega) (by omega) (by omega), x_t_c (by decide), h.2 x x0 (by omega), w32_of (by decide) (by decide), w32_of (by omega) (by omega)]
      by_cases e3 : 122 < T x
      · rw [if_pos e3, if_neg (by omega)]
      · rw [if_neg e3, if_pos (by omega)]
theorem x_word_loopY (hT : q_T T E) (h : x_T T E ν) (hj : j < 19) (x0 : 0 ≤ x) (hw : x + zSl j ≤ E) (hc : ∀ i, 0 ≤ i → i < zSl j → T (x + i) = zSc j i) (K : Option ZRes) : ∀ (k n : Nat) (i : Int), 0 ≤ i → i + k = zSl j → k < n → L_Text_takeWord_33 j x (x + zSl j) (x_t ν p w) K n (x + i) = K
  | 0, n, i, i0, hi, hn => by
    obtain ⟨n, rfl⟩ : ∃ i, n = i + 1 := ⟨n - 1, by omega⟩
    have hE := hT.1
    rw [L_Text_takeWord_33, w32_of (by omega) (by omega), w32_of (by omega) (by omega), if_pos (by omega)]
  | k + 1, n, i, i0, hi, hn => by
    obtain ⟨n, rfl⟩ : ∃ i, n = i + 1 := ⟨n - 1, by omega⟩
    have hE := hT.1
    have hs := zSc_in hj i0 (show i < zSl j by omega)
    rw [L_Text_takeWord_33, w32_of (by omega) (by omega), w32_of (by omega) (by omega), if_neg (by omega), zRd_ok (by omega) (by omega) (by omega), x_t_c (by decide), h.2 (x + i) (by omega) (by omega), hc i i0 (by omega)]
    rw [show x + i - x = i by omega, zSch_ok hj i0 (by omega), if_pos rfl, zLet_eq, show x + i + 1 = x + (i + 1) by omega]
    exact x_word_loopY hT h hj x0 hw hc K k n (i + 1) (by omega) (by omega) (by omega)
theorem x_word_loopN (hT : q_T T E) (h : x_T T E ν) (hj : j < 19) (x0 : 0 ≤ x) (hw : x + zSl j ≤ E) (K : Option ZRes) : ∀ (k n : Nat) (i : Int), 0 ≤ i → i + k = zSl j → k < n → (¬ ∀ i', i ≤ i' → i' < zSl j → T (x + i') = zSc j i') → L_Text_takeWord_33 j x (x + zSl j) (x_t ν p w) K n (x + i) = some (.inr (some (zI 0)), x_t ν p w)
  | 0, n, i, i0, hi, hn, hc => by
    exfalso
    exact hc (fun i' a b => by omega)
  | k + 1, n, i, i0, hi, hn, hc => by
    obtain ⟨n, rfl⟩ : ∃ i, n = i + 1 := ⟨n - 1, by omega⟩
    have hE := hT.1
    have hs := zSc_in hj i0 (show i < zSl j by omega)
    have tb := hT.2 (x + i) (by omega) (by omega)
    rw [L_Text_takeWord_33, w32_of (by omega) (by omega), w32_of (by omega) (by omega), if_neg (by omega), zRd_ok (by omega) (by omega) (by omega), x_t_c (by decide), h.2 (x + i) (by omega) (by omega)]
    rw [show x + i - x = i by omega, zSch_ok hj i0 (by omega), w32_of (by omega) (by omega), w32_of (by omega) (by omega)]
    by_cases e : T (x + i) = zSc j i
    · rw [if_pos e, zLet_eq, show x + i + 1 = x + (i + 1) by omega]
      refine x_word_loopN hT h hj x0 hw K k n (i + 1) (by omega) (by omega) (by omega) (fun q => hc (fun i' a b => ?_))
      by_cases e2 : i' = i
      · rw [e2]; exact e
      · exact q i' (by omega) b
    · rw [if_neg e]
theorem x_wordY (hT : q_T T E) (h : x_T T E ν) (hj : j < 19) (p0 : 0 ≤ p) (p1 : p ≤ E) (hw : q_wd T E j (q_nx T E p)) : F_Text_takeWord j (x_t ν p w) = some (.inr (some (zI 1)), x_t ν (q_nx T E p + zSl j) w) := by
  have hE := hT.1
  have hx := q_nx_in hT p0 p1
  have hl := zSl_in hj
  obtain ⟨w1, w2, w3⟩ := hw
  unfold F_Text_takeWord
  rw [x_next hT h p0 p1, zC_I]
  rw [zSln_ok hj, zLet_eq, x_t_1, h.1, w32_of (by omega) (by omega), w32_of (by omega) (by omega), if_neg (by omega), x_letter hT h (by omega) (by omega), zC_I, if_neg (show ¬ (q_nx T E p + zSl j < E ∧ 97 ≤ T (q_nx T E p + zSl j) ∧ T (q_nx T E p + zSl j) ≤ 122) by omega), w32_of (by decide) (by decide), if_pos rfl, zLet_eq, x_t_p]
  have := x_word_loopY (p := q_nx T E p) (w := w) hT h hj (show 0 ≤ q_nx T E p by omega) w1 w2 (some (.inr (some (zI 1)), x_t ν (q_nx T E p + zSl j) w)) (zSl j).toNat zN 0 (by decide) (by omega) (zN_gt (by omega))
  rw [Int.add_zero] at this
  exact this
theorem x_wordN (hT : q_T T E) (h : x_T T E ν) (hj : j < 19) (p0 : 0 ≤ p) (p1 : p ≤ E) (hw : ¬ q_wd T E j (q_nx T E p)) : F_Text_takeWord j (x_t ν p w) = some (.inr (some (zI 0)), x_t ν (q_nx T E p) w) := by
  have hE := hT.1
  have hx := q_nx_in hT p0 p1
  have hl := zSl_in hj
  unfold F_Text_takeWord
  rw [x_next hT h p0 p1, zC_I]
  rw [zSln_ok hj, zLet_eq, x_t_1, h.1, w32_of (by omega) (by omega), w32_of (by omega) (by omega)]
  by_cases e : E < q_nx T E p + zSl j
  · rw [if_pos e]
  · rw [if_neg e, x_letter hT h (by omega) (by omega), zC_I]
    by_cases e2 : q_nx T E p + zSl j < E ∧ 97 ≤ T (q_nx T E p + zSl j) ∧ T (q_nx T E p + zSl j) ≤ 122
    · rw [if_pos e2, w32_of (by decide) (by decide), if_neg (by decide)]
    · rw [if_neg e2, w32_of (by decide) (by decide), if_pos rfl]
      have := x_word_loopN (p := q_nx T E p) (w := w) hT h hj (show 0 ≤ q_nx T E p by omega) (by omega) (zLet (zUp (x_t ν (q_nx T E p) w) 0 2 (q_nx T E p + zSl j)) (fun μ10 => some (.inr (some (zI 1)), μ10))) (zSl j).toNat zN 0 (by decide) (by omega) (zN_gt (by omega)) (fun q => hw ⟨by omega, fun i i0 i1 => q i i0 i1, by omega⟩)
      rw [Int.add_zero] at this
      exact this
/-! numbers -/
def q_dg (T : Int → Int) (E : Int) : Nat → Int → Nat
  | 0, _ => 0
  | n + 1, x => if E ≤ x then 0 else if 48 ≤ T x ∧ T x ≤ 57 then q_dg T E n (x + 1) + 1 else 0
def q_ds (T : Int → Int) (E x : Int) : Nat := q_dg T E 401 x
def q_vl (T : Int → Int) (x : Int) : Nat → Int
  | 0 => 0
  | k + 1 => q_vl T x k * 10 + T (x + k) - 48
theorem q_dg_in {T : Int → Int} {E : Int} : ∀ (n : Nat) (x : Int), x ≤ E → E - x ≤ n → (x + q_dg T E n x ≤ E) ∧ (∀ i : Nat, i < q_dg T E n x → 48 ≤ T (x + i) ∧ T (x + i) ≤ 57) ∧ (x + q_dg T E n x = E ∨ ¬ (48 ≤ T (x + q_dg T E n x) ∧ T (x + q_dg T E n x) ≤ 57))
  | 0, x, h0, h1 => ⟨by rw [q_dg]; omega, fun i hi => absurd hi (Nat.not_lt_zero _), Or.inl (by rw [q_dg]; omega)⟩
  | n + 1, x, h0, h1 => by
    rw [q_dg]
    by_cases e : E ≤ x
    · rw [if_pos e]; exact ⟨by omega, fun i hi => absurd hi (Nat.not_lt_zero _), Or.inl (by omega)⟩
    · rw [if_neg e]
      by_cases e2 : 48 ≤ T x ∧ T x ≤ 57
      · rw [if_pos e2]
        obtain ⟨a, b, c⟩ := q_dg_in (T := T) (E := E) n (x + 1) (by omega) (by omega)
        refine ⟨by omega, fun i hi => ?_, ?_⟩
        · by_cases hi0 : i = 0
          · subst hi0
            rw [show x + ((0 : Nat) : Int) = x by omega]; exact e2
          · have := b (i - 1) (by omega)
            rw [show x + 1 + ((i - 1 : Nat) : Int) = x + i by omega] at this
            exact this
        · rw [show x + ((q_dg T E n (x + 1) + 1 : Nat) : Int) = x + 1 + (q_dg T E n (x + 1) : Int) by omega]
          exact c
      · rw [if_neg e2]
        refine ⟨by omega, fun i hi => absurd hi (Nat.not_lt_zero _), Or.inr ?_⟩
        rw [show x + ((0 : Nat) : Int) = x by omega]; exact e2
theorem q_ds_in (hT : q_T T E) (x0 : 0 ≤ x) (x1 : x ≤ E) : (x + q_ds T E x ≤ E) ∧ (∀ i : Nat, i < q_ds T E x → 48 ≤ T (x + i) ∧ T (x + i) ≤ 57) ∧ (x + q_ds T E x = E ∨ ¬ (48 ≤ T (x + q_ds T E x) ∧ T (x + q_ds T E x) ≤ 57)) := q_dg_in 401 x x1 (by have := hT.1; omega)
theorem q_vl_in : ∀ k : Nat, k ≤ 5 → (∀ i : Nat, i < k → 48 ≤ T (x + i) ∧ T (x + i) ≤ 57) → 0 ≤ q_vl T x k ∧ q_vl T x k < 10 ^ k
  | 0, _, _ => ⟨Int.le_refl _, by show (0 : Int) < 10 ^ 0; decide⟩
  | k + 1, hk, h => by
    obtain ⟨a, b⟩ := q_vl_in k (by omega) (fun i hi => h i (by omega))
    have := h k (by omega)
    rw [q_vl, Int.pow_succ]
    exact ⟨by omega, by omega⟩
theorem q_vl_small {k : Nat} (hk : k ≤ 5) (h : ∀ i : Nat, i < k → 48 ≤ T (x + i) ∧ T (x + i) ≤ 57) : 0 ≤ q_vl T x k ∧ q_vl T x k < 100000 := by
  obtain ⟨a, b⟩ := q_vl_in k hk h
  have : ∀ k : Nat, k ≤ 5 → (10 : Int) ^ k ≤ 100000 := by decide
  have := this k hk
  exact ⟨a, by omega⟩
def q_no (T : Int → Int) (E lo hi x : Int) : Prop := 1 ≤ q_ds T E x ∧ q_ds T E x ≤ 4 ∧ lo ≤ q_vl T x (q_ds T E x) ∧ q_vl T x (q_ds T E x) ≤ hi
def q_m4 (i : Nat) : Nat := if i ≤ 4 then i else 4
theorem x_digit {a : Int} (a0 : 0 ≤ a) (a1 : a ≤ 255) (μ : ZMem) : F_Text_isDigit a μ = some (.inr (some (zI (if 48 ≤ a ∧ a ≤ 57 then 1 else 0))), μ) := by
  unfold F_Text_isDigit
  rw [w32_of (a := a) (by omega) (by omega), w32_of (a := 48) (by decide) (by decide), w32_of (a := 57) (by decide) (by decide)]
  by_cases e : a < 48
  · rw [if_pos e, if_neg (by omega)]
  · rw [if_neg e]
    by_cases e2 : 57 < a
    · rw [if_pos e2, if_neg (by omega)]
    · rw [if_neg e2, if_pos (by omega)]
theorem x_num_loop (hT : q_T T E) (h : x_T T E ν) (x0 : 0 ≤ x) (x1 : x ≤ E) (K : Int → Int → Option ZRes) : ∀ (k n i : Nat), i + k = q_ds T E x → k < n → L_Text_takeNumber_11 lo hi x (x_t ν p w) K n (x + i) (q_vl T x (q_m4 i)) = K (x + q_ds T E x) (q_vl T x (q_m4 (q_ds T E x)))
  | 0, n, i, hi', hn => by
    obtain ⟨n, rfl⟩ : ∃ i, n = i + 1 := ⟨n - 1, by omega⟩
    have hE := hT.1
    obtain ⟨d1, d2, d3⟩ := q_ds_in hT x0 x1
    obtain rfl : i = q_ds T E x := by omega
    rw [L_Text_takeNumber_11, x_t_1, h.1, w32_of (by omega) (by omega), w32_of (by omega) (by omega)]
    by_cases e : E ≤ x + q_ds T E x
    · rw [if_pos e]
    · have tb := hT.2 (x + q_ds T E x) (by omega) (by omega)
      rw [if_neg e, zRd_ok (by omega) (by omega) (by omega), x_t_c (by decide), h.2 _ (by omega) (by omega), x_digit tb.1 tb.2, zC_I, if_neg (show ¬ (48 ≤ T (x + q_ds T E x) ∧ T (x + q_ds T E x) ≤ 57) by omega), w32_of (by decide) (by decide), if_pos rfl]
  | k + 1, n, i, hi', hn => by
    obtain ⟨n, rfl⟩ : ∃ i, n = i + 1 := ⟨n - 1, by omega⟩
    have hE := hT.1
    obtain ⟨d1, d2, d3⟩ := q_ds_in hT x0 x1
    have db := d2 i (by omega)
    rw [L_Text_takeNumber_11, x_t_1, h.1, w32_of (by omega) (by omega), w32_of (by omega) (by omega), if_neg (by omega), zRd_ok (by omega) (by omega) (by omega), x_t_c (by decide), h.2 _ (by omega) (by omega), x_digit (by omega) (by omega), zC_I, if_pos db, w32_of (by decide) (by decide), if_neg (by decide), show x + (i : Int) - x = i by omega, w32_of (by decide) (by decide), w32_of (by omega) (by omega)]
    unfold J_Text_takeNumber_59
    by_cases e : (4 : Int) ≤ i
    · rw [if_pos e, zLet_eq, show x + (i : Int) + 1 = x + ((i + 1 : Nat) : Int) by omega]
      have := x_num_loop hT h x0 x1 K k n (i + 1) (by omega) (by omega)
      rw [show q_m4 (i + 1) = q_m4 i by unfold q_m4; rw [if_neg (by omega)]; split <;> omega] at this
      exact this
    · rw [if_neg e, zRd_ok (by omega) (by omega) (by omega), x_t_c (by decide), h.2 _ (by omega) (by omega), zLet_eq, zLet_eq, show x + (i : Int) + 1 = x + ((i + 1 : Nat) : Int) by omega]
      have := x_num_loop hT h x0 x1 K k n (i + 1) (by omega) (by omega)
      rw [show q_m4 (i + 1) = i + 1 by unfold q_m4; rw [if_pos (by omega)]] at this
      rw [show q_m4 i = i by unfold q_m4; rw [if_pos (by omega)]]
      exact this
theorem x_numY (hT : q_T T E) (h : x_T T E ν) (p0 : 0 ≤ p) (p1 : p ≤ E) (l0 : -1 ≤ lo) (l1 : lo ≤ 10000) (h0 : -1 ≤ hi) (h1 : hi ≤ 10000) (hn : q_no T E lo hi (q_nx T E p)) : F_Text_takeNumber lo hi (x_t ν p w) = some (.inr (some (zI (q_vl T (q_nx T E p) (q_ds T E (q_nx T E p))))), x_t ν (q_nx T E p + q_ds T E (q_nx T E p)) w) := by
  have hE := hT.1
  have hx := q_nx_in hT p0 p1
  have x0 : 0 ≤ q_nx T E p := by omega
  obtain ⟨d1, d2, d3⟩ := q_ds_in (x := q_nx T E p) hT x0 hx.2.1
  obtain ⟨n1, n2, n3, n4⟩ := hn
  have hv := q_vl_small (k := q_ds T E (q_nx T E p)) (by omega) d2
  unfold F_Text_takeNumber
  rw [x_next hT h p0 p1, zC_I]
  have := x_num_loop (lo := lo) (hi := hi) (p := q_nx T E p) (w := w) hT h x0 hx.2.1 (fun k9 k10 => if w32 k9 = w32 (q_nx T E p) then (J_Text_takeNumber_91 (q_nx T E p) (x_t ν (q_nx T E p) w)) else (if w32 4 < w32 (k9 - q_nx T E p) then (J_Text_takeNumber_91 (q_nx T E p) (x_t ν (q_nx T E p) w)) else (if w32 k10 < w32 lo then (J_Text_takeNumber_91 (q_nx T E p) (x_t ν (q_nx T E p) w)) else (if w32 k10 ≤ w32 hi then (zLet (zUp (x_t ν (q_nx T E p) w) 0 2 k9) (fun μ13 => some (.inr (some (zI k10)), μ13))) else (J_Text_takeNumber_91 (q_nx T E p) (x_t ν (q_nx T E p) w)))))) (q_ds T E (q_nx T E p)) zN 0 (by omega) (zN_gt (by omega))
  rw [show q_nx T E p + ((0 : Nat) : Int) = q_nx T E p by omega] at this
  refine this.trans ?_
  rw [show q_m4 (q_ds T E (q_nx T E p)) = q_ds T E (q_nx T E p) by unfold q_m4; rw [if_pos (by omega)], w32_of (by omega) (by omega), w32_of (by omega) (by omega), if_neg (by omega), show q_nx T E p + (q_ds T E (q_nx T E p) : Int) - q_nx T E p = q_ds T E (q_nx T E p) by omega, w32_of (by decide) (by decide), w32_of (by omega) (by omega), if_neg (by omega), w32_of (by omega) (by omega), w32_of (by omega) (by omega), if_neg (by omega), w32_of (by omega) (by omega), if_pos n4, zLet_eq, x_t_p]
theorem x_num91 : J_Text_takeNumber_91 x (x_t ν p w) = some (.inr (some (zI (-1))), x_t ν p x) := by
  unfold J_Text_takeNumber_91
  rw [x_refuse, zC_I]
theorem x_numN (hT : q_T T E) (h : x_T T E ν) (p0 : 0 ≤ p) (p1 : p ≤ E) (l0 : -1 ≤ lo) (l1 : lo ≤ 10000) (h0 : -1 ≤ hi) (h1 : hi ≤ 10000) (hn : ¬ q_no T E lo hi (q_nx T E p)) : F_Text_takeNumber lo hi (x_t ν p w) = some (.inr (some (zI (-1))), x_t ν (q_nx T E p) (q_nx T E p)) := by
  have hE := hT.1
  have hx := q_nx_in hT p0 p1
  have x0 : 0 ≤ q_nx T E p := by omega
  obtain ⟨d1, d2, d3⟩ := q_ds_in (x := q_nx T E p) hT x0 hx.2.1
  unfold F_Text_takeNumber
  rw [x_next hT h p0 p1, zC_I]
  have := x_num_loop (lo := lo) (hi := hi) (p := q_nx T E p) (w := w) hT h x0 hx.2.1 (fun k9 k10 => if w32 k9 = w32 (q_nx T E p) then (J_Text_takeNumber_91 (q_nx T E p) (x_t ν (q_nx T E p) w)) else (if w32 4 < w32 (k9 - q_nx T E p) then (J_Text_takeNumber_91 (q_nx T E p) (x_t ν (q_nx T E p) w)) else (if w32 k10 < w32 lo then (J_Text_takeNumber_91 (q_nx T E p) (x_t ν (q_nx T E p) w)) else (if w32 k10 ≤ w32 hi then (zLet (zUp (x_t ν (q_nx T E p) w) 0 2 k9) (fun μ13 => some (.inr (some (zI k10)), μ13))) else (J_Text_takeNumber_91 (q_nx T E p) (x_t ν (q_nx T E p) w)))))) (q_ds T E (q_nx T E p)) zN 0 (by omega) (zN_gt (by omega))
  rw [show q_nx T E p + ((0 : Nat) : Int) = q_nx T E p by omega] at this
  refine this.trans ?_
  rw [w32_of (by omega) (by omega), w32_of (by omega) (by omega), show q_nx T E p + (q_ds T E (q_nx T E p) : Int) - q_nx T E p = q_ds T E (q_nx T E p) by omega, w32_of (by decide) (by decide), w32_of (by omega) (by omega), x_num91]
  by_cases e1 : q_nx T E p + (q_ds T E (q_nx T E p) : Int) = q_nx T E p
  · rw [if_pos e1]
  · rw [if_neg e1]
    by_cases e2 : (4 : Int) < q_ds T E (q_nx T E p)
    · rw [if_pos e2]
    · have hv := q_vl_small (k := q_ds T E (q_nx T E p)) (by omega) d2
      rw [if_neg e2, show q_m4 (q_ds T E (q_nx T E p)) = q_ds T E (q_nx T E p) by unfold q_m4; rw [if_pos (by omega)], w32_of (by omega) (by omega), w32_of (by omega) (by omega), w32_of (by omega) (by omega)]
      by_cases e3 : q_vl T (q_nx T E p) (q_ds T E (q_nx T E p)) < lo
      · rw [if_pos e3]
      · rw [if_neg e3, if_neg (fun q => hn ⟨by omega, by omega, by omega, q⟩)]
end TX
