/-! ===== the class's books hold the row's numbers ===== -/
def b_bk (dl : Nat) (tm s : Int → Int) (ν : ZMem) : Prop :=
  (∀ k, 0 ≤ k → k < 7 → ν 1 k = tm k) ∧ (∀ k, 0 ≤ k → k < 24 → ν 2 k = s (62 + k)) ∧ (∀ k, 24 ≤ k → k < 32 → ν 2 k = s (30 + k)) ∧ (∀ k, 0 ≤ k → k < 24 → ν 3 k = s (30 + k)) ∧ (∀ k, 0 ≤ k → k < 4 → ν 4 k = s (86 + k)) ∧ ν 0 5 = dl ∧ ν 0 6 = s 90 ∧ ν 0 7 = s 91
/-- the ladder of the class's number a is the row's l -/
def b_ll (a l : Int) : Prop := (a = 6 ∧ l = 0) ∨ (0 ≤ a ∧ a < 6 ∧ l = 2 + a)
section BK
variable {dl : Nat} {tm s : Int → Int} {ν : ZMem}
theorem b_bk.tt (h : b_bk dl tm s ν) : ν 1 0 = tm 0 ∧ ν 1 1 = tm 1 ∧ ν 1 2 = tm 2 ∧ ν 1 3 = tm 3 ∧ ν 1 4 = tm 4 ∧ ν 1 5 = tm 5 ∧ ν 1 6 = tm 6 :=
  ⟨h.1 0 (by decide) (by decide), h.1 1 (by decide) (by decide), h.1 2 (by decide) (by decide), h.1 3 (by decide) (by decide), h.1 4 (by decide) (by decide), h.1 5 (by decide) (by decide), h.1 6 (by decide) (by decide)⟩
theorem b_bk.ru {a l w : Int} (h : b_bk dl tm s ν) (hl : b_ll a l) (h0 : 0 ≤ w) (h1 : w < 4) : ν 2 (a * 4 + w) = s (54 + 4 * l + w) := by
  rcases hl with ⟨rfl, rfl⟩ | ⟨a0, a1, rfl⟩
  · rw [h.2.2.1 _ (by omega) (by omega)]
    congr 1
    omega
  · rw [h.2.1 _ (by omega) (by omega)]
    congr 1
    omega
theorem b_bk.ru0 {a l : Int} (h : b_bk dl tm s ν) (hl : b_ll a l) : ν 2 (a * 4) = s (54 + 4 * l) := by
  have := h.ru hl (w := 0) (by decide) (by decide)
  rwa [Int.add_zero, Int.add_zero] at this
theorem b_bk.bu (h : b_bk dl tm s ν) : ν 2 24 = s 54 ∧ ν 2 27 = s 57 ∧ ν 2 28 = s 58 ∧ ν 2 29 = s 59 :=
  ⟨h.2.2.1 24 (by decide) (by decide), h.2.2.1 27 (by decide) (by decide), h.2.2.1 28 (by decide) (by decide), h.2.2.1 29 (by decide) (by decide)⟩
theorem b_bk.de {d w : Int} (h : b_bk dl tm s ν) (d0 : 0 ≤ d) (d1 : d < 6) (h0 : 0 ≤ w) (h1 : w < 4) : ν 3 (d * 4 + w) = s (30 + 4 * d + w) := by
  rw [h.2.2.2.1 _ (by omega) (by omega)]
  congr 1
  omega
theorem b_bk.de0 {d : Int} (h : b_bk dl tm s ν) (d0 : 0 ≤ d) (d1 : d < 6) : ν 3 (d * 4) = s (30 + 4 * d) := by
  have := h.de (w := 0) d0 d1 (by decide) (by decide)
  rwa [Int.add_zero, Int.add_zero] at this
theorem b_bk.pu (h : b_bk dl tm s ν) : ν 4 0 = s 86 ∧ ν 4 1 = s 87 ∧ ν 4 2 = s 88 ∧ ν 4 3 = s 89 :=
  ⟨h.2.2.2.2.1 0 (by decide) (by decide), h.2.2.2.2.1 1 (by decide) (by decide), h.2.2.2.2.1 2 (by decide) (by decide), h.2.2.2.2.1 3 (by decide) (by decide)⟩
end BK
theorem q_cd_iff {K C G T y : Int} : q_cd K C G T y ↔ C * (G + T) - 100 * T ≤ K * y / 100 * 100 - C * y := by
  unfold q_cd q_lk
  rw [show C * (G + T + y) = C * (G + T) + C * y from Int.mul_add _ _ _]
  omega
theorem b_catchUp {ν : ZMem} {G T left : Int} (hC0 : 0 ≤ ν 1 2) (hC1 : ν 1 2 ≤ 50) (hK0 : 0 ≤ ν 1 1) (hK1 : ν 1 1 ≤ 100) (hG0 : 0 ≤ G) (hG1 : G ≤ 10000000000000) (hT0 : 0 ≤ T) (hT1 : T ≤ 10000000000000) (hl0 : 0 ≤ left) (hl1 : left ≤ 1000000) :
    F_Books_catchUp G T left ν = some (.inr (some (zJ (q_f2 (ν 1) G T left))), ν) := by
  have hp := q_mb hC0 hC1 (show 0 ≤ G + T by omega) (show G + T ≤ 20000000000000 by omega)
  unfold F_Books_catchUp
  by_cases hg : ν 1 1 - ν 1 2 ≤ 0
  · have e : q_f2 (ν 1) G T left = 0 := if_neg (by omega)
    rw [e]
    simp (disch := omega) only [Int.add_zero, Int.mul_zero, Int.reduceMul, Int.reduceAdd, Int.mul_one, Int.tdiv_eq_ediv_of_nonneg, Int.tmod_eq_emod_of_nonneg, ↓reduceIte, ↓zLet_eq, ↓zRd_ok, ↓zWr_ok, ↓zC_V, ↓zC_I, ↓zC_J, zUp_at, zUp_ne, q_up_at, q_up_ne, w32_of, w64_of, q_le_T, q_le_F, q_lt_T, q_lt_F, q_eq_T, q_eq_F, true_or, or_true, or_false, false_or, false_and, and_false]
  · have hK : ν 1 2 < ν 1 1 := by omega
    have ef : q_f2 (ν 1) G T left = if q_cu (ν 1 1) (ν 1 2) G T ≤ left then q_cu (ν 1 1) (ν 1 2) G T else left := if_pos hK
    have hcu := q_cu_nn (G := G) (T := T) hK
    by_cases hlk : ν 1 2 * (G + T) - 100 * T ≤ 0
    · have h0 : q_cd (ν 1 1) (ν 1 2) G T 0 := q_cd_iff.mpr (by simp; omega)
      have h1 := q_cu_le hK (Int.le_refl 0) h0
      have e : q_f2 (ν 1) G T left = 0 := by
        rw [ef]
        split <;> omega
      rw [e]
      simp (disch := omega) only [Int.add_zero, Int.mul_zero, Int.reduceMul, Int.reduceAdd, Int.mul_one, Int.tdiv_eq_ediv_of_nonneg, Int.tmod_eq_emod_of_nonneg, ↓reduceIte, ↓zLet_eq, ↓zRd_ok, ↓zWr_ok, ↓zC_V, ↓zC_I, ↓zC_J, zUp_at, zUp_ne, q_up_at, q_up_ne, w32_of, w64_of, q_le_T, q_le_F, q_lt_T, q_lt_F, q_eq_T, q_eq_F, true_or, or_true, or_false, false_or, false_and, and_false]
    · generalize hlack : ν 1 2 * (G + T) - 100 * T = lack at *
      generalize hgap : ν 1 1 - ν 1 2 = gap at *
      have hy0 : (lack + gap - 1) / gap ≤ lack + gap - 1 := Int.ediv_le_self _ (by omega)
      have hy1 : 0 ≤ (lack + gap - 1) / gap := Int.ediv_nonneg (by omega) (by omega)
      have hlow : ∀ x, 0 ≤ x → x < (lack + gap - 1) / gap → ¬ q_cd (ν 1 1) (ν 1 2) G T x := fun x x0 x1 hx => by
        have h1 := q_cd_lo hx
        rw [hlack, hgap] at h1
        have h2 : (x + 1) * gap ≤ lack + gap - 1 := by
          have h3 : (x + 1) * gap ≤ (lack + gap - 1) / gap * gap := Int.mul_le_mul_of_nonneg_right (by omega) (by omega)
          have h4 : (lack + gap - 1) / gap * gap ≤ lack + gap - 1 := Int.ediv_mul_le _ (by omega)
          omega
        rw [Int.add_mul, Int.mul_comm x gap] at h2
        omega
      have hhi : q_cd (ν 1 1) (ν 1 2) G T ((lack + gap - 1) / gap + 99) := by
        refine q_cd_hi ?_
        rw [hlack, hgap, Int.mul_add]
        have h1 := Int.lt_ediv_add_one_mul_self (lack + gap - 1) (show 0 < gap by omega)
        rw [Int.add_mul, Int.mul_comm _ gap] at h1
        omega
      generalize hY : (lack + gap - 1) / gap = y0 at *
      have key : ∀ (k n t : Nat), t + k = 100 → k < n → (∀ x, 0 ≤ x → x < y0 + t → ¬ q_cd (ν 1 1) (ν 1 2) G T x) → L_Books_catchUp_66 left (ν 1 2) lack ν (some (.inr (some (zJ left)), ν)) n (y0 + t) t = some (.inr (some (zJ (q_f2 (ν 1) G T left))), ν) := by
        intro k
        induction k with
        | zero =>
          intro n t ht hn h
          exact absurd hhi (h _ (by omega) (by omega))
        | succ k ih =>
          intro n t ht hn h
          obtain ⟨n, rfl⟩ : ∃ i, n = i + 1 := ⟨n - 1, by omega⟩
          by_cases hle : left ≤ y0 + t
          · have h1 := q_cu_ge (G := G) (T := T) (y := left) hK (by omega) (fun x x0 x1 => h x x0 (by omega))
            have e : q_f2 (ν 1) G T left = left := by
              rw [ef]
              split <;> omega
            rw [e]
            simp (disch := omega) only [L_Books_catchUp_66, Int.add_zero, Int.mul_zero, Int.reduceMul, Int.reduceAdd, Int.mul_one, Int.tdiv_eq_ediv_of_nonneg, Int.tmod_eq_emod_of_nonneg, ↓reduceIte, ↓zLet_eq, ↓zRd_ok, ↓zWr_ok, ↓zC_V, ↓zC_I, ↓zC_J, zUp_at, zUp_ne, q_up_at, q_up_ne, w32_of, w64_of, q_le_T, q_le_F, q_lt_T, q_lt_F, q_eq_T, q_eq_F, true_or, or_true, or_false, false_or, false_and, and_false]
          · have hp1 := q_mb hK0 hK1 (show 0 ≤ y0 + t by omega) (show y0 + t ≤ 1000000 by omega)
            have hp2 := q_mb hC0 hC1 (show 0 ≤ y0 + t by omega) (show y0 + t ≤ 1000000 by omega)
            by_cases hc : q_cd (ν 1 1) (ν 1 2) G T (y0 + t)
            · have h1 := q_cu_le hK (by omega) hc
              have h2 := q_cu_ge (G := G) (T := T) (y := y0 + t) hK (by omega) h
              have e : q_f2 (ν 1) G T left = y0 + t := by
                rw [ef]
                split <;> omega
              have hc' := q_cd_iff.mp hc
              rw [hlack] at hc'
              rw [e]
              simp (disch := omega) only [L_Books_catchUp_66, Int.add_zero, Int.mul_zero, Int.reduceMul, Int.reduceAdd, Int.mul_one, Int.tdiv_eq_ediv_of_nonneg, Int.tmod_eq_emod_of_nonneg, ↓reduceIte, ↓zLet_eq, ↓zRd_ok, ↓zWr_ok, ↓zC_V, ↓zC_I, ↓zC_J, zUp_at, zUp_ne, q_up_at, q_up_ne, w32_of, w64_of, q_le_T, q_le_F, q_lt_T, q_lt_F, q_eq_T, q_eq_F, true_or, or_true, or_false, false_or, false_and, and_false]
            · have hc' : ¬ (lack ≤ ν 1 1 * (y0 + t) / 100 * 100 - ν 1 2 * (y0 + t)) := fun hh => hc (q_cd_iff.mpr (by rw [hlack]; exact hh))
              have := ih n (t + 1) (by omega) (by omega) (fun x x0 x1 => by
                by_cases ex : x = y0 + t
                · rw [ex]; exact hc
                · exact h x x0 (by omega))
              rw [← this]
              simp (disch := omega) only [L_Books_catchUp_66, Int.add_zero, Int.mul_zero, Int.reduceMul, Int.reduceAdd, Int.mul_one, Int.tdiv_eq_ediv_of_nonneg, Int.tmod_eq_emod_of_nonneg, ↓reduceIte, ↓zLet_eq, ↓zRd_ok, ↓zWr_ok, ↓zC_V, ↓zC_I, ↓zC_J, zUp_at, zUp_ne, q_up_at, q_up_ne, w32_of, w64_of, q_le_T, q_le_F, q_lt_T, q_lt_F, q_eq_T, q_eq_F, true_or, or_true, or_false, false_or, false_and, and_false]
              rw [show y0 + (t : Int) + 1 = y0 + ((t + 1 : Nat) : Int) by omega]
              rfl
      have := key 100 zN 0 (by omega) (zN_gt (by omega)) (fun x x0 x1 => hlow x x0 (by omega))
      rw [show y0 + ((0 : Nat) : Int) = y0 by omega] at this
      rw [← this]
      rw [zRd_ok (by omega) (by omega) (by omega), zLet_eq, zRd_ok (by omega) (by omega) (by omega), w32_of (by omega) (by omega), w32_of (by omega) (by omega), zLet_eq, zLet_eq, hgap, hlack, w64_of (by omega) (by omega), w64_of (by omega) (by omega), w64_of (by omega) (by omega), if_neg (by omega), if_pos (by omega), if_neg (by omega), zLet_eq, w64_of (by omega) (by omega), Int.tdiv_eq_ediv_of_nonneg (by omega), hY]
      rfl
