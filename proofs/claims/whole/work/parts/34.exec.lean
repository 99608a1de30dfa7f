/-! ===== running the functions ===== -/
theorem q_le_T {a b : Int} (h : a ≤ b) : (a ≤ b) = True := eq_true h
theorem q_le_F {a b : Int} (h : b < a) : (a ≤ b) = False := eq_false (by omega)
theorem q_lt_T {a b : Int} (h : a < b) : (a < b) = True := eq_true h
theorem q_lt_F {a b : Int} (h : b ≤ a) : (a < b) = False := eq_false (by omega)
theorem q_eq_T {a b : Int} (h : a = b) : (a = b) = True := eq_true h
theorem q_eq_F {a b : Int} (h : a ≠ b) : (a = b) = False := eq_false h
theorem q_ne_c {a b : Nat} (h : Nat.beq a b = false) : a ≠ b := Nat.ne_of_beq_eq_false h
theorem m_lesser {a b : Int} {μ : ZMem} (h1 : -9223372036854775808 ≤ a) (h2 : a < 9223372036854775808) (h3 : -9223372036854775808 ≤ b) (h4 : b < 9223372036854775808) : F_Model_lesser a b μ = some (.inr (some (zJ (q_min a b))), μ) := by
  unfold F_Model_lesser q_min
  rw [w64_of h1 h2, w64_of h3 h4]
  by_cases h : b ≤ a
  · rw [if_pos h, if_pos h]
  · rw [if_neg h, if_neg h]
theorem m_greater {a b : Int} {μ : ZMem} (h1 : -9223372036854775808 ≤ a) (h2 : a < 9223372036854775808) (h3 : -9223372036854775808 ≤ b) (h4 : b < 9223372036854775808) : F_Model_greater a b μ = some (.inr (some (zJ (q_max a b))), μ) := by
  unfold F_Model_greater q_max
  rw [w64_of h1 h2, w64_of h3 h4]
  by_cases h : a ≤ b
  · rw [if_pos h, if_pos h]
  · rw [if_neg h, if_neg h]
theorem m_placeOf (a b : Int) (μ : ZMem) : F_Model_placeOf a b μ = some (.inr (some (zI (5 * a + b))), μ) := by
  unfold F_Model_placeOf
  rw [Int.zero_add]
theorem m_dealAt (a b : Int) (μ : ZMem) : F_Model_dealAt a b μ = some (.inr (some (zI (30 + 4 * a + b))), μ) := Eq.trans rfl rfl
theorem m_ladderAt (a b : Int) (μ : ZMem) : F_Model_ladderAt a b μ = some (.inr (some (zI (54 + 4 * a + b))), μ) := Eq.trans rfl rfl
theorem m_isDealwise {μ : ZMem} (h0 : 0 ≤ μ 2 3) (h1 : μ 2 3 ≤ 1) : F_Model_isDealwise μ = some (.inr (some (zI (if μ 2 3 = 1 then 1 else 0))), μ) := by
  unfold F_Model_isDealwise
  rw [zRd_ok (by omega) (by decide) (by omega), w32_of (by omega) (by omega), w32_of (by omega) (by omega)]
  by_cases h : μ 2 3 = 1
  · rw [if_pos h, if_pos h]
  · rw [if_neg h, if_neg h]
theorem m_isExcused {μ : ZMem} {i d : Int} (h0 : -1 ≤ d) (h1 : d < 6) : F_Model_isExcused i d μ = some (.inr (some (zI (if q_ex (μ 4) i d then 1 else 0))), μ) := by
  unfold F_Model_isExcused
  rw [w32_of (a := d) (by omega) (by omega), w32_of (a := -1) (by omega) (by omega)]
  by_cases h : d = -1
  · rw [if_pos h, if_neg (fun q => q.1 h)]
  · rw [if_neg h, zRd_ok (by omega) (by omega) (by omega), w32_of (a := 1) (by omega) (by omega)]
    by_cases hx : w32 (zand (zshr (μ 4 d) i) 1) = 1
    · rw [if_pos hx, if_pos ⟨h, hx⟩]
    · rw [if_neg hx, if_neg (fun q => hx q.2)]
theorem m_weightOf {μ : ZMem} {i : Int} (h0 : 0 ≤ i) (h1 : i < 6) (hb0 : 0 ≤ μ 5 (5 * i)) (hb1 : μ 5 (5 * i) ≤ 9999) (hf0 : 0 ≤ μ 5 (5 * i + 4)) (hf1 : μ 5 (5 * i + 4) ≤ 1) : F_Model_weightOf i μ = some (.inr (some (zJ (q_wt (μ 5) i))), μ) := by
  unfold F_Model_weightOf q_wt
  simp (disch := omega) only [Int.add_zero, Int.mul_zero, Int.reduceMul, Int.reduceAdd, Int.mul_one, Int.tdiv_eq_ediv_of_nonneg, Int.tmod_eq_emod_of_nonneg, ↓reduceIte, ↓zLet_eq, ↓zRd_ok, ↓zWr_ok, ↓zC_V, ↓zC_I, ↓zC_J, zUp_at, zUp_ne, q_up_at, q_up_ne, w32_of, w64_of, q_le_T, q_le_F, q_lt_T, q_lt_F, q_eq_T, q_eq_F, true_or, or_true, or_false, false_or, m_placeOf, Int.add_zero]
  by_cases h : μ 5 (5 * i + 4) = 1
  · rw [if_pos h, if_pos h]
  · rw [if_neg h, if_neg h]
theorem m_uncalled {μ : ZMem} {m : Nat} (hm : μ 0 5 = m) (h6 : m ≤ 6) {d : Int} (h0 : -1 ≤ d) (h1 : d < 6) : F_Model_uncalled d μ = some (.inr (some (zJ (q_sm (q_wp (μ 4) (μ 5) d) m))), μ) := by
  unfold F_Model_uncalled
  refine q_acc (L := fun n a j => L_Model_uncalled_5 d _ n a j μ) (f := q_wp (μ 4) (μ 5) d) (K := fun k => some (.inr (some (zJ k)), μ)) (fun n a j hj => ?_) (fun n a => ?_) (zN_gt (by omega))
  · simp (disch := omega) only [L_Model_uncalled_5, J_Model_uncalled_40, Int.add_zero, Int.mul_zero, Int.reduceMul, Int.reduceAdd, Int.mul_one, Int.tdiv_eq_ediv_of_nonneg, Int.tmod_eq_emod_of_nonneg, ↓reduceIte, ↓zLet_eq, ↓zRd_ok, ↓zWr_ok, ↓zC_V, ↓zC_I, ↓zC_J, zUp_at, zUp_ne, q_up_at, q_up_ne, w32_of, w64_of, q_le_T, q_le_F, q_lt_T, q_lt_F, q_eq_T, q_eq_F, true_or, or_true, or_false, false_or, m_placeOf, m_isExcused]
    unfold q_wp
    by_cases hx : q_ex (μ 4) j d
    · simp (disch := omega) only [if_pos hx, Int.add_zero, Int.mul_zero, Int.reduceMul, Int.reduceAdd, Int.mul_one, Int.tdiv_eq_ediv_of_nonneg, Int.tmod_eq_emod_of_nonneg, ↓reduceIte, ↓zLet_eq, ↓zRd_ok, ↓zWr_ok, ↓zC_V, ↓zC_I, ↓zC_J, zUp_at, zUp_ne, q_up_at, q_up_ne, w32_of, w64_of, q_le_T, q_le_F, q_lt_T, q_lt_F, q_eq_T, q_eq_F, true_or, or_true, or_false, false_or]
    · simp (disch := omega) only [if_neg hx, Int.add_zero, Int.mul_zero, Int.reduceMul, Int.reduceAdd, Int.mul_one, Int.tdiv_eq_ediv_of_nonneg, Int.tmod_eq_emod_of_nonneg, ↓reduceIte, ↓zLet_eq, ↓zRd_ok, ↓zWr_ok, ↓zC_V, ↓zC_I, ↓zC_J, zUp_at, zUp_ne, q_up_at, q_up_ne, w32_of, w64_of, q_le_T, q_le_F, q_lt_T, q_lt_F, q_eq_T, q_eq_F, true_or, or_true, or_false, false_or]
  · simp (disch := omega) only [L_Model_uncalled_5, Int.add_zero, Int.mul_zero, Int.reduceMul, Int.reduceAdd, Int.mul_one, Int.tdiv_eq_ediv_of_nonneg, Int.tmod_eq_emod_of_nonneg, ↓reduceIte, ↓zLet_eq, ↓zRd_ok, ↓zWr_ok, ↓zC_V, ↓zC_I, ↓zC_J, zUp_at, zUp_ne, q_up_at, q_up_ne, w32_of, w64_of, q_le_T, q_le_F, q_lt_T, q_lt_F, q_eq_T, q_eq_F, true_or, or_true, or_false, false_or]
