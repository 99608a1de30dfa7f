/-! ===== the reference: the end, a move, what can be ===== -/
theorem m_fromHeld {μ : ZMem} {m dl : Nat} {B : Int} (hi : q_inv m dl B (μ 5)) (hB0 : 0 ≤ B) (hB1 : B ≤ 900) : F_Model_fromHeld μ = some (.inr (some (zJ (q_hl (μ 5)))), μ) := by
  have h1 := hi.2.2.2.1
  unfold q_iP at h1
  have h2 := hi.2.2.1.1 0 (by decide)
  have e : (54 + 4 * ((0 : Nat) : Int) + 3) = 57 := rfl
  rw [e] at h2
  have hd : 0 ≤ q_max 0 (μ 5 86 - μ 5 57) ∧ q_max 0 (μ 5 86 - μ 5 57) ≤ 100000 * B := by unfold q_max; split <;> omega
  unfold F_Model_fromHeld
  simp (disch := omega) only [Int.add_zero, Int.mul_zero, Int.reduceMul, Int.reduceAdd, Int.mul_one, Int.tdiv_eq_ediv_of_nonneg, Int.tmod_eq_emod_of_nonneg, ↓reduceIte, ↓zLet_eq, ↓zRd_ok, ↓zWr_ok, ↓zC_V, ↓zC_I, ↓zC_J, zUp_at, zUp_ne, q_up_at, q_up_ne, w32_of, w64_of, q_le_T, q_le_F, q_lt_T, q_lt_F, q_eq_T, q_eq_F, true_or, or_true, or_false, false_or, false_and, and_false, m_ladderAt, m_greater, m_lesser]
  rfl
theorem m_fromOut {μ : ZMem} {m dl : Nat} {B : Int} (hi : q_inv m dl B (μ 5)) (hB0 : 0 ≤ B) (hB1 : B ≤ 900) (ht : q_tm (μ 2)) : F_Model_fromOut μ = some (.inr (some (zJ (q_ou (μ 2) (μ 5)))), μ) := by
  have h1 := hi.2.2.2.1
  unfold q_iP at h1
  have h2 := hi.2.2.1.1 0 (by decide)
  have e : (54 + 4 * ((0 : Nat) : Int) + 3) = 57 := rfl
  rw [e] at h2
  have hc := hi.cw ht
  have hd : 0 ≤ q_max 0 (μ 5 86 - μ 5 57) ∧ q_max 0 (μ 5 86 - μ 5 57) ≤ 100000 * B := by unfold q_max; split <;> omega
  obtain ⟨-, -, -, -, ⟨c1, c2⟩, -⟩ := ht
  have hp := q_mb (show 0 ≤ μ 5 87 by omega) (show μ 5 87 ≤ 1000000000 * 900 by omega) c1 c2
  unfold F_Model_fromOut
  simp (disch := omega) only [Int.add_zero, Int.mul_zero, Int.reduceMul, Int.reduceAdd, Int.mul_one, Int.tdiv_eq_ediv_of_nonneg, Int.tmod_eq_emod_of_nonneg, ↓reduceIte, ↓zLet_eq, ↓zRd_ok, ↓zWr_ok, ↓zC_V, ↓zC_I, ↓zC_J, zUp_at, zUp_ne, q_up_at, q_up_ne, w32_of, w64_of, q_le_T, q_le_F, q_lt_T, q_lt_F, q_eq_T, q_eq_F, true_or, or_true, or_false, false_or, false_and, and_false, m_ladderAt, m_greater, m_fromHeld hi hB0 hB1]
  rw [m_lesser (by omega) (by omega) (by omega) (by omega)]
  rfl
theorem m_claw0 {μ : ZMem} {m dl : Nat} {B : Int} (hi : q_inv m dl B (μ 5)) (hB0 : 0 ≤ B) (hB1 : B ≤ 900) (ht : q_tm (μ 2)) : F_Model_claw0 μ = some (.inr (some (zJ (q_cw (μ 2) (μ 5)))), μ) := by
  have h1 := hi.2.2.2.1
  unfold q_iP at h1
  unfold F_Model_claw0 q_cw
  simp (disch := omega) only [Int.add_zero, Int.mul_zero, Int.reduceMul, Int.reduceAdd, Int.mul_one, Int.tdiv_eq_ediv_of_nonneg, Int.tmod_eq_emod_of_nonneg, ↓reduceIte, ↓zLet_eq, ↓zRd_ok, ↓zWr_ok, ↓zC_V, ↓zC_I, ↓zC_J, zUp_at, zUp_ne, q_up_at, q_up_ne, w32_of, w64_of, q_le_T, q_le_F, q_lt_T, q_lt_F, q_eq_T, q_eq_F, true_or, or_true, or_false, false_or, false_and, and_false]
  by_cases h : μ 5 91 = 1
  · rw [if_pos h, if_pos h]
  · rw [if_neg h, if_neg h, m_fromHeld hi hB0 hB1]
    simp only [↓zC_J]
    rw [m_fromOut hi hB0 hB1 ht]
    simp only [↓zC_J]
theorem q_en_at {tm s : Int → Int} {k : Int} (h : k < 87 ∨ k = 90 ∨ 92 ≤ k) : q_en tm s k = s k := by
  unfold q_en
  simp (disch := omega) only [Int.add_zero, Int.mul_zero, Int.reduceMul, Int.reduceAdd, Int.mul_one, Int.tdiv_eq_ediv_of_nonneg, Int.tmod_eq_emod_of_nonneg, ↓reduceIte, ↓zLet_eq, ↓zRd_ok, ↓zWr_ok, ↓zC_V, ↓zC_I, ↓zC_J, zUp_at, zUp_ne, q_up_at, q_up_ne, w32_of, w64_of, q_le_T, q_le_F, q_lt_T, q_lt_F, q_eq_T, q_eq_F, true_or, or_true, or_false, false_or, false_and, and_false]
theorem m_ends {μ : ZMem} {m dl : Nat} {B : Int} (fe : Int → Int) (hm : μ 0 5 = m) (h6 : m ≤ 6) (hi : q_inv m dl B (μ 5)) (hB0 : 0 ≤ B) (hB1 : B ≤ 800) (ht : q_tm (μ 2)) (hdo0 : 0 ≤ μ 0 14) (hdo1 : μ 0 14 ≤ 60) :
    ∃ μ', F_Model_ends μ = some (.inr none, μ') ∧ m_kp μ μ' ∧ μ' 0 = μ 0 ∧ (μ' 5, μ' 6, μ' 7, fe) = q_end m (μ 2) (μ 4) (μ 5, μ 6, μ 7, fe) ∧ μ' 9 = q_up (μ 9) (μ 0 14) (q_hl (μ 5) + q_ou (μ 2) (μ 5)) ∧ μ' 10 = μ 10 := by
  have h1 := hi.2.2.2.1
  unfold q_iP at h1
  have hc := hi.cw ht
  unfold F_Model_ends
  rw [m_fromHeld hi hB0 (by omega)]
  simp only [↓zC_J]
  rw [m_fromOut hi hB0 (by omega) ht]
  simp only [↓zC_J]
  have eqd : q_end m (μ 2) (μ 4) (μ 5, μ 6, μ 7, fe) = (q_gt m (q_shr m (q_wg (μ 4) (q_en (μ 2) (μ 5)) (-1)) (q_hl (μ 5) + q_ou (μ 2) (μ 5))) (q_en (μ 2) (μ 5)), μ 6, q_tr m (q_en (μ 2) (μ 5) 90) (q_shr m (q_wg (μ 4) (q_en (μ 2) (μ 5)) (-1)) (q_hl (μ 5) + q_ou (μ 2) (μ 5))) (μ 7), fe) := rfl
  rw [eqd, q_en_at (by omega)]
  have ege : ∀ i : Nat, i < m → q_shr m (q_wg (μ 4) (q_en (μ 2) (μ 5)) (-1)) (q_hl (μ 5) + q_ou (μ 2) (μ 5)) i = q_shr m (q_wg (μ 4) (μ 5) (-1)) (q_hl (μ 5) + q_ou (μ 2) (μ 5)) i := q_shr_congr (fun i hii => q_wg_congr (q_en_at (by omega)) (q_en_at (by omega)))
  rw [q_gt_congr ege, q_tr_congr ege]
  have een : q_en (μ 2) (μ 5) = fun k => if k = 87 then μ 5 k + (μ 5 88 - q_hl (μ 5) - q_ou (μ 2) (μ 5)) else if k = 88 then 0 else if k = 89 then μ 5 k + (q_hl (μ 5) + q_ou (μ 2) (μ 5)) else if k = 91 then 1 else μ 5 k := rfl
  generalize q_hl (μ 5) = x at *
  generalize q_ou (μ 2) (μ 5) = y at *
  simp (disch := omega) only [Int.add_zero, Int.mul_zero, Int.reduceMul, Int.reduceAdd, Int.mul_one, Int.tdiv_eq_ediv_of_nonneg, Int.tmod_eq_emod_of_nonneg, ↓reduceIte, ↓zLet_eq, ↓zRd_ok, ↓zWr_ok, ↓zC_V, ↓zC_I, ↓zC_J, zUp_at, zUp_ne, q_up_at, q_up_ne, w32_of, w64_of, q_le_T, q_le_F, q_lt_T, q_lt_F, q_eq_T, q_eq_F, true_or, or_true, or_false, false_or, false_and, and_false]
  obtain ⟨μ1, r1, f1, g5, g7⟩ := m_getsAll (μ := zUp (zUp (zUp (zUp (zUp μ 5 88 (μ 5 88 - x)) 5 87 (μ 5 87 + (μ 5 88 - x - y))) 5 88 0) 5 89 (μ 5 89 + (x + y))) 9 (μ 0 14) (x + y)) (m := m) (sum := x + y) (d := -1) (by simp (disch := omega) only [zUp_ne]; exact hm) h6 (by decide) (by decide) (fun i hii => by
      simp (disch := omega) only [zUp_ne, zUp_at, q_up_ne]
      have := hi.1 i hii
      omega) (by omega) (by omega) (by simp (disch := omega) only [zUp_ne, zUp_at, q_up_ne]; omega) (by simp (disch := omega) only [zUp_ne, zUp_at, q_up_ne]; omega)
  simp (disch := omega) only [zUp_ne, zUp_at, q_up_ne] at g5 g7 f1
  have ept : ∀ i : Nat, i < m → q_shr m (q_wg (μ 4) (q_up (q_up (q_up (q_up (μ 5) 88 (μ 5 88 - x)) 87 (μ 5 87 + (μ 5 88 - x - y))) 88 0) 89 (μ 5 89 + (x + y))) (-1)) (x + y) i = q_shr m (q_wg (μ 4) (μ 5) (-1)) (x + y) i := q_shr_congr (fun i hii => q_wg_congr (by simp (disch := omega) only [q_up_ne]) (by simp (disch := omega) only [q_up_ne]))
  rw [q_gt_congr ept] at g5
  rw [q_tr_congr ept] at g7
  rw [r1]
  simp (disch := omega) only [Int.add_zero, Int.mul_zero, Int.reduceMul, Int.reduceAdd, Int.mul_one, Int.tdiv_eq_ediv_of_nonneg, Int.tmod_eq_emod_of_nonneg, ↓reduceIte, ↓zLet_eq, ↓zRd_ok, ↓zWr_ok, ↓zC_V, ↓zC_I, ↓zC_J, zUp_at, zUp_ne, q_up_at, q_up_ne, w32_of, w64_of, q_le_T, q_le_F, q_lt_T, q_lt_F, q_eq_T, q_eq_F, true_or, or_true, or_false, false_or, false_and, and_false]
  refine ⟨_, rfl, m_kp.of (fun c c5 c6 c7 c9 c10 c19 c20 c21 c22 => ?_), ?_, ?_, ?_, ?_⟩
  · rw [zUp_ne c5, f1 c c5 c7 c19 c20 c21]
    simp (disch := omega) only [zUp_ne]
  · rw [zUp_ne (by decide), f1 0 (by decide) (by decide) (by decide) (by decide) (by decide)]
    simp (disch := omega) only [zUp_ne]
  · rw [zUp_at, zUp_ne (by decide), zUp_ne (by decide), f1 6 (by decide) (by decide) (by decide) (by decide) (by decide), g7, g5]
    simp (disch := omega) only [zUp_ne]
    congr 1
    rw [een]
    generalize q_shr m (q_wg (μ 4) (μ 5) (-1)) (x + y) = pt
    funext k
    by_cases hk : k < 30
    · unfold q_gt
      simp (disch := omega) only [Int.add_zero, Int.mul_zero, Int.reduceMul, Int.reduceAdd, Int.mul_one, Int.tdiv_eq_ediv_of_nonneg, Int.tmod_eq_emod_of_nonneg, ↓reduceIte, ↓zLet_eq, ↓zRd_ok, ↓zWr_ok, ↓zC_V, ↓zC_I, ↓zC_J, zUp_at, zUp_ne, q_up_at, q_up_ne, w32_of, w64_of, q_le_T, q_le_F, q_lt_T, q_lt_F, q_eq_T, q_eq_F, true_or, or_true, or_false, false_or, false_and, and_false]
    · rw [q_gt_ne (by omega)]
      by_cases k1 : k = 91
      · subst k1; simp (disch := omega) only [Int.add_zero, Int.mul_zero, Int.reduceMul, Int.reduceAdd, Int.mul_one, Int.tdiv_eq_ediv_of_nonneg, Int.tmod_eq_emod_of_nonneg, ↓reduceIte, ↓zLet_eq, ↓zRd_ok, ↓zWr_ok, ↓zC_V, ↓zC_I, ↓zC_J, zUp_at, zUp_ne, q_up_at, q_up_ne, w32_of, w64_of, q_le_T, q_le_F, q_lt_T, q_lt_F, q_eq_T, q_eq_F, true_or, or_true, or_false, false_or, false_and, and_false]
      · rw [q_up_ne k1, q_gt_ne (by omega)]
        by_cases k2 : k = 87
        · subst k2; simp (disch := omega) only [Int.add_zero, Int.mul_zero, Int.reduceMul, Int.reduceAdd, Int.mul_one, Int.tdiv_eq_ediv_of_nonneg, Int.tmod_eq_emod_of_nonneg, ↓reduceIte, ↓zLet_eq, ↓zRd_ok, ↓zWr_ok, ↓zC_V, ↓zC_I, ↓zC_J, zUp_at, zUp_ne, q_up_at, q_up_ne, w32_of, w64_of, q_le_T, q_le_F, q_lt_T, q_lt_F, q_eq_T, q_eq_F, true_or, or_true, or_false, false_or, false_and, and_false]
        · by_cases k3 : k = 88
          · subst k3; simp (disch := omega) only [Int.add_zero, Int.mul_zero, Int.reduceMul, Int.reduceAdd, Int.mul_one, Int.tdiv_eq_ediv_of_nonneg, Int.tmod_eq_emod_of_nonneg, ↓reduceIte, ↓zLet_eq, ↓zRd_ok, ↓zWr_ok, ↓zC_V, ↓zC_I, ↓zC_J, zUp_at, zUp_ne, q_up_at, q_up_ne, w32_of, w64_of, q_le_T, q_le_F, q_lt_T, q_lt_F, q_eq_T, q_eq_F, true_or, or_true, or_false, false_or, false_and, and_false]
          · by_cases k4 : k = 89
            · subst k4; simp (disch := omega) only [Int.add_zero, Int.mul_zero, Int.reduceMul, Int.reduceAdd, Int.mul_one, Int.tdiv_eq_ediv_of_nonneg, Int.tmod_eq_emod_of_nonneg, ↓reduceIte, ↓zLet_eq, ↓zRd_ok, ↓zWr_ok, ↓zC_V, ↓zC_I, ↓zC_J, zUp_at, zUp_ne, q_up_at, q_up_ne, w32_of, w64_of, q_le_T, q_le_F, q_lt_T, q_lt_F, q_eq_T, q_eq_F, true_or, or_true, or_false, false_or, false_and, and_false]
            · simp (disch := omega) only [Int.add_zero, Int.mul_zero, Int.reduceMul, Int.reduceAdd, Int.mul_one, Int.tdiv_eq_ediv_of_nonneg, Int.tmod_eq_emod_of_nonneg, ↓reduceIte, ↓zLet_eq, ↓zRd_ok, ↓zWr_ok, ↓zC_V, ↓zC_I, ↓zC_J, zUp_at, zUp_ne, q_up_at, q_up_ne, w32_of, w64_of, q_le_T, q_le_F, q_lt_T, q_lt_F, q_eq_T, q_eq_F, true_or, or_true, or_false, false_or, false_and, and_false]
  · rw [zUp_ne (by decide), f1 9 (by decide) (by decide) (by decide) (by decide) (by decide), zUp_at]
    simp (disch := omega) only [zUp_ne]
  · rw [zUp_ne (by decide), f1 10 (by decide) (by decide) (by decide) (by decide) (by decide)]
    simp (disch := omega) only [zUp_ne]
theorem m_movedBy {μ : ZMem} {i sum : Int} (hi0 : 0 ≤ i) (hi1 : i < 6) (hs0 : 0 ≤ sum) (hs1 : sum ≤ 9999) (hc0 : 1 ≤ μ 5 (5 * i)) (hc1 : μ 5 (5 * i) ≤ 9999) (hu0 : 0 ≤ μ 5 (5 * i + 1)) (hu1 : μ 5 (5 * i + 1) ≤ 9999) : F_Model_movedBy i sum μ = some (.inr (some (zJ (q_ov i sum (μ 5)))), μ) := by
  have hp := q_mb hu0 hu1 hs0 hs1
  unfold F_Model_movedBy q_ov
  simp (disch := omega) only [Int.add_zero, Int.mul_zero, Int.reduceMul, Int.reduceAdd, Int.mul_one, Int.tdiv_eq_ediv_of_nonneg, Int.tmod_eq_emod_of_nonneg, ↓reduceIte, ↓zLet_eq, ↓zRd_ok, ↓zWr_ok, ↓zC_V, ↓zC_I, ↓zC_J, zUp_at, zUp_ne, q_up_at, q_up_ne, w32_of, w64_of, q_le_T, q_le_F, q_lt_T, q_lt_F, q_eq_T, q_eq_F, true_or, or_true, or_false, false_or, false_and, and_false, m_placeOf]
theorem m_moves {μ : ZMem} {i o sum : Int} (hi0 : 0 ≤ i) (hi1 : i < 6) (ho0 : 0 ≤ o) (ho1 : o < 6) (hio : i ≠ o) (hs0 : 0 ≤ sum) (hs1 : sum ≤ 9999) (hc0 : 1 ≤ μ 5 (5 * i)) (hc1 : μ 5 (5 * i) ≤ 9999) (hu0 : 0 ≤ μ 5 (5 * i + 1)) (hu1 : μ 5 (5 * i + 1) ≤ 9999) :
    ∃ μ', F_Model_moves i o sum μ = some (.inr none, μ') ∧ (∀ c, c ≠ 5 → μ' c = μ c) ∧ μ' 5 = q_mv i o sum (μ 5) := by
  unfold F_Model_moves
  rw [m_movedBy hi0 hi1 hs0 hs1 hc0 hc1 hu0 hu1]
  simp (disch := omega) only [Int.add_zero, Int.mul_zero, Int.reduceMul, Int.reduceAdd, Int.mul_one, Int.tdiv_eq_ediv_of_nonneg, Int.tmod_eq_emod_of_nonneg, ↓reduceIte, ↓zLet_eq, ↓zRd_ok, ↓zWr_ok, ↓zC_V, ↓zC_I, ↓zC_J, zUp_at, zUp_ne, q_up_at, q_up_ne, w32_of, w64_of, q_le_T, q_le_F, q_lt_T, q_lt_F, q_eq_T, q_eq_F, true_or, or_true, or_false, false_or, false_and, and_false, m_placeOf]
  refine ⟨_, rfl, fun c hc => by simp (disch := omega) only [zUp_ne], ?_⟩
  simp (disch := omega) only [zUp_at]
  funext k
  unfold q_mv
  by_cases k1 : k = 5 * i + 1
  · subst k1; simp (disch := omega) only [Int.add_zero, Int.mul_zero, Int.reduceMul, Int.reduceAdd, Int.mul_one, Int.tdiv_eq_ediv_of_nonneg, Int.tmod_eq_emod_of_nonneg, ↓reduceIte, ↓zLet_eq, ↓zRd_ok, ↓zWr_ok, ↓zC_V, ↓zC_I, ↓zC_J, zUp_at, zUp_ne, q_up_at, q_up_ne, w32_of, w64_of, q_le_T, q_le_F, q_lt_T, q_lt_F, q_eq_T, q_eq_F, true_or, or_true, or_false, false_or, false_and, and_false]
  · by_cases k2 : k = 5 * o + 1
    · subst k2; simp (disch := omega) only [Int.add_zero, Int.mul_zero, Int.reduceMul, Int.reduceAdd, Int.mul_one, Int.tdiv_eq_ediv_of_nonneg, Int.tmod_eq_emod_of_nonneg, ↓reduceIte, ↓zLet_eq, ↓zRd_ok, ↓zWr_ok, ↓zC_V, ↓zC_I, ↓zC_J, zUp_at, zUp_ne, q_up_at, q_up_ne, w32_of, w64_of, q_le_T, q_le_F, q_lt_T, q_lt_F, q_eq_T, q_eq_F, true_or, or_true, or_false, false_or, false_and, and_false]
    · by_cases k3 : k = 5 * i
      · subst k3; simp (disch := omega) only [Int.add_zero, Int.mul_zero, Int.reduceMul, Int.reduceAdd, Int.mul_one, Int.tdiv_eq_ediv_of_nonneg, Int.tmod_eq_emod_of_nonneg, ↓reduceIte, ↓zLet_eq, ↓zRd_ok, ↓zWr_ok, ↓zC_V, ↓zC_I, ↓zC_J, zUp_at, zUp_ne, q_up_at, q_up_ne, w32_of, w64_of, q_le_T, q_le_F, q_lt_T, q_lt_F, q_eq_T, q_eq_F, true_or, or_true, or_false, false_or, false_and, and_false]
      · by_cases k4 : k = 5 * o
        · subst k4; simp (disch := omega) only [Int.add_zero, Int.mul_zero, Int.reduceMul, Int.reduceAdd, Int.mul_one, Int.tdiv_eq_ediv_of_nonneg, Int.tmod_eq_emod_of_nonneg, ↓reduceIte, ↓zLet_eq, ↓zRd_ok, ↓zWr_ok, ↓zC_V, ↓zC_I, ↓zC_J, zUp_at, zUp_ne, q_up_at, q_up_ne, w32_of, w64_of, q_le_T, q_le_F, q_lt_T, q_lt_F, q_eq_T, q_eq_F, true_or, or_true, or_false, false_or, false_and, and_false]
        · simp (disch := omega) only [Int.add_zero, Int.mul_zero, Int.reduceMul, Int.reduceAdd, Int.mul_one, Int.tdiv_eq_ediv_of_nonneg, Int.tmod_eq_emod_of_nonneg, ↓reduceIte, ↓zLet_eq, ↓zRd_ok, ↓zWr_ok, ↓zC_V, ↓zC_I, ↓zC_J, zUp_at, zUp_ne, q_up_at, q_up_ne, w32_of, w64_of, q_le_T, q_le_F, q_lt_T, q_lt_F, q_eq_T, q_eq_F, true_or, or_true, or_false, false_or, false_and, and_false]
theorem q_acl_0 {s : Int → Int} : ∀ {n : Nat} (d : Nat), d < n → s (30 + 4 * d + 3) = 0 → q_acl s n = 0
  | 0, d, h, _ => by omega
  | n + 1, d, h, e => by
    rw [q_acl]
    by_cases hd : d = n
    · subst hd
      rw [if_pos e]
    · split
      · rfl
      · exact q_acl_0 d (by omega) e
theorem q_acl_1 {s : Int → Int} : ∀ {n : Nat}, (∀ d : Nat, d < n → s (30 + 4 * d + 3) ≠ 0) → q_acl s n = 1
  | 0, _ => rfl
  | n + 1, h => by
    rw [q_acl, if_neg (h n (by omega))]
    exact q_acl_1 (fun d hd => h d (by omega))
theorem m_areClosed {μ : ZMem} {dl : Nat} (hdd : μ 0 6 = dl) (hdl : dl ≤ 6) (hc : ∀ d : Nat, d < 6 → 0 ≤ μ 5 (30 + 4 * d + 3) ∧ μ 5 (30 + 4 * d + 3) ≤ 1) : F_Model_areClosed μ = some (.inr (some (zI (q_acl (μ 5) dl))), μ) := by
  have key : ∀ (k n j : Nat), j + k = dl → k < n → (∀ d : Nat, d < j → μ 5 (30 + 4 * d + 3) ≠ 0) → L_Model_areClosed_2 μ (some (.inr (some (zI 1)), μ)) n j = some (.inr (some (zI (q_acl (μ 5) dl))), μ) := by
    intro k
    induction k with
    | zero =>
      intro n j hj hn h
      obtain ⟨n, rfl⟩ : ∃ i, n = i + 1 := ⟨n - 1, by omega⟩
      obtain rfl : j = dl := by omega
      rw [q_acl_1 h]
      simp (disch := omega) only [L_Model_areClosed_2, Int.add_zero, Int.mul_zero, Int.reduceMul, Int.reduceAdd, Int.mul_one, Int.tdiv_eq_ediv_of_nonneg, Int.tmod_eq_emod_of_nonneg, ↓reduceIte, ↓zLet_eq, ↓zRd_ok, ↓zWr_ok, ↓zC_V, ↓zC_I, ↓zC_J, zUp_at, zUp_ne, q_up_at, q_up_ne, w32_of, w64_of, q_le_T, q_le_F, q_lt_T, q_lt_F, q_eq_T, q_eq_F, true_or, or_true, or_false, false_or, false_and, and_false]
    | succ k ih =>
      intro n j hj hn h
      obtain ⟨n, rfl⟩ : ∃ i, n = i + 1 := ⟨n - 1, by omega⟩
      have hb := hc j (by omega)
      by_cases hz : μ 5 (30 + 4 * j + 3) = 0
      · rw [q_acl_0 j (by omega) hz]
        simp (disch := omega) only [L_Model_areClosed_2, Int.add_zero, Int.mul_zero, Int.reduceMul, Int.reduceAdd, Int.mul_one, Int.tdiv_eq_ediv_of_nonneg, Int.tmod_eq_emod_of_nonneg, ↓reduceIte, ↓zLet_eq, ↓zRd_ok, ↓zWr_ok, ↓zC_V, ↓zC_I, ↓zC_J, zUp_at, zUp_ne, q_up_at, q_up_ne, w32_of, w64_of, q_le_T, q_le_F, q_lt_T, q_lt_F, q_eq_T, q_eq_F, true_or, or_true, or_false, false_or, false_and, and_false, m_dealAt]
      · have := ih n (j + 1) (by omega) (by omega) (fun d hd => by
          by_cases e : d = j
          · subst e
            exact hz
          · exact h d (by omega))
        rw [← this]
        simp (disch := omega) only [L_Model_areClosed_2, Int.add_zero, Int.mul_zero, Int.reduceMul, Int.reduceAdd, Int.mul_one, Int.tdiv_eq_ediv_of_nonneg, Int.tmod_eq_emod_of_nonneg, ↓reduceIte, ↓zLet_eq, ↓zRd_ok, ↓zWr_ok, ↓zC_V, ↓zC_I, ↓zC_J, zUp_at, zUp_ne, q_up_at, q_up_ne, w32_of, w64_of, q_le_T, q_le_F, q_lt_T, q_lt_F, q_eq_T, q_eq_F, true_or, or_true, or_false, false_or, false_and, and_false, m_dealAt]
        rfl
  exact key dl zN 0 (by omega) (zN_gt (by omega)) (fun d hd => by omega)
theorem m_canMove {μ : ZMem} {i o sum : Int} (hi0 : 0 ≤ i) (hi1 : i < 6) (ho0 : 0 ≤ o) (ho1 : o < 6) (hs0 : 0 ≤ sum) (hs1 : sum ≤ 9999) (b1 : 0 ≤ μ 5 (5 * i) ∧ μ 5 (5 * i) ≤ 9999 ∧ 0 ≤ μ 5 (5 * i + 4) ∧ μ 5 (5 * i + 4) ≤ 1) (b2 : 0 ≤ μ 5 (5 * o) ∧ μ 5 (5 * o) ≤ 9999 ∧ 0 ≤ μ 5 (5 * o + 4) ∧ μ 5 (5 * o + 4) ≤ 1) : F_Model_canMove i o sum μ = some (.inr (some (zI (q_cmv i o sum (μ 5)))), μ) := by
  unfold F_Model_canMove q_cmv
  simp (disch := omega) only [Int.add_zero, Int.mul_zero, Int.reduceMul, Int.reduceAdd, Int.mul_one, Int.tdiv_eq_ediv_of_nonneg, Int.tmod_eq_emod_of_nonneg, ↓reduceIte, ↓zLet_eq, ↓zRd_ok, ↓zWr_ok, ↓zC_V, ↓zC_I, ↓zC_J, zUp_at, zUp_ne, q_up_at, q_up_ne, w32_of, w64_of, q_le_T, q_le_F, q_lt_T, q_lt_F, q_eq_T, q_eq_F, true_or, or_true, or_false, false_or, false_and, and_false, m_placeOf]
  by_cases h1 : μ 5 (5 * i) ≤ sum
  · simp (disch := omega) only [Int.add_zero, Int.mul_zero, Int.reduceMul, Int.reduceAdd, Int.mul_one, Int.tdiv_eq_ediv_of_nonneg, Int.tmod_eq_emod_of_nonneg, ↓reduceIte, ↓zLet_eq, ↓zRd_ok, ↓zWr_ok, ↓zC_V, ↓zC_I, ↓zC_J, zUp_at, zUp_ne, q_up_at, q_up_ne, w32_of, w64_of, q_le_T, q_le_F, q_lt_T, q_lt_F, q_eq_T, q_eq_F, true_or, or_true, or_false, false_or, false_and, and_false]
  · by_cases h2 : 9999 < μ 5 (5 * o) + sum
    · simp (disch := omega) only [Int.add_zero, Int.mul_zero, Int.reduceMul, Int.reduceAdd, Int.mul_one, Int.tdiv_eq_ediv_of_nonneg, Int.tmod_eq_emod_of_nonneg, ↓reduceIte, ↓zLet_eq, ↓zRd_ok, ↓zWr_ok, ↓zC_V, ↓zC_I, ↓zC_J, zUp_at, zUp_ne, q_up_at, q_up_ne, w32_of, w64_of, q_le_T, q_le_F, q_lt_T, q_lt_F, q_eq_T, q_eq_F, true_or, or_true, or_false, false_or, false_and, and_false]
    · by_cases h3 : μ 5 (5 * i + 4) + μ 5 (5 * o + 4) = 0
      · simp (disch := omega) only [Int.add_zero, Int.mul_zero, Int.reduceMul, Int.reduceAdd, Int.mul_one, Int.tdiv_eq_ediv_of_nonneg, Int.tmod_eq_emod_of_nonneg, ↓reduceIte, ↓zLet_eq, ↓zRd_ok, ↓zWr_ok, ↓zC_V, ↓zC_I, ↓zC_J, zUp_at, zUp_ne, q_up_at, q_up_ne, w32_of, w64_of, q_le_T, q_le_F, q_lt_T, q_lt_F, q_eq_T, q_eq_F, true_or, or_true, or_false, false_or, false_and, and_false]
      · simp (disch := omega) only [Int.add_zero, Int.mul_zero, Int.reduceMul, Int.reduceAdd, Int.mul_one, Int.tdiv_eq_ediv_of_nonneg, Int.tmod_eq_emod_of_nonneg, ↓reduceIte, ↓zLet_eq, ↓zRd_ok, ↓zWr_ok, ↓zC_V, ↓zC_I, ↓zC_J, zUp_at, zUp_ne, q_up_at, q_up_ne, w32_of, w64_of, q_le_T, q_le_F, q_lt_T, q_lt_F, q_eq_T, q_eq_F, true_or, or_true, or_false, false_or, false_and, and_false]
