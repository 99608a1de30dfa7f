/-! ===== the reference does acts, and works all out anew ===== -/
theorem q_up_up (f : Int → Int) (k a b : Int) : q_up (q_up f k a) k b = q_up f k b := by
  funext j
  unfold q_up
  split <;> rfl
theorem m_does {μ : ZMem} {m dl : Nat} {B kd who sum ot : Int} (fe : Int → Int) (hm : μ 0 5 = m) (h6 : m ≤ 6) (hdd : μ 0 6 = dl) (hdl : dl ≤ 6) (hi : q_inv m dl B (μ 5)) (hB0 : 0 ≤ B) (hB1 : B + 2 * (200 - μ 5 90) ≤ 760) (ht : q_tm (μ 2)) (ha : q_ac m dl kd who sum ot) (hc : q_can m dl (μ 4) kd who sum ot (μ 5) = 1) (hdo0 : 0 ≤ μ 0 14) (hdo1 : μ 0 14 ≤ 60) :
    ∃ μ', F_Model_does kd who sum ot μ = some (.inr none, μ') ∧ m_kp μ μ' ∧ μ' 0 14 = μ 0 14 ∧ (μ' 5, μ' 6, μ' 7, (q_do m (μ 2) (μ 4) kd who sum ot (μ 5, μ 6, μ 7, fe)).2.2.2) = q_do m (μ 2) (μ 4) kd who sum ot (μ 5, μ 6, μ 7, fe) ∧
      (q_up (μ' 9) (μ 0 14) 0 = q_up (μ 9) (μ 0 14) 0 ∧ (μ' 9 (μ 0 14) = q_th (μ 2) kd who sum (μ 5, μ 6, μ 7, fe) ∨ (q_th (μ 2) kd who sum (μ 5, μ 6, μ 7, fe) = 0 ∧ μ' 9 (μ 0 14) = μ 9 (μ 0 14)))) ∧
      (q_up (μ' 10) (μ 0 14) 0 = q_up (μ 10) (μ 0 14) 0 ∧ (μ' 10 (μ 0 14) = q_hr (μ 2) kd who sum (μ 5, μ 6, μ 7, fe) ∨ (q_hr (μ 2) kd who sum (μ 5, μ 6, μ 7, fe) = 0 ∧ μ' 10 (μ 0 14) = μ 10 (μ 0 14)))) := by
  have haa := ha
  obtain ⟨a0, a1, a2, a3, a4, a5, a6, a7⟩ := ha
  have hq := hi.2.2.2.1.2.2.2.2.1
  unfold F_Model_does
  by_cases k0 : kd = 0
  · subst k0
    have w := a1 (by omega)
    have et : q_th (μ 2) 0 who sum (μ 5, μ 6, μ 7, fe) = 0 := by unfold q_th; simp (disch := omega) only [Int.add_zero, Int.mul_zero, Int.reduceMul, Int.reduceAdd, Int.mul_one, Int.tdiv_eq_ediv_of_nonneg, Int.tmod_eq_emod_of_nonneg, ↓reduceIte, ↓zLet_eq, ↓zRd_ok, ↓zWr_ok, ↓zC_V, ↓zC_I, ↓zC_J, zUp_at, zUp_ne, q_up_at, q_up_ne, w32_of, w64_of, q_le_T, q_le_F, q_lt_T, q_lt_F, q_eq_T, q_eq_F, true_or, or_true, or_false, false_or, false_and, and_false]
    have er : q_hr (μ 2) 0 who sum (μ 5, μ 6, μ 7, fe) = 0 := by unfold q_hr; simp (disch := omega) only [Int.add_zero, Int.mul_zero, Int.reduceMul, Int.reduceAdd, Int.mul_one, Int.tdiv_eq_ediv_of_nonneg, Int.tmod_eq_emod_of_nonneg, ↓reduceIte, ↓zLet_eq, ↓zRd_ok, ↓zWr_ok, ↓zC_V, ↓zC_I, ↓zC_J, zUp_at, zUp_ne, q_up_at, q_up_ne, w32_of, w64_of, q_le_T, q_le_F, q_lt_T, q_lt_F, q_eq_T, q_eq_F, true_or, or_true, or_false, false_or, false_and, and_false]
    simp (disch := omega) only [Int.add_zero, Int.mul_zero, Int.reduceMul, Int.reduceAdd, Int.mul_one, Int.tdiv_eq_ediv_of_nonneg, Int.tmod_eq_emod_of_nonneg, ↓reduceIte, ↓zLet_eq, ↓zRd_ok, ↓zWr_ok, ↓zC_V, ↓zC_I, ↓zC_J, zUp_at, zUp_ne, q_up_at, q_up_ne, w32_of, w64_of, q_le_T, q_le_F, q_lt_T, q_lt_F, q_eq_T, q_eq_F, true_or, or_true, or_false, false_or, false_and, and_false, et, er]
    obtain ⟨μ1, r1, f1, g5, g6⟩ := m_paysAll (μ := μ) (sum := sum) (d := who) hm h6 (by omega) (by omega) (fun i h => by have := hi.1 i h; omega) a4.1 (by omega) (by omega) (by omega)
    rw [r1]
    have htm := ht.2.2.2.1
    have t1 : μ1 2 = μ 2 := f1 2 (by decide) (by decide) (by decide) (by decide) (by decide)
    simp (disch := omega) only [Int.add_zero, Int.mul_zero, Int.reduceMul, Int.reduceAdd, Int.mul_one, Int.tdiv_eq_ediv_of_nonneg, Int.tmod_eq_emod_of_nonneg, ↓reduceIte, ↓zLet_eq, ↓zRd_ok, ↓zWr_ok, ↓zC_V, ↓zC_I, ↓zC_J, zUp_at, zUp_ne, q_up_at, q_up_ne, w32_of, w64_of, q_le_T, q_le_F, q_lt_T, q_lt_F, q_eq_T, q_eq_F, true_or, or_true, or_false, false_or, false_and, and_false, m_dealAt, m_ladderAt]
    have e2 : zUp (zUp μ1 5 (30 + 4 * who) (μ1 5 (30 + 4 * who) + sum)) 5 54 (μ1 5 54 + sum) 2 = μ 2 := by rw [zUp_ne (by decide), zUp_ne (by decide), t1]
    rw [m_isDealwise (by rw [e2]; exact htm.1) (by rw [e2]; exact htm.2), e2]
    have eqd : q_do m (μ 2) (μ 4) 0 who sum ot (μ 5, μ 6, μ 7, fe) = (q_rs (μ 2) who sum (μ1 5), μ1 6, μ 7, fe) := by
      unfold q_do
      rw [if_pos rfl, g5, g6]
      rfl
    rw [eqd]
    have fin : ∀ μ' : ZMem, (∀ c, c ≠ 5 → μ' c = μ1 c) → m_kp μ μ' ∧ μ' 0 14 = μ 0 14 ∧ μ' 6 = μ1 6 ∧ μ' 7 = μ 7 ∧ μ' 9 = μ 9 ∧ μ' 10 = μ 10 := fun μ' hf =>
      ⟨m_kp.of (fun c c5 c6 c7 c9 c10 c19 c20 c21 c22 => by rw [hf c c5, f1 c c5 c6 c19 c20 c21]), by rw [hf 0 (by decide), f1 0 (by decide) (by decide) (by decide) (by decide) (by decide)], hf 6 (by decide), by rw [hf 7 (by decide), f1 7 (by decide) (by decide) (by decide) (by decide) (by decide)], by rw [hf 9 (by decide), f1 9 (by decide) (by decide) (by decide) (by decide) (by decide)], by rw [hf 10 (by decide), f1 10 (by decide) (by decide) (by decide) (by decide) (by decide)]⟩
    by_cases h3 : μ 2 3 = 1
    · rw [if_pos h3]
      simp (disch := omega) only [Int.add_zero, Int.mul_zero, Int.reduceMul, Int.reduceAdd, Int.mul_one, Int.tdiv_eq_ediv_of_nonneg, Int.tmod_eq_emod_of_nonneg, ↓reduceIte, ↓zLet_eq, ↓zRd_ok, ↓zWr_ok, ↓zC_V, ↓zC_I, ↓zC_J, zUp_at, zUp_ne, q_up_at, q_up_ne, w32_of, w64_of, q_le_T, q_le_F, q_lt_T, q_lt_F, q_eq_T, q_eq_F, true_or, or_true, or_false, false_or, false_and, and_false, m_ladderAt]
      obtain ⟨q1, q2, q3, q4, q5, q6⟩ := fin (zUp (zUp (zUp μ1 5 (30 + 4 * who) (μ1 5 (30 + 4 * who) + sum)) 5 54 (μ1 5 54 + sum)) 5 (54 + 4 * (2 + who)) (μ1 5 (54 + 4 * (2 + who)) + sum)) (fun c h => by simp (disch := omega) only [zUp_ne])
      refine ⟨_, rfl, q1, q2, ?_, ⟨by rw [q5], Or.inr ⟨trivial, by rw [q5]⟩⟩, ⟨by rw [q6], Or.inr ⟨trivial, by rw [q6]⟩⟩⟩
      rw [q3, q4]
      congr 1
      simp (disch := omega) only [zUp_at]
      generalize μ1 5 = s
      funext k
      unfold q_rs
      by_cases k1 : k = 30 + 4 * who
      · subst k1; simp (disch := omega) only [Int.add_zero, Int.mul_zero, Int.reduceMul, Int.reduceAdd, Int.mul_one, Int.tdiv_eq_ediv_of_nonneg, Int.tmod_eq_emod_of_nonneg, ↓reduceIte, ↓zLet_eq, ↓zRd_ok, ↓zWr_ok, ↓zC_V, ↓zC_I, ↓zC_J, zUp_at, zUp_ne, q_up_at, q_up_ne, w32_of, w64_of, q_le_T, q_le_F, q_lt_T, q_lt_F, q_eq_T, q_eq_F, true_or, or_true, or_false, false_or, false_and, and_false]
      · by_cases k2 : k = 54
        · subst k2; simp (disch := omega) only [Int.add_zero, Int.mul_zero, Int.reduceMul, Int.reduceAdd, Int.mul_one, Int.tdiv_eq_ediv_of_nonneg, Int.tmod_eq_emod_of_nonneg, ↓reduceIte, ↓zLet_eq, ↓zRd_ok, ↓zWr_ok, ↓zC_V, ↓zC_I, ↓zC_J, zUp_at, zUp_ne, q_up_at, q_up_ne, w32_of, w64_of, q_le_T, q_le_F, q_lt_T, q_lt_F, q_eq_T, q_eq_F, true_or, or_true, or_false, false_or, false_and, and_false]
        · by_cases k3 : k = 54 + 4 * (2 + who)
          · subst k3; simp (disch := omega) only [Int.add_zero, Int.mul_zero, Int.reduceMul, Int.reduceAdd, Int.mul_one, Int.tdiv_eq_ediv_of_nonneg, Int.tmod_eq_emod_of_nonneg, ↓reduceIte, ↓zLet_eq, ↓zRd_ok, ↓zWr_ok, ↓zC_V, ↓zC_I, ↓zC_J, zUp_at, zUp_ne, q_up_at, q_up_ne, w32_of, w64_of, q_le_T, q_le_F, q_lt_T, q_lt_F, q_eq_T, q_eq_F, true_or, or_true, or_false, false_or, false_and, and_false, and_self]
          · simp (disch := omega) only [Int.add_zero, Int.mul_zero, Int.reduceMul, Int.reduceAdd, Int.mul_one, Int.tdiv_eq_ediv_of_nonneg, Int.tmod_eq_emod_of_nonneg, ↓reduceIte, ↓zLet_eq, ↓zRd_ok, ↓zWr_ok, ↓zC_V, ↓zC_I, ↓zC_J, zUp_at, zUp_ne, q_up_at, q_up_ne, w32_of, w64_of, q_le_T, q_le_F, q_lt_T, q_lt_F, q_eq_T, q_eq_F, true_or, or_true, or_false, false_or, false_and, and_false]
    · rw [if_neg h3]
      simp (disch := omega) only [Int.add_zero, Int.mul_zero, Int.reduceMul, Int.reduceAdd, Int.mul_one, Int.tdiv_eq_ediv_of_nonneg, Int.tmod_eq_emod_of_nonneg, ↓reduceIte, ↓zLet_eq, ↓zRd_ok, ↓zWr_ok, ↓zC_V, ↓zC_I, ↓zC_J, zUp_at, zUp_ne, q_up_at, q_up_ne, w32_of, w64_of, q_le_T, q_le_F, q_lt_T, q_lt_F, q_eq_T, q_eq_F, true_or, or_true, or_false, false_or, false_and, and_false]
      obtain ⟨q1, q2, q3, q4, q5, q6⟩ := fin (zUp (zUp μ1 5 (30 + 4 * who) (μ1 5 (30 + 4 * who) + sum)) 5 54 (μ1 5 54 + sum)) (fun c h => by simp (disch := omega) only [zUp_ne])
      refine ⟨_, rfl, q1, q2, ?_, ⟨by rw [q5], Or.inr ⟨trivial, by rw [q5]⟩⟩, ⟨by rw [q6], Or.inr ⟨trivial, by rw [q6]⟩⟩⟩
      rw [q3, q4]
      congr 1
      simp (disch := omega) only [zUp_at]
      generalize μ1 5 = s
      funext k
      unfold q_rs
      rw [if_neg (show ¬ (k = 54 + 4 * (2 + who) ∧ μ 2 3 = 1) from fun h => h3 h.2)]
      by_cases k1 : k = 30 + 4 * who
      · subst k1; simp (disch := omega) only [Int.add_zero, Int.mul_zero, Int.reduceMul, Int.reduceAdd, Int.mul_one, Int.tdiv_eq_ediv_of_nonneg, Int.tmod_eq_emod_of_nonneg, ↓reduceIte, ↓zLet_eq, ↓zRd_ok, ↓zWr_ok, ↓zC_V, ↓zC_I, ↓zC_J, zUp_at, zUp_ne, q_up_at, q_up_ne, w32_of, w64_of, q_le_T, q_le_F, q_lt_T, q_lt_F, q_eq_T, q_eq_F, true_or, or_true, or_false, false_or, false_and, and_false]
      · by_cases k2 : k = 54
        · subst k2; simp (disch := omega) only [Int.add_zero, Int.mul_zero, Int.reduceMul, Int.reduceAdd, Int.mul_one, Int.tdiv_eq_ediv_of_nonneg, Int.tmod_eq_emod_of_nonneg, ↓reduceIte, ↓zLet_eq, ↓zRd_ok, ↓zWr_ok, ↓zC_V, ↓zC_I, ↓zC_J, zUp_at, zUp_ne, q_up_at, q_up_ne, w32_of, w64_of, q_le_T, q_le_F, q_lt_T, q_lt_F, q_eq_T, q_eq_F, true_or, or_true, or_false, false_or, false_and, and_false]
        · simp (disch := omega) only [Int.add_zero, Int.mul_zero, Int.reduceMul, Int.reduceAdd, Int.mul_one, Int.tdiv_eq_ediv_of_nonneg, Int.tmod_eq_emod_of_nonneg, ↓reduceIte, ↓zLet_eq, ↓zRd_ok, ↓zWr_ok, ↓zC_V, ↓zC_I, ↓zC_J, zUp_at, zUp_ne, q_up_at, q_up_ne, w32_of, w64_of, q_le_T, q_le_F, q_lt_T, q_lt_F, q_eq_T, q_eq_F, true_or, or_true, or_false, false_or, false_and, and_false]
  have sell : ∀ last, (last = 0 ∨ last = 1) → 0 ≤ who → who < dl → (kd = 1 ∨ kd = 2) → q_do m (μ 2) (μ 4) kd who sum ot (μ 5, μ 6, μ 7, fe) = q_sell m (μ 2) (μ 4) who sum last (μ 5, μ 6, μ 7, fe) →
      ∃ μ', zC (F_Model_sells who sum last μ) (zkV (fun μ19 => some (.inr none, μ19))) zX0 = some (.inr none, μ') ∧ m_kp μ μ' ∧ μ' 0 14 = μ 0 14 ∧ (μ' 5, μ' 6, μ' 7, (q_do m (μ 2) (μ 4) kd who sum ot (μ 5, μ 6, μ 7, fe)).2.2.2) = q_do m (μ 2) (μ 4) kd who sum ot (μ 5, μ 6, μ 7, fe) ∧
      (q_up (μ' 9) (μ 0 14) 0 = q_up (μ 9) (μ 0 14) 0 ∧ (μ' 9 (μ 0 14) = q_th (μ 2) kd who sum (μ 5, μ 6, μ 7, fe) ∨ (q_th (μ 2) kd who sum (μ 5, μ 6, μ 7, fe) = 0 ∧ μ' 9 (μ 0 14) = μ 9 (μ 0 14)))) ∧
      (q_up (μ' 10) (μ 0 14) 0 = q_up (μ 10) (μ 0 14) 0 ∧ (μ' 10 (μ 0 14) = q_hr (μ 2) kd who sum (μ 5, μ 6, μ 7, fe) ∨ (q_hr (μ 2) kd who sum (μ 5, μ 6, μ 7, fe) = 0 ∧ μ' 10 (μ 0 14) = μ 10 (μ 0 14)))) := fun last hl w0 w1 hk e => by
    obtain ⟨μ', r, kp, h14, hs, h9, h10⟩ := m_sells (d := who) (sum := sum) (last := last) fe hm h6 hdl w0 w1 hi hB0 (by omega) ht a4.1 a4.2 hdo0 hdo1 hl
    have et : q_th (μ 2) kd who sum (μ 5, μ 6, μ 7, fe) = sum - q_slM (μ 2) who sum (μ 5) := by unfold q_th; rw [if_pos hk]
    have er : q_hr (μ 2) kd who sum (μ 5, μ 6, μ 7, fe) = q_slM (μ 2) who sum (μ 5) := by unfold q_hr; rw [if_pos hk]
    rw [r, e]
    refine ⟨μ', rfl, kp, h14, ?_, ⟨by rw [h9, q_up_up], Or.inl (by rw [h9, q_up_at, et])⟩, ⟨by rw [h10, q_up_up], Or.inl (by rw [h10, q_up_at, er])⟩⟩
    rw [← hs]
  by_cases k1 : kd = 1
  · have w := a1 (by omega)
    have := sell 0 (Or.inl rfl) w.1 w.2 (Or.inl k1) (by unfold q_do; rw [if_neg k0, if_pos k1])
    subst k1
    simp (disch := omega) only [Int.add_zero, Int.mul_zero, Int.reduceMul, Int.reduceAdd, Int.mul_one, Int.tdiv_eq_ediv_of_nonneg, Int.tmod_eq_emod_of_nonneg, ↓reduceIte, ↓zLet_eq, ↓zRd_ok, ↓zWr_ok, ↓zC_V, ↓zC_I, ↓zC_J, zUp_at, zUp_ne, q_up_at, q_up_ne, w32_of, w64_of, q_le_T, q_le_F, q_lt_T, q_lt_F, q_eq_T, q_eq_F, true_or, or_true, or_false, false_or, false_and, and_false]
    exact this
  by_cases k2 : kd = 2
  · have w := a1 (by omega)
    have := sell 1 (Or.inr rfl) w.1 w.2 (Or.inr k2) (by unfold q_do; rw [if_neg k0, if_neg k1, if_pos k2])
    subst k2
    simp (disch := omega) only [Int.add_zero, Int.mul_zero, Int.reduceMul, Int.reduceAdd, Int.mul_one, Int.tdiv_eq_ediv_of_nonneg, Int.tmod_eq_emod_of_nonneg, ↓reduceIte, ↓zLet_eq, ↓zRd_ok, ↓zWr_ok, ↓zC_V, ↓zC_I, ↓zC_J, zUp_at, zUp_ne, q_up_at, q_up_ne, w32_of, w64_of, q_le_T, q_le_F, q_lt_T, q_lt_F, q_eq_T, q_eq_F, true_or, or_true, or_false, false_or, false_and, and_false]
    exact this
  have hk12 : ¬ (kd = 1 ∨ kd = 2) := by omega
  have er : q_hr (μ 2) kd who sum (μ 5, μ 6, μ 7, fe) = 0 := by unfold q_hr; rw [if_neg hk12]
  by_cases k3 : kd = 3
  · subst k3
    have w := a1 (by omega)
    have et : q_th (μ 2) 3 who sum (μ 5, μ 6, μ 7, fe) = 0 := by unfold q_th; simp (disch := omega) only [Int.add_zero, Int.mul_zero, Int.reduceMul, Int.reduceAdd, Int.mul_one, Int.tdiv_eq_ediv_of_nonneg, Int.tmod_eq_emod_of_nonneg, ↓reduceIte, ↓zLet_eq, ↓zRd_ok, ↓zWr_ok, ↓zC_V, ↓zC_I, ↓zC_J, zUp_at, zUp_ne, q_up_at, q_up_ne, w32_of, w64_of, q_le_T, q_le_F, q_lt_T, q_lt_F, q_eq_T, q_eq_F, true_or, or_true, or_false, false_or, false_and, and_false]
    have ed : q_do m (μ 2) (μ 4) 3 who sum ot (μ 5, μ 6, μ 7, fe) = (q_up (μ 5) (30 + 4 * who + 2) sum, μ 6, μ 7, fe) := by unfold q_do; simp (disch := omega) only [Int.add_zero, Int.mul_zero, Int.reduceMul, Int.reduceAdd, Int.mul_one, Int.tdiv_eq_ediv_of_nonneg, Int.tmod_eq_emod_of_nonneg, ↓reduceIte, ↓zLet_eq, ↓zRd_ok, ↓zWr_ok, ↓zC_V, ↓zC_I, ↓zC_J, zUp_at, zUp_ne, q_up_at, q_up_ne, w32_of, w64_of, q_le_T, q_le_F, q_lt_T, q_lt_F, q_eq_T, q_eq_F, true_or, or_true, or_false, false_or, false_and, and_false]
    rw [ed, et, er]
    simp (disch := omega) only [Int.add_zero, Int.mul_zero, Int.reduceMul, Int.reduceAdd, Int.mul_one, Int.tdiv_eq_ediv_of_nonneg, Int.tmod_eq_emod_of_nonneg, ↓reduceIte, ↓zLet_eq, ↓zRd_ok, ↓zWr_ok, ↓zC_V, ↓zC_I, ↓zC_J, zUp_at, zUp_ne, q_up_at, q_up_ne, w32_of, w64_of, q_le_T, q_le_F, q_lt_T, q_lt_F, q_eq_T, q_eq_F, true_or, or_true, or_false, false_or, false_and, and_false, m_dealAt]
    refine ⟨_, rfl, m_kp.of (fun c c5 _ _ _ _ _ _ _ _ => zUp_ne c5), by rw [zUp_ne (by decide)], ?_, ⟨by rw [zUp_ne (by decide)], Or.inr ⟨trivial, by rw [zUp_ne (by decide)]⟩⟩, ⟨by rw [zUp_ne (by decide)], Or.inr ⟨trivial, by rw [zUp_ne (by decide)]⟩⟩⟩
    rw [zUp_at, zUp_ne (by decide), zUp_ne (by decide)]
  by_cases k4 : kd = 4
  · subst k4
    have hw := q_can_wait hc
    have et : q_th (μ 2) 4 who sum (μ 5, μ 6, μ 7, fe) = 0 := by unfold q_th; simp (disch := omega) only [Int.add_zero, Int.mul_zero, Int.reduceMul, Int.reduceAdd, Int.mul_one, Int.tdiv_eq_ediv_of_nonneg, Int.tmod_eq_emod_of_nonneg, ↓reduceIte, ↓zLet_eq, ↓zRd_ok, ↓zWr_ok, ↓zC_V, ↓zC_I, ↓zC_J, zUp_at, zUp_ne, q_up_at, q_up_ne, w32_of, w64_of, q_le_T, q_le_F, q_lt_T, q_lt_F, q_eq_T, q_eq_F, true_or, or_true, or_false, false_or, false_and, and_false]
    have ed : q_do m (μ 2) (μ 4) 4 who sum ot (μ 5, μ 6, μ 7, fe) = q_wn m (μ 2) (μ 4) sum.toNat (μ 5, μ 6, μ 7, fe) := by unfold q_do; simp (disch := omega) only [Int.add_zero, Int.mul_zero, Int.reduceMul, Int.reduceAdd, Int.mul_one, Int.tdiv_eq_ediv_of_nonneg, Int.tmod_eq_emod_of_nonneg, ↓reduceIte, ↓zLet_eq, ↓zRd_ok, ↓zWr_ok, ↓zC_V, ↓zC_I, ↓zC_J, zUp_at, zUp_ne, q_up_at, q_up_ne, w32_of, w64_of, q_le_T, q_le_F, q_lt_T, q_lt_F, q_eq_T, q_eq_F, true_or, or_true, or_false, false_or, false_and, and_false]
    rw [ed, et, er]
    obtain ⟨⟨v, ν⟩, e, j, rfl, hj, kp, h0, hs, h9, h10⟩ := q_loop (L := fun n (a : Int × ZMem) => L_Model_does_144 sum (fun μ32 => some (.inr none, μ32)) n a.1 a.2) (P := fun k a => ∃ j : Nat, a.1 = j ∧ j + k = sum.toNat ∧ m_kp μ a.2 ∧ a.2 0 = μ 0 ∧ (a.2 5, a.2 6, a.2 7, (q_wn m (μ 2) (μ 4) j (μ 5, μ 6, μ 7, fe)).2.2.2) = q_wn m (μ 2) (μ 4) j (μ 5, μ 6, μ 7, fe) ∧ a.2 9 = μ 9 ∧ a.2 10 = μ 10) (fun n k a h => by
        obtain ⟨v, ν⟩ := a
        obtain ⟨j, rfl, hj, kp, h0, hs, h9, h10⟩ := h
        simp only [] at kp h0 hs h9 h10 ⊢
        obtain ⟨-, t2, -, t4, -⟩ := kp.at
        obtain ⟨hi1, hi2⟩ := q_inv.wn (σ := (μ 5, μ 6, μ 7, fe)) (tm := μ 2) (ex := μ 4) hi h6 hdl ht hB0 hB1 j (by simp only []; omega)
        rw [← hs] at hi1 hi2
        simp only [] at hi1 hi2
        obtain ⟨ν', r, kp', h0', hs', h9', h10'⟩ := m_quarterGoes (μ := ν) (q_wn m (μ 2) (μ 4) j (μ 5, μ 6, μ 7, fe)).2.2.2 (by rw [h0]; exact hm) h6 (by rw [h0]; exact hdd) hdl hi1 (by omega) (by omega) (by rw [t2]; exact ht) (by omega)
        refine ⟨(j + 1, ν'), ?_, j + 1, rfl, by omega, kp.tr kp', h0'.trans h0, ?_, h9'.trans h9, h10'.trans h10⟩
        · simp (disch := omega) only [L_Model_does_144, Int.add_zero, Int.mul_zero, Int.reduceMul, Int.reduceAdd, Int.mul_one, Int.tdiv_eq_ediv_of_nonneg, Int.tmod_eq_emod_of_nonneg, ↓reduceIte, ↓zLet_eq, ↓zRd_ok, ↓zWr_ok, ↓zC_V, ↓zC_I, ↓zC_J, zUp_at, zUp_ne, q_up_at, q_up_ne, w32_of, w64_of, q_le_T, q_le_F, q_lt_T, q_lt_F, q_eq_T, q_eq_F, true_or, or_true, or_false, false_or, false_and, and_false, r]
        · simp only []
          have eq : q_wn m (μ 2) (μ 4) (j + 1) (μ 5, μ 6, μ 7, fe) = q_qt m (μ 2) (μ 4) (q_wn m (μ 2) (μ 4) j (μ 5, μ 6, μ 7, fe)) := rfl
          rw [t2, t4] at hs'
          rw [eq, ← hs, ← hs']) sum.toNat zN (0, μ) ⟨0, rfl, by omega, m_kp.rf μ, rfl, by rw [q_wn], rfl, rfl⟩ (Nat.le_of_lt (zN_gt (by omega)))
    simp only [] at e kp h0 hs h9 h10
    obtain rfl : j = sum.toNat := by omega
    simp (disch := omega) only [Int.add_zero, Int.mul_zero, Int.reduceMul, Int.reduceAdd, Int.mul_one, Int.tdiv_eq_ediv_of_nonneg, Int.tmod_eq_emod_of_nonneg, ↓reduceIte, ↓zLet_eq, ↓zRd_ok, ↓zWr_ok, ↓zC_V, ↓zC_I, ↓zC_J, zUp_at, zUp_ne, q_up_at, q_up_ne, w32_of, w64_of, q_le_T, q_le_F, q_lt_T, q_lt_F, q_eq_T, q_eq_F, true_or, or_true, or_false, false_or, false_and, and_false]
    rw [e]
    obtain ⟨n, hn⟩ : ∃ n, zN - sum.toNat = n + 1 := ⟨zN - sum.toNat - 1, by have := zN_gt (m := sum.toNat) (by omega); omega⟩
    rw [hn]
    refine ⟨ν, ?_, kp, by rw [h0], hs, ⟨by rw [h9], Or.inr ⟨trivial, by rw [h9]⟩⟩, ⟨by rw [h10], Or.inr ⟨trivial, by rw [h10]⟩⟩⟩
    simp (disch := omega) only [L_Model_does_144, Int.add_zero, Int.mul_zero, Int.reduceMul, Int.reduceAdd, Int.mul_one, Int.tdiv_eq_ediv_of_nonneg, Int.tmod_eq_emod_of_nonneg, ↓reduceIte, ↓zLet_eq, ↓zRd_ok, ↓zWr_ok, ↓zC_V, ↓zC_I, ↓zC_J, zUp_at, zUp_ne, q_up_at, q_up_ne, w32_of, w64_of, q_le_T, q_le_F, q_lt_T, q_lt_F, q_eq_T, q_eq_F, true_or, or_true, or_false, false_or, false_and, and_false]
  by_cases k5 : kd = 5
  · subst k5
    have w := a2 (by omega)
    have et : q_th (μ 2) 5 who sum (μ 5, μ 6, μ 7, fe) = 0 := by unfold q_th; simp (disch := omega) only [Int.add_zero, Int.mul_zero, Int.reduceMul, Int.reduceAdd, Int.mul_one, Int.tdiv_eq_ediv_of_nonneg, Int.tmod_eq_emod_of_nonneg, ↓reduceIte, ↓zLet_eq, ↓zRd_ok, ↓zWr_ok, ↓zC_V, ↓zC_I, ↓zC_J, zUp_at, zUp_ne, q_up_at, q_up_ne, w32_of, w64_of, q_le_T, q_le_F, q_lt_T, q_lt_F, q_eq_T, q_eq_F, true_or, or_true, or_false, false_or, false_and, and_false]
    have ed : q_do m (μ 2) (μ 4) 5 who sum ot (μ 5, μ 6, μ 7, fe) = (q_fa who (μ 5), μ 6, μ 7, fe) := by unfold q_do; simp (disch := omega) only [Int.add_zero, Int.mul_zero, Int.reduceMul, Int.reduceAdd, Int.mul_one, Int.tdiv_eq_ediv_of_nonneg, Int.tmod_eq_emod_of_nonneg, ↓reduceIte, ↓zLet_eq, ↓zRd_ok, ↓zWr_ok, ↓zC_V, ↓zC_I, ↓zC_J, zUp_at, zUp_ne, q_up_at, q_up_ne, w32_of, w64_of, q_le_T, q_le_F, q_lt_T, q_lt_F, q_eq_T, q_eq_F, true_or, or_true, or_false, false_or, false_and, and_false]
    rw [ed, et, er]
    simp (disch := omega) only [Int.add_zero, Int.mul_zero, Int.reduceMul, Int.reduceAdd, Int.mul_one, Int.tdiv_eq_ediv_of_nonneg, Int.tmod_eq_emod_of_nonneg, ↓reduceIte, ↓zLet_eq, ↓zRd_ok, ↓zWr_ok, ↓zC_V, ↓zC_I, ↓zC_J, zUp_at, zUp_ne, q_up_at, q_up_ne, w32_of, w64_of, q_le_T, q_le_F, q_lt_T, q_lt_F, q_eq_T, q_eq_F, true_or, or_true, or_false, false_or, false_and, and_false, m_placeOf]
    refine ⟨_, rfl, m_kp.of (fun c c5 _ _ _ _ _ _ _ _ => by rw [zUp_ne c5, zUp_ne c5]), by rw [zUp_ne (by decide), zUp_ne (by decide)], ?_, ⟨by rw [zUp_ne (by decide), zUp_ne (by decide)], Or.inr ⟨trivial, by rw [zUp_ne (by decide), zUp_ne (by decide)]⟩⟩, ⟨by rw [zUp_ne (by decide), zUp_ne (by decide)], Or.inr ⟨trivial, by rw [zUp_ne (by decide), zUp_ne (by decide)]⟩⟩⟩
    simp (disch := omega) only [zUp_at, zUp_ne]
    congr 1
    funext k
    unfold q_fa
    by_cases k1 : k = 5 * who + 4
    · subst k1; simp (disch := omega) only [Int.add_zero, Int.mul_zero, Int.reduceMul, Int.reduceAdd, Int.mul_one, Int.tdiv_eq_ediv_of_nonneg, Int.tmod_eq_emod_of_nonneg, ↓reduceIte, ↓zLet_eq, ↓zRd_ok, ↓zWr_ok, ↓zC_V, ↓zC_I, ↓zC_J, zUp_at, zUp_ne, q_up_at, q_up_ne, w32_of, w64_of, q_le_T, q_le_F, q_lt_T, q_lt_F, q_eq_T, q_eq_F, true_or, or_true, or_false, false_or, false_and, and_false]
    · by_cases k2 : k = 5 * who + 1
      · subst k2; simp (disch := omega) only [Int.add_zero, Int.mul_zero, Int.reduceMul, Int.reduceAdd, Int.mul_one, Int.tdiv_eq_ediv_of_nonneg, Int.tmod_eq_emod_of_nonneg, ↓reduceIte, ↓zLet_eq, ↓zRd_ok, ↓zWr_ok, ↓zC_V, ↓zC_I, ↓zC_J, zUp_at, zUp_ne, q_up_at, q_up_ne, w32_of, w64_of, q_le_T, q_le_F, q_lt_T, q_lt_F, q_eq_T, q_eq_F, true_or, or_true, or_false, false_or, false_and, and_false]
      · simp (disch := omega) only [Int.add_zero, Int.mul_zero, Int.reduceMul, Int.reduceAdd, Int.mul_one, Int.tdiv_eq_ediv_of_nonneg, Int.tmod_eq_emod_of_nonneg, ↓reduceIte, ↓zLet_eq, ↓zRd_ok, ↓zWr_ok, ↓zC_V, ↓zC_I, ↓zC_J, zUp_at, zUp_ne, q_up_at, q_up_ne, w32_of, w64_of, q_le_T, q_le_F, q_lt_T, q_lt_F, q_eq_T, q_eq_F, true_or, or_true, or_false, false_or, false_and, and_false]
  by_cases k7 : kd = 7
  · subst k7
    have w := a2 (by omega)
    have o := a3 rfl
    have b1 := hi.1 who.toNat (by omega)
    rw [Int.toNat_of_nonneg w.1] at b1
    have et : q_th (μ 2) 7 who sum (μ 5, μ 6, μ 7, fe) = 0 := by unfold q_th; simp (disch := omega) only [Int.add_zero, Int.mul_zero, Int.reduceMul, Int.reduceAdd, Int.mul_one, Int.tdiv_eq_ediv_of_nonneg, Int.tmod_eq_emod_of_nonneg, ↓reduceIte, ↓zLet_eq, ↓zRd_ok, ↓zWr_ok, ↓zC_V, ↓zC_I, ↓zC_J, zUp_at, zUp_ne, q_up_at, q_up_ne, w32_of, w64_of, q_le_T, q_le_F, q_lt_T, q_lt_F, q_eq_T, q_eq_F, true_or, or_true, or_false, false_or, false_and, and_false]
    have ed : q_do m (μ 2) (μ 4) 7 who sum ot (μ 5, μ 6, μ 7, fe) = (q_mv who ot sum (μ 5), μ 6, μ 7, fe) := by unfold q_do; simp (disch := omega) only [Int.add_zero, Int.mul_zero, Int.reduceMul, Int.reduceAdd, Int.mul_one, Int.tdiv_eq_ediv_of_nonneg, Int.tmod_eq_emod_of_nonneg, ↓reduceIte, ↓zLet_eq, ↓zRd_ok, ↓zWr_ok, ↓zC_V, ↓zC_I, ↓zC_J, zUp_at, zUp_ne, q_up_at, q_up_ne, w32_of, w64_of, q_le_T, q_le_F, q_lt_T, q_lt_F, q_eq_T, q_eq_F, true_or, or_true, or_false, false_or, false_and, and_false]
    rw [ed, et, er]
    obtain ⟨μ', r, f, g⟩ := m_moves (μ := μ) (i := who) (o := ot) (sum := sum) w.1 (by omega) o.1 (by omega) (Ne.symm o.2.2) a4.1 a4.2 (by omega) (by omega) (by omega) (by omega)
    simp (disch := omega) only [Int.add_zero, Int.mul_zero, Int.reduceMul, Int.reduceAdd, Int.mul_one, Int.tdiv_eq_ediv_of_nonneg, Int.tmod_eq_emod_of_nonneg, ↓reduceIte, ↓zLet_eq, ↓zRd_ok, ↓zWr_ok, ↓zC_V, ↓zC_I, ↓zC_J, zUp_at, zUp_ne, q_up_at, q_up_ne, w32_of, w64_of, q_le_T, q_le_F, q_lt_T, q_lt_F, q_eq_T, q_eq_F, true_or, or_true, or_false, false_or, false_and, and_false, r]
    refine ⟨μ', rfl, m_kp.of (fun c c5 _ _ _ _ _ _ _ _ => f c c5), by rw [f 0 (by decide)], ?_, ⟨by rw [f 9 (by decide)], Or.inr ⟨trivial, by rw [f 9 (by decide)]⟩⟩, ⟨by rw [f 10 (by decide)], Or.inr ⟨trivial, by rw [f 10 (by decide)]⟩⟩⟩
    rw [g, f 6 (by decide), f 7 (by decide)]
  obtain rfl : kd = 6 := by omega
  have et : q_th (μ 2) 6 who sum (μ 5, μ 6, μ 7, fe) = q_hl (μ 5) + q_ou (μ 2) (μ 5) := by unfold q_th; simp (disch := omega) only [Int.add_zero, Int.mul_zero, Int.reduceMul, Int.reduceAdd, Int.mul_one, Int.tdiv_eq_ediv_of_nonneg, Int.tmod_eq_emod_of_nonneg, ↓reduceIte, ↓zLet_eq, ↓zRd_ok, ↓zWr_ok, ↓zC_V, ↓zC_I, ↓zC_J, zUp_at, zUp_ne, q_up_at, q_up_ne, w32_of, w64_of, q_le_T, q_le_F, q_lt_T, q_lt_F, q_eq_T, q_eq_F, true_or, or_true, or_false, false_or, false_and, and_false]
  have ed : q_do m (μ 2) (μ 4) 6 who sum ot (μ 5, μ 6, μ 7, fe) = q_end m (μ 2) (μ 4) (μ 5, μ 6, μ 7, fe) := by unfold q_do; simp (disch := omega) only [Int.add_zero, Int.mul_zero, Int.reduceMul, Int.reduceAdd, Int.mul_one, Int.tdiv_eq_ediv_of_nonneg, Int.tmod_eq_emod_of_nonneg, ↓reduceIte, ↓zLet_eq, ↓zRd_ok, ↓zWr_ok, ↓zC_V, ↓zC_I, ↓zC_J, zUp_at, zUp_ne, q_up_at, q_up_ne, w32_of, w64_of, q_le_T, q_le_F, q_lt_T, q_lt_F, q_eq_T, q_eq_F, true_or, or_true, or_false, false_or, false_and, and_false]
  obtain ⟨μ', r, kp, h0, hs, h9, h10⟩ := m_ends fe hm h6 hi hB0 (by omega) ht hdo0 hdo1
  rw [ed, et, er]
  simp (disch := omega) only [Int.add_zero, Int.mul_zero, Int.reduceMul, Int.reduceAdd, Int.mul_one, Int.tdiv_eq_ediv_of_nonneg, Int.tmod_eq_emod_of_nonneg, ↓reduceIte, ↓zLet_eq, ↓zRd_ok, ↓zWr_ok, ↓zC_V, ↓zC_I, ↓zC_J, zUp_at, zUp_ne, q_up_at, q_up_ne, w32_of, w64_of, q_le_T, q_le_F, q_lt_T, q_lt_F, q_eq_T, q_eq_F, true_or, or_true, or_false, false_or, false_and, and_false, r]
  refine ⟨μ', rfl, kp, by rw [h0], ?_, ⟨by rw [h9, q_up_up], Or.inl (by rw [h9, q_up_at])⟩, ⟨by rw [h10], Or.inr ⟨trivial, by rw [h10]⟩⟩⟩
  rw [← hs]
