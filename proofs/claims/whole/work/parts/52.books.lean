theorem q_min_min {sum a x : Int} (hx : 0 ≤ x) : q_min (q_min sum (a + x)) a = q_min sum a := by
  unfold q_min
  split <;> split <;> first | omega | (split <;> omega)
theorem b_measure {dl : Nat} {tm s : Int → Int} {ν : ZMem} {a l b sum : Int} (h : b_bk dl tm s ν) (hl : b_ll a l) (hb : b = 0 ∨ b = 1) (ht : q_tm tm) (hs0 : 0 ≤ sum) (hs1 : sum ≤ 99999) (hc : 0 ≤ s (54 + 4 * l) ∧ s (54 + 4 * l) ≤ 1000000000000) (hp : 0 ≤ s (54 + 4 * l + 1) ∧ s (54 + 4 * l + 1) ≤ 1000000000000)
    (hg : 0 ≤ s (54 + 4 * l + 2) ∧ s (54 + 4 * l + 2) ≤ 1000000000000) (hk : 0 ≤ s (54 + 4 * l + 3) ∧ s (54 + 4 * l + 3) ≤ 1000000000000) (hc1 : 0 ≤ s 58 ∧ s 58 ≤ 1000000000000) (hp1 : 0 ≤ s 59 ∧ s 59 ≤ 1000000000000) :
    ∃ ν', F_Books_measure a b sum ν = some (.inr none, ν') ∧ (∀ c, c ≠ 5 → ν' c = ν c) ∧ ν' 5 0 = q_s0 (q_cc l b s) sum ∧ ν' 5 1 = q_s1 (q_cc l b s) (q_cp l b s) sum ∧ ν' 5 2 = q_s2 tm (q_cc l b s) (q_cp l b s) (s (54 + 4 * l + 2)) (s (54 + 4 * l + 3)) sum ∧ ν' 5 3 = q_s3 tm (q_cc l b s) (q_cp l b s) (s (54 + 4 * l + 2)) (s (54 + 4 * l + 3)) sum ∧ ν' 5 4 = q_fM tm l b sum s ∧ ν' 5 5 = sum - q_fM tm l b sum s := by
  obtain ⟨t0, t1, t2, t3, t4, t5, t6⟩ := h.tt
  have r0 := h.ru0 hl
  have r1 := h.ru hl (w := 1) (by decide) (by decide)
  have r2 := h.ru hl (w := 2) (by decide) (by decide)
  have r3 := h.ru hl (w := 3) (by decide) (by decide)
  obtain ⟨b24, b27, b28, b29⟩ := h.bu
  have ha : 0 ≤ a ∧ a ≤ 6 := by rcases hl with ⟨rfl, -⟩ | ⟨x, y, -⟩ <;> omega
  have hcc : 0 ≤ q_cc l b s ∧ q_cc l b s ≤ 2000000000000 := by unfold q_cc; split <;> omega
  have hcp : 0 ≤ q_cp l b s ∧ q_cp l b s ≤ 2000000000000 := by unfold q_cp; split <;> omega
  have hst := q_st_in (tm := tm) (c := q_cc l b s) (p := q_cp l b s) (g := s (54 + 4 * l + 2)) (t := s (54 + 4 * l + 3)) hcc.1 hcp.1 hs0
  obtain ⟨-, ⟨x1, x2⟩, ⟨y1, y2⟩, -⟩ := ht
  have hp1 := q_mb x1 x2 hst.2.2.2.2.2.1 (show _ ≤ 99999 by omega)
  have hp2 := q_mb y1 y2 hst.2.2.2.2.2.2.1 (show _ ≤ 99999 by omega)
  have e0 : q_min sum (q_cc l b s) = q_s0 (q_cc l b s) sum := rfl
  have e1 : q_min (sum - q_s0 (q_cc l b s) sum) (q_cp l b s) = q_s1 (q_cc l b s) (q_cp l b s) sum := rfl
  have e3 : sum - q_s0 (q_cc l b s) sum - q_s1 (q_cc l b s) (q_cp l b s) sum - q_s2 tm (q_cc l b s) (q_cp l b s) (s (54 + 4 * l + 2)) (s (54 + 4 * l + 3)) sum = q_s3 tm (q_cc l b s) (q_cp l b s) (s (54 + 4 * l + 2)) (s (54 + 4 * l + 3)) sum := rfl
  have key : ∃ ν', J_Books_measure_58 sum (a * 4) sum (q_cc l b s) (q_cp l b s) ν = some (.inr none, ν') ∧ (∀ c, c ≠ 5 → ν' c = ν c) ∧ ν' 5 0 = q_s0 (q_cc l b s) sum ∧ ν' 5 1 = q_s1 (q_cc l b s) (q_cp l b s) sum ∧ ν' 5 2 = q_s2 tm (q_cc l b s) (q_cp l b s) (s (54 + 4 * l + 2)) (s (54 + 4 * l + 3)) sum ∧ ν' 5 3 = q_s3 tm (q_cc l b s) (q_cp l b s) (s (54 + 4 * l + 2)) (s (54 + 4 * l + 3)) sum ∧ ν' 5 4 = q_fM tm l b sum s ∧ ν' 5 5 = sum - q_fM tm l b sum s := by
    unfold J_Books_measure_58
    simp (disch := omega) only [Int.add_zero, Int.mul_zero, Int.reduceMul, Int.reduceAdd, Int.mul_one, Int.tdiv_eq_ediv_of_nonneg, Int.tmod_eq_emod_of_nonneg, ↓reduceIte, ↓zLet_eq, ↓zRd_ok, ↓zWr_ok, ↓zC_V, ↓zC_I, ↓zC_J, zUp_at, zUp_ne, q_up_at, q_up_ne, w32_of, w64_of, q_le_T, q_le_F, q_lt_T, q_lt_F, q_eq_T, q_eq_F, true_or, or_true, or_false, false_or, false_and, and_false, zminJ_eq, e0, e1, r2, r3]
    have etm : ∀ ν2 : ZMem, ν2 1 = ν 1 → F_Books_catchUp (s (54 + 4 * l + 2) + q_s1 (q_cc l b s) (q_cp l b s) sum) (s (54 + 4 * l + 3)) (sum - q_s0 (q_cc l b s) sum - q_s1 (q_cc l b s) (q_cp l b s) sum) ν2 = some (.inr (some (zJ (q_s2 tm (q_cc l b s) (q_cp l b s) (s (54 + 4 * l + 2)) (s (54 + 4 * l + 3)) sum))), ν2) := fun ν2 e => by
      rw [b_catchUp (by rw [e, t2]; exact y1) (by rw [e, t2]; exact y2) (by rw [e, t1]; exact x1) (by rw [e, t1]; exact x2) (by omega) (by omega) (by omega) (by omega) (by omega) (by omega)]
      unfold q_s2 q_f2
      rw [e, t1, t2]
    rw [etm _ (by simp (disch := omega) only [zUp_ne])]
    simp (disch := omega) only [Int.add_zero, Int.mul_zero, Int.reduceMul, Int.reduceAdd, Int.mul_one, Int.tdiv_eq_ediv_of_nonneg, Int.tmod_eq_emod_of_nonneg, ↓reduceIte, ↓zLet_eq, ↓zRd_ok, ↓zWr_ok, ↓zC_V, ↓zC_I, ↓zC_J, zUp_at, zUp_ne, q_up_at, q_up_ne, w32_of, w64_of, q_le_T, q_le_F, q_lt_T, q_lt_F, q_eq_T, q_eq_F, true_or, or_true, or_false, false_or, false_and, and_false, t1, t2, e3]
    refine ⟨_, rfl, fun c hc => by simp (disch := omega) only [zUp_ne], ?_, ?_, ?_, ?_, ?_, ?_⟩
    all_goals simp (disch := omega) only [zUp_at, q_up_at, q_up_ne]
    all_goals rfl
  unfold F_Books_measure
  rcases hb with rfl | rfl
  · have ec : q_cc l 0 s = s (54 + 4 * l) := by unfold q_cc; rw [if_pos rfl, Int.add_zero]
    have ep : q_cp l 0 s = s (54 + 4 * l + 1) := by unfold q_cp; rw [if_pos rfl, Int.add_zero]
    simp (disch := omega) only [Int.add_zero, Int.mul_zero, Int.reduceMul, Int.reduceAdd, Int.mul_one, Int.tdiv_eq_ediv_of_nonneg, Int.tmod_eq_emod_of_nonneg, ↓reduceIte, ↓zLet_eq, ↓zRd_ok, ↓zWr_ok, ↓zC_V, ↓zC_I, ↓zC_J, zUp_at, zUp_ne, q_up_at, q_up_ne, w32_of, w64_of, q_le_T, q_le_F, q_lt_T, q_lt_F, q_eq_T, q_eq_F, true_or, or_true, or_false, false_or, false_and, and_false, r0, r1]
    rw [← ec, ← ep]
    exact key
  · have ec : q_cc l 1 s = s (54 + 4 * l) + s 58 := by unfold q_cc; rw [if_neg (by decide)]
    have ep : q_cp l 1 s = s (54 + 4 * l + 1) + s 59 := by unfold q_cp; rw [if_neg (by decide)]
    simp (disch := omega) only [Int.add_zero, Int.mul_zero, Int.reduceMul, Int.reduceAdd, Int.mul_one, Int.tdiv_eq_ediv_of_nonneg, Int.tmod_eq_emod_of_nonneg, ↓reduceIte, ↓zLet_eq, ↓zRd_ok, ↓zWr_ok, ↓zC_V, ↓zC_I, ↓zC_J, zUp_at, zUp_ne, q_up_at, q_up_ne, w32_of, w64_of, q_le_T, q_le_F, q_lt_T, q_lt_F, q_eq_T, q_eq_F, true_or, or_true, or_false, false_or, false_and, and_false, r0, r1, b28, b29]
    rw [← ec, ← ep]
    exact key
theorem b_pour {dl : Nat} {tm s : Int → Int} {ν : ZMem} {a l b sum : Int} (h : b_bk dl tm s ν) (hl : b_ll a l) (hb : (b = 0 ∧ l ≠ 1) ∨ (b = 1 ∧ 1 < l)) (hs0 : 0 ≤ sum) (hs1 : sum ≤ 99999) (hc : 0 ≤ s (54 + 4 * l) ∧ s (54 + 4 * l) ≤ 1000000000000) (hp : 0 ≤ s (54 + 4 * l + 1) ∧ s (54 + 4 * l + 1) ≤ 1000000000000) (hc1 : 0 ≤ s 58 ∧ s 58 ≤ 1000000000000) (hp1 : 0 ≤ s 59 ∧ s 59 ≤ 1000000000000)
    (f0 : ν 5 0 = q_s0 (q_cc l b s) sum) (f1 : ν 5 1 = q_s1 (q_cc l b s) (q_cp l b s) sum) (f4 : ν 5 4 = q_fM tm l b sum s) (f5 : ν 5 5 = sum - q_fM tm l b sum s) :
    ∃ ν', F_Books_pour a ν = some (.inr none, ν') ∧ (∀ c, c ≠ 2 → ν' c = ν c) ∧ b_bk dl tm (q_fl tm l b sum s) ν' := by
  have r0 := h.ru0 hl
  have r1 := h.ru hl (w := 1) (by decide) (by decide)
  have r2 := h.ru hl (w := 2) (by decide) (by decide)
  have r3 := h.ru hl (w := 3) (by decide) (by decide)
  obtain ⟨b24, b27, b28, b29⟩ := h.bu
  have ha : 0 ≤ a ∧ a ≤ 6 := by rcases hl with ⟨rfl, -⟩ | ⟨x, y, -⟩ <;> omega
  have hcc : 0 ≤ q_cc l b s ∧ q_cc l b s ≤ 2000000000000 := by unfold q_cc; split <;> omega
  have hcp : 0 ≤ q_cp l b s ∧ q_cp l b s ≤ 2000000000000 := by unfold q_cp; split <;> omega
  have hst := q_st_in (tm := tm) (c := q_cc l b s) (p := q_cp l b s) (g := s (54 + 4 * l + 2)) (t := s (54 + 4 * l + 3)) hcc.1 hcp.1 hs0
  have hx : q_cc l b s = s (54 + 4 * l) + (if b = 0 then 0 else s 58) := rfl
  have hy : q_cp l b s = s (54 + 4 * l + 1) + (if b = 0 then 0 else s 59) := rfl
  have e0 : q_min (q_s0 (q_cc l b s) sum) (s (54 + 4 * l)) = q_min sum (s (54 + 4 * l)) := by
    unfold q_s0
    rw [hx]
    exact q_min_min (by split <;> omega)
  have e1 : q_min (q_s1 (q_cc l b s) (q_cp l b s) sum) (s (54 + 4 * l + 1)) = q_min (sum - q_s0 (q_cc l b s) sum) (s (54 + 4 * l + 1)) := by
    unfold q_s1
    rw [hy]
    exact q_min_min (by split <;> omega)
  have m0 := q_min_le sum (s (54 + 4 * l))
  have m0n := q_min_nn hs0 hc.1
  unfold F_Books_pour
  simp (disch := omega) only [Int.add_zero, Int.mul_zero, Int.reduceMul, Int.reduceAdd, Int.mul_one, Int.tdiv_eq_ediv_of_nonneg, Int.tmod_eq_emod_of_nonneg, ↓reduceIte, ↓zLet_eq, ↓zRd_ok, ↓zWr_ok, ↓zC_V, ↓zC_I, ↓zC_J, zUp_at, zUp_ne, q_up_at, q_up_ne, w32_of, w64_of, q_le_T, q_le_F, q_lt_T, q_lt_F, q_eq_T, q_eq_F, true_or, or_true, or_false, false_or, false_and, and_false, f0, f1, f4, f5, r0, r1, r2, r3, b28, b29, zminJ_eq, e0, e1]
  refine ⟨_, rfl, fun c hc => by simp (disch := omega) only [zUp_ne], ?_, ?_, ?_, ?_, ?_, ?_, ?_, ?_⟩
  · intro k k0 k1
    simp (disch := omega) only [zUp_ne]
    exact h.1 k k0 k1
  · intro k k0 k1
    simp (disch := omega) only [zUp_at]
    unfold q_fl
    rcases hl with ⟨rfl, rfl⟩ | ⟨a0, a1, rfl⟩
    · simp (disch := omega) only [Int.add_zero, Int.mul_zero, Int.reduceMul, Int.reduceAdd, Int.mul_one, Int.tdiv_eq_ediv_of_nonneg, Int.tmod_eq_emod_of_nonneg, ↓reduceIte, ↓zLet_eq, ↓zRd_ok, ↓zWr_ok, ↓zC_V, ↓zC_I, ↓zC_J, zUp_at, zUp_ne, q_up_at, q_up_ne, w32_of, w64_of, q_le_T, q_le_F, q_lt_T, q_lt_F, q_eq_T, q_eq_F, true_or, or_true, or_false, false_or, false_and, and_false]
      exact h.2.1 k k0 k1
    · by_cases w0 : k = a * 4
      · subst w0
        rw [show 62 + a * 4 = 54 + 4 * (2 + a) by omega]
        simp (disch := omega) only [Int.add_zero, Int.mul_zero, Int.reduceMul, Int.reduceAdd, Int.mul_one, Int.tdiv_eq_ediv_of_nonneg, Int.tmod_eq_emod_of_nonneg, ↓reduceIte, ↓zLet_eq, ↓zRd_ok, ↓zWr_ok, ↓zC_V, ↓zC_I, ↓zC_J, zUp_at, zUp_ne, q_up_at, q_up_ne, w32_of, w64_of, q_le_T, q_le_F, q_lt_T, q_lt_F, q_eq_T, q_eq_F, true_or, or_true, or_false, false_or, false_and, and_false]
      · by_cases w1 : k = a * 4 + 1
        · subst w1
          rw [show 62 + (a * 4 + 1) = 54 + 4 * (2 + a) + 1 by omega]
          simp (disch := omega) only [Int.add_zero, Int.mul_zero, Int.reduceMul, Int.reduceAdd, Int.mul_one, Int.tdiv_eq_ediv_of_nonneg, Int.tmod_eq_emod_of_nonneg, ↓reduceIte, ↓zLet_eq, ↓zRd_ok, ↓zWr_ok, ↓zC_V, ↓zC_I, ↓zC_J, zUp_at, zUp_ne, q_up_at, q_up_ne, w32_of, w64_of, q_le_T, q_le_F, q_lt_T, q_lt_F, q_eq_T, q_eq_F, true_or, or_true, or_false, false_or, false_and, and_false]
        · by_cases w2 : k = a * 4 + 2
          · subst w2
            rw [show 62 + (a * 4 + 2) = 54 + 4 * (2 + a) + 2 by omega]
            simp (disch := omega) only [Int.add_zero, Int.mul_zero, Int.reduceMul, Int.reduceAdd, Int.mul_one, Int.tdiv_eq_ediv_of_nonneg, Int.tmod_eq_emod_of_nonneg, ↓reduceIte, ↓zLet_eq, ↓zRd_ok, ↓zWr_ok, ↓zC_V, ↓zC_I, ↓zC_J, zUp_at, zUp_ne, q_up_at, q_up_ne, w32_of, w64_of, q_le_T, q_le_F, q_lt_T, q_lt_F, q_eq_T, q_eq_F, true_or, or_true, or_false, false_or, false_and, and_false]
          · by_cases w3 : k = a * 4 + 3
            · subst w3
              rw [show 62 + (a * 4 + 3) = 54 + 4 * (2 + a) + 3 by omega]
              simp (disch := omega) only [Int.add_zero, Int.mul_zero, Int.reduceMul, Int.reduceAdd, Int.mul_one, Int.tdiv_eq_ediv_of_nonneg, Int.tmod_eq_emod_of_nonneg, ↓reduceIte, ↓zLet_eq, ↓zRd_ok, ↓zWr_ok, ↓zC_V, ↓zC_I, ↓zC_J, zUp_at, zUp_ne, q_up_at, q_up_ne, w32_of, w64_of, q_le_T, q_le_F, q_lt_T, q_lt_F, q_eq_T, q_eq_F, true_or, or_true, or_false, false_or, false_and, and_false]
            · simp (disch := omega) only [Int.add_zero, Int.mul_zero, Int.reduceMul, Int.reduceAdd, Int.mul_one, Int.tdiv_eq_ediv_of_nonneg, Int.tmod_eq_emod_of_nonneg, ↓reduceIte, ↓zLet_eq, ↓zRd_ok, ↓zWr_ok, ↓zC_V, ↓zC_I, ↓zC_J, zUp_at, zUp_ne, q_up_at, q_up_ne, w32_of, w64_of, q_le_T, q_le_F, q_lt_T, q_lt_F, q_eq_T, q_eq_F, true_or, or_true, or_false, false_or, false_and, and_false]
              exact h.2.1 k k0 k1
  · intro k k0 k1
    simp (disch := omega) only [zUp_at]
    unfold q_fl
    by_cases w8 : k = 28
    · subst w8
      simp (disch := omega) only [Int.add_zero, Int.mul_zero, Int.reduceMul, Int.reduceAdd, Int.mul_one, Int.tdiv_eq_ediv_of_nonneg, Int.tmod_eq_emod_of_nonneg, ↓reduceIte, ↓zLet_eq, ↓zRd_ok, ↓zWr_ok, ↓zC_V, ↓zC_I, ↓zC_J, zUp_at, zUp_ne, q_up_at, q_up_ne, w32_of, w64_of, q_le_T, q_le_F, q_lt_T, q_lt_F, q_eq_T, q_eq_F, true_or, or_true, or_false, false_or, false_and, and_false]
    · by_cases w9 : k = 29
      · subst w9
        simp (disch := omega) only [Int.add_zero, Int.mul_zero, Int.reduceMul, Int.reduceAdd, Int.mul_one, Int.tdiv_eq_ediv_of_nonneg, Int.tmod_eq_emod_of_nonneg, ↓reduceIte, ↓zLet_eq, ↓zRd_ok, ↓zWr_ok, ↓zC_V, ↓zC_I, ↓zC_J, zUp_at, zUp_ne, q_up_at, q_up_ne, w32_of, w64_of, q_le_T, q_le_F, q_lt_T, q_lt_F, q_eq_T, q_eq_F, true_or, or_true, or_false, false_or, false_and, and_false]
      · rcases hl with ⟨rfl, rfl⟩ | ⟨a0, a1, rfl⟩
        · by_cases w0 : k = 24
          · subst w0
            simp (disch := omega) only [Int.add_zero, Int.mul_zero, Int.reduceMul, Int.reduceAdd, Int.mul_one, Int.tdiv_eq_ediv_of_nonneg, Int.tmod_eq_emod_of_nonneg, ↓reduceIte, ↓zLet_eq, ↓zRd_ok, ↓zWr_ok, ↓zC_V, ↓zC_I, ↓zC_J, zUp_at, zUp_ne, q_up_at, q_up_ne, w32_of, w64_of, q_le_T, q_le_F, q_lt_T, q_lt_F, q_eq_T, q_eq_F, true_or, or_true, or_false, false_or, false_and, and_false]
          · by_cases w1 : k = 25
            · subst w1
              simp (disch := omega) only [Int.add_zero, Int.mul_zero, Int.reduceMul, Int.reduceAdd, Int.mul_one, Int.tdiv_eq_ediv_of_nonneg, Int.tmod_eq_emod_of_nonneg, ↓reduceIte, ↓zLet_eq, ↓zRd_ok, ↓zWr_ok, ↓zC_V, ↓zC_I, ↓zC_J, zUp_at, zUp_ne, q_up_at, q_up_ne, w32_of, w64_of, q_le_T, q_le_F, q_lt_T, q_lt_F, q_eq_T, q_eq_F, true_or, or_true, or_false, false_or, false_and, and_false]
            · by_cases w2 : k = 26
              · subst w2
                simp (disch := omega) only [Int.add_zero, Int.mul_zero, Int.reduceMul, Int.reduceAdd, Int.mul_one, Int.tdiv_eq_ediv_of_nonneg, Int.tmod_eq_emod_of_nonneg, ↓reduceIte, ↓zLet_eq, ↓zRd_ok, ↓zWr_ok, ↓zC_V, ↓zC_I, ↓zC_J, zUp_at, zUp_ne, q_up_at, q_up_ne, w32_of, w64_of, q_le_T, q_le_F, q_lt_T, q_lt_F, q_eq_T, q_eq_F, true_or, or_true, or_false, false_or, false_and, and_false]
              · by_cases w3 : k = 27
                · subst w3
                  simp (disch := omega) only [Int.add_zero, Int.mul_zero, Int.reduceMul, Int.reduceAdd, Int.mul_one, Int.tdiv_eq_ediv_of_nonneg, Int.tmod_eq_emod_of_nonneg, ↓reduceIte, ↓zLet_eq, ↓zRd_ok, ↓zWr_ok, ↓zC_V, ↓zC_I, ↓zC_J, zUp_at, zUp_ne, q_up_at, q_up_ne, w32_of, w64_of, q_le_T, q_le_F, q_lt_T, q_lt_F, q_eq_T, q_eq_F, true_or, or_true, or_false, false_or, false_and, and_false]
                · simp (disch := omega) only [Int.add_zero, Int.mul_zero, Int.reduceMul, Int.reduceAdd, Int.mul_one, Int.tdiv_eq_ediv_of_nonneg, Int.tmod_eq_emod_of_nonneg, ↓reduceIte, ↓zLet_eq, ↓zRd_ok, ↓zWr_ok, ↓zC_V, ↓zC_I, ↓zC_J, zUp_at, zUp_ne, q_up_at, q_up_ne, w32_of, w64_of, q_le_T, q_le_F, q_lt_T, q_lt_F, q_eq_T, q_eq_F, true_or, or_true, or_false, false_or, false_and, and_false]
                  exact h.2.2.1 k k0 k1
        · simp (disch := omega) only [Int.add_zero, Int.mul_zero, Int.reduceMul, Int.reduceAdd, Int.mul_one, Int.tdiv_eq_ediv_of_nonneg, Int.tmod_eq_emod_of_nonneg, ↓reduceIte, ↓zLet_eq, ↓zRd_ok, ↓zWr_ok, ↓zC_V, ↓zC_I, ↓zC_J, zUp_at, zUp_ne, q_up_at, q_up_ne, w32_of, w64_of, q_le_T, q_le_F, q_lt_T, q_lt_F, q_eq_T, q_eq_F, true_or, or_true, or_false, false_or, false_and, and_false]
          exact h.2.2.1 k k0 k1
  · intro k k0 k1
    simp (disch := omega) only [zUp_ne]
    rw [q_fl_at (by omega) (by rcases hl with ⟨_, rfl⟩ | ⟨_, _, rfl⟩ <;> omega) (by rcases hl with ⟨_, rfl⟩ | ⟨_, _, rfl⟩ <;> omega)]
    exact h.2.2.2.1 k k0 k1
  · intro k k0 k1
    simp (disch := omega) only [zUp_ne]
    rw [q_fl_at (by omega) (by rcases hl with ⟨_, rfl⟩ | ⟨_, _, rfl⟩ <;> omega) (by rcases hl with ⟨_, rfl⟩ | ⟨_, _, rfl⟩ <;> omega)]
    exact h.2.2.2.2.1 k k0 k1
  · simp (disch := omega) only [zUp_ne]
    exact h.2.2.2.2.2.1
  · simp (disch := omega) only [zUp_ne]
    rw [q_fl_at (by omega) (by rcases hl with ⟨_, rfl⟩ | ⟨_, _, rfl⟩ <;> omega) (by rcases hl with ⟨_, rfl⟩ | ⟨_, _, rfl⟩ <;> omega)]
    exact h.2.2.2.2.2.2.1
  · simp (disch := omega) only [zUp_ne]
    rw [q_fl_at (by omega) (by rcases hl with ⟨_, rfl⟩ | ⟨_, _, rfl⟩ <;> omega) (by rcases hl with ⟨_, rfl⟩ | ⟨_, _, rfl⟩ <;> omega)]
    exact h.2.2.2.2.2.2.2
