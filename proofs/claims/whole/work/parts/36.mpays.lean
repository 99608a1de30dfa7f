/-! ===== the reference: who pays, who gets ===== -/
theorem q_py_zero (pt s : Int → Int) : q_py 0 pt s = s := by
  funext k
  exact if_neg (by omega)
theorem q_gt_zero (pt s : Int → Int) : q_gt 0 pt s = s := by
  funext k
  exact if_neg (by omega)
theorem q_tr_zero (q : Int) (pt p : Int → Int) : q_tr 0 q pt p = p := by
  funext k
  exact if_neg (by omega)
theorem q_py_step (j : Nat) (pt s : Int → Int) : q_up (q_up (q_py j pt s) (5 * j + 1) (s (5 * j + 1) - pt j)) (5 * j + 2) (s (5 * j + 2) + pt j) = q_py (j + 1) pt s := by
  funext k
  unfold q_up
  by_cases h2 : k = 5 * j + 2
  · subst h2
    rw [if_pos rfl, q_py_2 (m := j + 1) (by omega) (by omega)]
  · rw [if_neg h2]
    by_cases h1 : k = 5 * j + 1
    · subst h1
      rw [if_pos rfl, q_py_1 (m := j + 1) (by omega) (by omega)]
    · rw [if_neg h1]
      unfold q_py
      by_cases h3 : 0 ≤ k ∧ k < 5 * (j : Int)
      · have h3' : 0 ≤ k ∧ k < 5 * ((j + 1 : Nat) : Int) := by omega
        rw [if_pos h3, if_pos h3']
      · rw [if_neg h3]
        by_cases h4 : 0 ≤ k ∧ k < 5 * ((j + 1 : Nat) : Int)
        · rw [if_pos h4, if_neg (by omega), if_neg (by omega)]
        · rw [if_neg h4]
theorem q_gt_step (j : Nat) (pt s : Int → Int) : q_up (q_gt j pt s) (5 * j + 3) (s (5 * j + 3) + pt j) = q_gt (j + 1) pt s := by
  funext k
  unfold q_up
  by_cases h1 : k = 5 * j + 3
  · subst h1
    rw [if_pos rfl, q_gt_3 (m := j + 1) (by omega) (by omega)]
  · rw [if_neg h1]
    unfold q_gt
    by_cases h3 : 0 ≤ k ∧ k < 5 * (j : Int) ∧ k % 5 = 3
    · rw [if_pos h3, if_pos (by omega)]
    · rw [if_neg h3, if_neg (by omega)]
theorem q_tr_step (j : Nat) {q : Int} (h0 : 0 ≤ q) (h1 : q < 201) (pt p : Int → Int) : q_up (q_tr j q pt p) (201 * j + q) (p (201 * j + q) + pt j) = q_tr (j + 1) q pt p := by
  funext k
  unfold q_up
  by_cases hk : k = 201 * j + q
  · subst hk
    rw [if_pos rfl]
    unfold q_tr
    rw [if_pos (by omega), show (201 * (j : Int) + q) / 201 = j by omega]
  · rw [if_neg hk]
    unfold q_tr
    by_cases h3 : 0 ≤ k ∧ k < 201 * (j : Int) ∧ k % 201 = q
    · rw [if_pos h3, if_pos (by omega)]
    · rw [if_neg h3, if_neg (by omega)]
theorem q_tr_at {j : Nat} {q : Int} {pt p : Int → Int} {k : Int} (h : k < 0 ∨ 201 * (j : Int) ≤ k ∨ k % 201 ≠ q) : q_tr j q pt p k = p k := if_neg (by omega)
theorem m_paysAll {μ : ZMem} {m : Nat} {sum d : Int} (hm : μ 0 5 = m) (h6 : m ≤ 6) (hd0 : -1 ≤ d) (hd1 : d < 6) (hw : ∀ i : Nat, i < m → 0 ≤ μ 5 (5 * i + 1) ∧ μ 5 (5 * i + 1) ≤ 9999) (hs0 : 0 ≤ sum) (hs1 : sum ≤ 10000000000000) (hq0 : 0 ≤ μ 5 90) (hq1 : μ 5 90 ≤ 200) :
    ∃ μ', F_Model_paysAll sum d μ = some (.inr none, μ') ∧ (∀ c, c ≠ 5 → c ≠ 6 → c ≠ 19 → c ≠ 20 → c ≠ 21 → μ' c = μ c) ∧ μ' 5 = q_py m (q_shr m (q_wp (μ 4) (μ 5) d) sum) (μ 5) ∧ μ' 6 = q_tr m (μ 5 90) (q_shr m (q_wp (μ 4) (μ 5) d) sum) (μ 6) := by
  have s1 : ∀ K : ZMem → Option ZRes, L_Model_paysAll_3 sum d K zN 0 μ = K (q_fi μ 19 (q_wp (μ 4) (μ 5) d) m) := fun K => by
    refine q_map (L := fun n j ν => L_Model_paysAll_3 sum d K n j ν) (fun n j hj => ?_) (fun n => ?_) (zN_gt (by omega))
    · have e05 : q_fi μ 19 (q_wp (μ 4) (μ 5) d) j 0 5 = m := by rw [q_fi_ne (by decide)]; exact hm
      have e4 : q_fi μ 19 (q_wp (μ 4) (μ 5) d) j 4 = μ 4 := q_fi_ne (by decide)
      have e5 : q_fi μ 19 (q_wp (μ 4) (μ 5) d) j 5 = μ 5 := q_fi_ne (by decide)
      by_cases hx : q_ex (μ 4) j d
      · simp (disch := omega) only [L_Model_paysAll_3, J_Model_paysAll_43, Int.add_zero, Int.mul_zero, Int.reduceMul, Int.reduceAdd, Int.mul_one, Int.tdiv_eq_ediv_of_nonneg, Int.tmod_eq_emod_of_nonneg, ↓reduceIte, ↓zLet_eq, ↓zRd_ok, ↓zWr_ok, ↓zC_V, ↓zC_I, ↓zC_J, zUp_at, zUp_ne, q_up_at, q_up_ne, w32_of, w64_of, q_le_T, q_le_F, q_lt_T, q_lt_F, q_eq_T, q_eq_F, true_or, or_true, or_false, false_or, m_isExcused, e4, if_pos hx, q_wp]
      · simp (disch := omega) only [L_Model_paysAll_3, J_Model_paysAll_43, Int.add_zero, Int.mul_zero, Int.reduceMul, Int.reduceAdd, Int.mul_one, Int.tdiv_eq_ediv_of_nonneg, Int.tmod_eq_emod_of_nonneg, ↓reduceIte, ↓zLet_eq, ↓zRd_ok, ↓zWr_ok, ↓zC_V, ↓zC_I, ↓zC_J, zUp_at, zUp_ne, q_up_at, q_up_ne, w32_of, w64_of, q_le_T, q_le_F, q_lt_T, q_lt_F, q_eq_T, q_eq_F, true_or, or_true, or_false, false_or, m_isExcused, m_placeOf, e4, e5, if_neg hx, q_wp]
    · have e05 : q_fi μ 19 (q_wp (μ 4) (μ 5) d) m 0 5 = m := by rw [q_fi_ne (by decide)]; exact hm
      simp (disch := omega) only [L_Model_paysAll_3, Int.add_zero, Int.mul_zero, Int.reduceMul, Int.reduceAdd, Int.mul_one, Int.tdiv_eq_ediv_of_nonneg, Int.tmod_eq_emod_of_nonneg, ↓reduceIte, ↓zLet_eq, ↓zRd_ok, ↓zWr_ok, ↓zC_V, ↓zC_I, ↓zC_J, zUp_at, zUp_ne, q_up_at, q_up_ne, w32_of, w64_of, q_le_T, q_le_F, q_lt_T, q_lt_F, q_eq_T, q_eq_F, true_or, or_true, or_false, false_or]
  have hwp : ∀ i : Nat, i < m → 0 ≤ q_wp (μ 4) (μ 5) d i ∧ q_wp (μ 4) (μ 5) d i ≤ 9999 := fun i hi => by
    have := hw i hi
    unfold q_wp
    split
    · omega
    · exact this
  unfold F_Model_paysAll
  rw [s1]
  obtain ⟨μ2, e2, f2, g2⟩ := m_shares (μ := q_fi μ 19 (q_wp (μ 4) (μ 5) d) m) (m := m) (w := q_wp (μ 4) (μ 5) d) (sum := sum) (by rw [q_fi_ne (by decide)]; exact hm) h6 (fun i hi => ⟨q_fi_in (by omega) (by omega), hwp i hi⟩) hs0 hs1
  rw [e2, zC_V]
  have f3 : ∀ c, c ≠ 19 → c ≠ 20 → c ≠ 21 → μ2 c = μ c := fun c h19 h20 h21 => by rw [f2 c h20 h21, q_fi_ne h19]
  generalize hpt : q_shr m (q_wp (μ 4) (μ 5) d) sum = pt at g2 ⊢
  obtain ⟨⟨v, ν⟩, e, j, rfl, hj, hf, h5, h6'⟩ := q_loop (L := fun n (a : Int × ZMem) => L_Model_paysAll_58 (fun μ26 => some (.inr none, μ26)) n a.1 a.2) (P := fun k a => ∃ j : Nat, a.1 = j ∧ j + k = m ∧ (∀ c, c ≠ 5 → c ≠ 6 → a.2 c = μ2 c) ∧ a.2 5 = q_py j pt (μ 5) ∧ a.2 6 = q_tr j (μ 5 90) pt (μ 6)) (fun n k a h => by
      obtain ⟨v, ν⟩ := a
      obtain ⟨j, rfl, hj, hf, h5, h6'⟩ := h
      simp only [] at hf h5 h6' ⊢
      have e05 : ν 0 5 = m := by rw [hf 0 (by decide) (by decide), f3 0 (by decide) (by decide) (by decide)]; exact hm
      have e20 : ν 20 j = pt j := by rw [hf 20 (by decide) (by decide)]; exact g2 j (by omega)
      have e1 : ν 5 (5 * j + 1) = μ 5 (5 * j + 1) := by rw [h5]; exact q_py_hi (by omega)
      have e2 : ν 5 (5 * j + 2) = μ 5 (5 * j + 2) := by rw [h5]; exact q_py_hi (by omega)
      have e90 : ν 5 90 = μ 5 90 := by rw [h5]; exact q_py_hi (by omega)
      have e6 : ν 6 (201 * j + μ 5 90) = μ 6 (201 * j + μ 5 90) := by rw [h6']; exact q_tr_at (by omega)
      refine ⟨(j + 1, zUp (zUp (zUp ν 5 (5 * j + 1) (μ 5 (5 * j + 1) - pt j)) 5 (5 * j + 2) (μ 5 (5 * j + 2) + pt j)) 6 (201 * j + μ 5 90) (μ 6 (201 * j + μ 5 90) + pt j)), ?_, j + 1, rfl, by omega, ?_, ?_, ?_⟩
      · simp (disch := omega) only [L_Model_paysAll_58, Int.add_zero, Int.mul_zero, Int.reduceMul, Int.reduceAdd, Int.mul_one, Int.tdiv_eq_ediv_of_nonneg, Int.tmod_eq_emod_of_nonneg, ↓reduceIte, ↓zLet_eq, ↓zRd_ok, ↓zWr_ok, ↓zC_V, ↓zC_I, ↓zC_J, zUp_at, zUp_ne, q_up_at, q_up_ne, w32_of, w64_of, q_le_T, q_le_F, q_lt_T, q_lt_F, q_eq_T, q_eq_F, true_or, or_true, or_false, false_or, m_placeOf, e20, e1, e2, e90, e6]
      · intro c c5 c6
        simp only []
        rw [zUp_ne c6, zUp_ne c5, zUp_ne c5, hf c c5 c6]
      · simp (disch := omega) only [zUp_at, zUp_ne]
        rw [h5]
        exact q_py_step j pt (μ 5)
      · simp (disch := omega) only [zUp_at, zUp_ne]
        rw [h6']
        exact q_tr_step j hq0 (by omega) pt (μ 6)) m zN (0, μ2) ⟨0, rfl, by omega, fun _ _ _ => rfl, by rw [q_py_zero]; exact f3 5 (by decide) (by decide) (by decide), by rw [q_tr_zero]; exact f3 6 (by decide) (by decide) (by decide)⟩ (Nat.le_of_lt (zN_gt (by omega)))
  obtain rfl : j = m := by omega
  simp only [] at e hf h5 h6'
  have e05 : ν 0 5 = j := by rw [hf 0 (by decide) (by decide), f3 0 (by decide) (by decide) (by decide)]; exact hm
  refine ⟨ν, ?_, fun c c5 c6 c19 c20 c21 => by rw [hf c c5 c6, f3 c c19 c20 c21], h5, h6'⟩
  rw [e]
  obtain ⟨n, hn⟩ : ∃ n, zN - j = n + 1 := ⟨zN - j - 1, by have := zN_gt (m := j) (by omega); omega⟩
  rw [hn]
  simp (disch := omega) only [L_Model_paysAll_58, Int.add_zero, Int.mul_zero, Int.reduceMul, Int.reduceAdd, Int.mul_one, Int.tdiv_eq_ediv_of_nonneg, Int.tmod_eq_emod_of_nonneg, ↓reduceIte, ↓zLet_eq, ↓zRd_ok, ↓zWr_ok, ↓zC_V, ↓zC_I, ↓zC_J, zUp_at, zUp_ne, q_up_at, q_up_ne, w32_of, w64_of, q_le_T, q_le_F, q_lt_T, q_lt_F, q_eq_T, q_eq_F, true_or, or_true, or_false, false_or]
theorem m_byWeights {μ : ZMem} {m : Nat} {sum d : Int} (hm : μ 0 5 = m) (h6 : m ≤ 6) (hd0 : -1 ≤ d) (hd1 : d < 6) (hw : ∀ i : Nat, i < m → 0 ≤ μ 5 (5 * i) ∧ μ 5 (5 * i) ≤ 9999 ∧ 0 ≤ μ 5 (5 * i + 4) ∧ μ 5 (5 * i + 4) ≤ 1) (hs0 : 0 ≤ sum) (hs1 : sum ≤ 10000000000000) :
    ∃ μ', F_Model_byWeights sum d μ = some (.inr none, μ') ∧ (∀ c, c ≠ 19 → c ≠ 20 → c ≠ 21 → μ' c = μ c) ∧ ∀ i : Nat, i < m → μ' 20 i = q_shr m (q_wg (μ 4) (μ 5) d) sum i := by
  have s1 : ∀ K : ZMem → Option ZRes, L_Model_byWeights_3 sum d K zN 0 μ = K (q_fi μ 19 (q_wg (μ 4) (μ 5) d) m) := fun K => by
    refine q_map (L := fun n j ν => L_Model_byWeights_3 sum d K n j ν) (fun n j hj => ?_) (fun n => ?_) (zN_gt (by omega))
    · have e05 : q_fi μ 19 (q_wg (μ 4) (μ 5) d) j 0 5 = m := by rw [q_fi_ne (by decide)]; exact hm
      have e4 : q_fi μ 19 (q_wg (μ 4) (μ 5) d) j 4 = μ 4 := q_fi_ne (by decide)
      have e5 : q_fi μ 19 (q_wg (μ 4) (μ 5) d) j 5 = μ 5 := q_fi_ne (by decide)
      have hj' := hw j hj
      have ew : F_Model_weightOf j (q_fi μ 19 (q_wg (μ 4) (μ 5) d) j) = some (.inr (some (zJ (q_wt (μ 5) j))), q_fi μ 19 (q_wg (μ 4) (μ 5) d) j) := by
        rw [m_weightOf (by omega) (by omega) (by rw [e5]; omega) (by rw [e5]; omega) (by rw [e5]; omega) (by rw [e5]; omega), e5]
      by_cases hx : q_ex (μ 4) j d
      · simp (disch := omega) only [L_Model_byWeights_3, J_Model_byWeights_38, Int.add_zero, Int.mul_zero, Int.reduceMul, Int.reduceAdd, Int.mul_one, Int.tdiv_eq_ediv_of_nonneg, Int.tmod_eq_emod_of_nonneg, ↓reduceIte, ↓zLet_eq, ↓zRd_ok, ↓zWr_ok, ↓zC_V, ↓zC_I, ↓zC_J, zUp_at, zUp_ne, q_up_at, q_up_ne, w32_of, w64_of, q_le_T, q_le_F, q_lt_T, q_lt_F, q_eq_T, q_eq_F, true_or, or_true, or_false, false_or, m_isExcused, e4, if_pos hx, q_wg]
      · simp (disch := omega) only [L_Model_byWeights_3, J_Model_byWeights_38, Int.add_zero, Int.mul_zero, Int.reduceMul, Int.reduceAdd, Int.mul_one, Int.tdiv_eq_ediv_of_nonneg, Int.tmod_eq_emod_of_nonneg, ↓reduceIte, ↓zLet_eq, ↓zRd_ok, ↓zWr_ok, ↓zC_V, ↓zC_I, ↓zC_J, zUp_at, zUp_ne, q_up_at, q_up_ne, w32_of, w64_of, q_le_T, q_le_F, q_lt_T, q_lt_F, q_eq_T, q_eq_F, true_or, or_true, or_false, false_or, m_isExcused, ew, e4, if_neg hx]
        simp only [q_wg, if_neg hx]
    · have e05 : q_fi μ 19 (q_wg (μ 4) (μ 5) d) m 0 5 = m := by rw [q_fi_ne (by decide)]; exact hm
      simp (disch := omega) only [L_Model_byWeights_3, Int.add_zero, Int.mul_zero, Int.reduceMul, Int.reduceAdd, Int.mul_one, Int.tdiv_eq_ediv_of_nonneg, Int.tmod_eq_emod_of_nonneg, ↓reduceIte, ↓zLet_eq, ↓zRd_ok, ↓zWr_ok, ↓zC_V, ↓zC_I, ↓zC_J, zUp_at, zUp_ne, q_up_at, q_up_ne, w32_of, w64_of, q_le_T, q_le_F, q_lt_T, q_lt_F, q_eq_T, q_eq_F, true_or, or_true, or_false, false_or]
  have hwg : ∀ i : Nat, i < m → 0 ≤ q_wg (μ 4) (μ 5) d i ∧ q_wg (μ 4) (μ 5) d i ≤ 9999 := fun i hi => by
    have := hw i hi
    unfold q_wg q_wt
    split
    · omega
    · split <;> omega
  unfold F_Model_byWeights
  rw [s1]
  obtain ⟨μ2, e2, f2, g2⟩ := m_shares (μ := q_fi μ 19 (q_wg (μ 4) (μ 5) d) m) (m := m) (w := q_wg (μ 4) (μ 5) d) (sum := sum) (by rw [q_fi_ne (by decide)]; exact hm) h6 (fun i hi => ⟨q_fi_in (by omega) (by omega), hwg i hi⟩) hs0 hs1
  rw [e2, zC_V]
  exact ⟨μ2, rfl, fun c h19 h20 h21 => by rw [f2 c h20 h21, q_fi_ne h19], g2⟩
theorem m_getsAll {μ : ZMem} {m : Nat} {sum d : Int} (hm : μ 0 5 = m) (h6 : m ≤ 6) (hd0 : -1 ≤ d) (hd1 : d < 6) (hw : ∀ i : Nat, i < m → 0 ≤ μ 5 (5 * i) ∧ μ 5 (5 * i) ≤ 9999 ∧ 0 ≤ μ 5 (5 * i + 4) ∧ μ 5 (5 * i + 4) ≤ 1) (hs0 : 0 ≤ sum) (hs1 : sum ≤ 10000000000000) (hq0 : 0 ≤ μ 5 90) (hq1 : μ 5 90 ≤ 200) :
    ∃ μ', F_Model_getsAll sum d μ = some (.inr none, μ') ∧ (∀ c, c ≠ 5 → c ≠ 7 → c ≠ 19 → c ≠ 20 → c ≠ 21 → μ' c = μ c) ∧ μ' 5 = q_gt m (q_shr m (q_wg (μ 4) (μ 5) d) sum) (μ 5) ∧ μ' 7 = q_tr m (μ 5 90) (q_shr m (q_wg (μ 4) (μ 5) d) sum) (μ 7) := by
  unfold F_Model_getsAll
  obtain ⟨μ2, e2, f3, g2⟩ := m_byWeights (sum := sum) hm h6 hd0 hd1 hw hs0 hs1
  rw [e2, zC_V]
  generalize hpt : q_shr m (q_wg (μ 4) (μ 5) d) sum = pt at g2 ⊢
  obtain ⟨⟨v, ν⟩, e, j, rfl, hj, hf, h5, h6'⟩ := q_loop (L := fun n (a : Int × ZMem) => L_Model_getsAll_9 (fun μ13 => some (.inr none, μ13)) n a.1 a.2) (P := fun k a => ∃ j : Nat, a.1 = j ∧ j + k = m ∧ (∀ c, c ≠ 5 → c ≠ 7 → a.2 c = μ2 c) ∧ a.2 5 = q_gt j pt (μ 5) ∧ a.2 7 = q_tr j (μ 5 90) pt (μ 7)) (fun n k a h => by
      obtain ⟨v, ν⟩ := a
      obtain ⟨j, rfl, hj, hf, h5, h6'⟩ := h
      simp only [] at hf h5 h6' ⊢
      have e05 : ν 0 5 = m := by rw [hf 0 (by decide) (by decide), f3 0 (by decide) (by decide) (by decide)]; exact hm
      have e20 : ν 20 j = pt j := by rw [hf 20 (by decide) (by decide)]; exact g2 j (by omega)
      have e1 : ν 5 (5 * j + 3) = μ 5 (5 * j + 3) := by rw [h5]; exact q_gt_ne (by omega)
      have e90 : ν 5 90 = μ 5 90 := by rw [h5]; exact q_gt_ne (by omega)
      have e6 : ν 7 (201 * j + μ 5 90) = μ 7 (201 * j + μ 5 90) := by rw [h6']; exact q_tr_at (by omega)
      refine ⟨(j + 1, zUp (zUp ν 5 (5 * j + 3) (μ 5 (5 * j + 3) + pt j)) 7 (201 * j + μ 5 90) (μ 7 (201 * j + μ 5 90) + pt j)), ?_, j + 1, rfl, by omega, ?_, ?_, ?_⟩
      · simp (disch := omega) only [L_Model_getsAll_9, Int.add_zero, Int.mul_zero, Int.reduceMul, Int.reduceAdd, Int.mul_one, Int.tdiv_eq_ediv_of_nonneg, Int.tmod_eq_emod_of_nonneg, ↓reduceIte, ↓zLet_eq, ↓zRd_ok, ↓zWr_ok, ↓zC_V, ↓zC_I, ↓zC_J, zUp_at, zUp_ne, q_up_at, q_up_ne, w32_of, w64_of, q_le_T, q_le_F, q_lt_T, q_lt_F, q_eq_T, q_eq_F, true_or, or_true, or_false, false_or, m_placeOf, e20, e1, e90, e6]
      · intro c c5 c6
        simp only []
        rw [zUp_ne c6, zUp_ne c5, hf c c5 c6]
      · simp (disch := omega) only [zUp_at, zUp_ne]
        rw [h5]
        exact q_gt_step j pt (μ 5)
      · simp (disch := omega) only [zUp_at, zUp_ne]
        rw [h6']
        exact q_tr_step j hq0 (by omega) pt (μ 7)) m zN (0, μ2) ⟨0, rfl, by omega, fun _ _ _ => rfl, by rw [q_gt_zero]; exact f3 5 (by decide) (by decide) (by decide), by rw [q_tr_zero]; exact f3 7 (by decide) (by decide) (by decide)⟩ (Nat.le_of_lt (zN_gt (by omega)))
  obtain rfl : j = m := by omega
  simp only [] at e hf h5 h6'
  have e05 : ν 0 5 = j := by rw [hf 0 (by decide) (by decide), f3 0 (by decide) (by decide) (by decide)]; exact hm
  refine ⟨ν, ?_, fun c c5 c6 c19 c20 c21 => by rw [hf c c5 c6, f3 c c19 c20 c21], h5, h6'⟩
  rw [e]
  obtain ⟨n, hn⟩ : ∃ n, zN - j = n + 1 := ⟨zN - j - 1, by have := zN_gt (m := j) (by omega); omega⟩
  rw [hn]
  simp (disch := omega) only [L_Model_getsAll_9, Int.add_zero, Int.mul_zero, Int.reduceMul, Int.reduceAdd, Int.mul_one, Int.tdiv_eq_ediv_of_nonneg, Int.tmod_eq_emod_of_nonneg, ↓reduceIte, ↓zLet_eq, ↓zRd_ok, ↓zWr_ok, ↓zC_V, ↓zC_I, ↓zC_J, zUp_at, zUp_ne, q_up_at, q_up_ne, w32_of, w64_of, q_le_T, q_le_F, q_lt_T, q_lt_F, q_eq_T, q_eq_F, true_or, or_true, or_false, false_or]
