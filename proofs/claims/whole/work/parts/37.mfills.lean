/-! ===== the terms' bounds, a row's bounds; the reference fills a ladder ===== -/
def q_tm (tm : Int → Int) : Prop := (0 ≤ tm 0 ∧ tm 0 ≤ 999) ∧ (0 ≤ tm 1 ∧ tm 1 ≤ 100) ∧ (0 ≤ tm 2 ∧ tm 2 ≤ 50) ∧ (0 ≤ tm 3 ∧ tm 3 ≤ 1) ∧ (0 ≤ tm 4 ∧ tm 4 ≤ 99) ∧ (0 ≤ tm 5 ∧ tm 5 ≤ 100) ∧ (0 ≤ tm 6 ∧ tm 6 ≤ 200)
theorem q_lk_bd {K C G T r : Int} (hC0 : 0 ≤ C) (hK : C < K) (hK1 : K ≤ 100) (hG0 : 0 ≤ G) (hG1 : G ≤ 10000000000000) (hT0 : 0 ≤ T) (hT1 : T ≤ 10000000000000) (hr0 : 0 ≤ r) (hr1 : r ≤ 1000) : 0 ≤ K * r ∧ K * r ≤ 100000 ∧ 0 ≤ C * (G + T + r) ∧ C * (G + T + r) ≤ 100 * 20000000001000 := by
  have h1 := q_mb (show 0 ≤ K by omega) hK1 hr0 hr1
  have h2 := q_mb hC0 (show C ≤ 100 by omega) (show 0 ≤ G + T + r by omega) (show G + T + r ≤ 20000000001000 by omega)
  omega
theorem q_hd_bd {K C G T r : Int} (hC0 : 0 ≤ C) (hK : C < K) (hK1 : K ≤ 100) (hG0 : 0 ≤ G) (hG1 : G ≤ 10000000000000) (hT0 : 0 ≤ T) (hT1 : T ≤ 10000000000000) (hr0 : 0 ≤ r) (hr1 : r ≤ 1000) : 0 ≤ q_hd K C G T r ∧ q_hd K C G T r ≤ 10000000000000000 := by
  refine ⟨q_hd_nn hK r, ?_⟩
  have h := q_lk_bd hC0 hK hK1 hG0 hG1 hT0 hT1 hr0 hr1
  unfold q_hd
  split
  · rename_i hl
    have h2 : (q_lk K C G T r + 100 * (K - C) - 1) / (100 * (K - C)) ≤ q_lk K C G T r + 100 * (K - C) - 1 := Int.ediv_le_self _ (by omega)
    have h3 : q_lk K C G T r ≤ 100 * 20000000001000 := by
      unfold q_lk
      omega
    omega
  · omega
theorem m_caught {μ : ZMem} {G T : Int} (hC0 : 0 ≤ μ 2 2) (hK : μ 2 2 < μ 2 1) (hK1 : μ 2 1 ≤ 100) (hG0 : 0 ≤ G) (hG1 : G ≤ 10000000000000) (hT0 : 0 ≤ T) (hT1 : T ≤ 10000000000000) : F_Model_caught G T μ = some (.inr (some (zJ (q_cu (μ 2 1) (μ 2 2) G T))), μ) := by
  unfold F_Model_caught
  rw [zRd_ok (by omega) (by omega) (by omega), zLet_eq, zRd_ok (by omega) (by omega) (by omega), zLet_eq, w32_of (by omega) (by omega), w32_of (by omega) (by omega)]
  obtain ⟨⟨v, w⟩, e, r, hw, hr, hv⟩ := q_loop (L := fun n (a : Int × Int) => L_Model_caught_26 G T (μ 2 1) (μ 2 2) μ (fun k10 => some (.inr (some (zJ k10)), μ)) n a.1 a.2) (P := fun k a => ∃ r : Nat, a.2 = r ∧ r + k = 100 ∧ a.1 = q_cl (μ 2 1) (μ 2 2) G T r) (fun n k a h => by
      obtain ⟨v, w⟩ := a
      obtain ⟨r, rfl, hr, rfl⟩ := h
      have hb := q_lk_bd hC0 hK hK1 hG0 hG1 hT0 hT1 (show 0 ≤ (r : Int) by omega) (by omega)
      have hh := q_hd_bd hC0 hK hK1 hG0 hG1 hT0 hT1 (show 0 ≤ (r : Int) by omega) (by omega)
      have hc := q_cl_bd (G := G) (T := T) hK r
      refine ⟨(q_cl (μ 2 1) (μ 2 2) G T (r + 1), r + 1), ?_, r + 1, rfl, by omega, rfl⟩
      have el : μ 2 2 * (G + T + r) - 100 * (T + μ 2 1 * r / 100) = q_lk (μ 2 1) (μ 2 2) G T r := rfl
      have eq : q_cl (μ 2 1) (μ 2 2) G T (r + 1) = q_min (q_cl (μ 2 1) (μ 2 2) G T r) (100 * q_hd (μ 2 1) (μ 2 2) G T r + r) := rfl
      rw [eq]
      have hlo : q_lk (μ 2 1) (μ 2 2) G T r ≤ 100 * 20000000001000 := by unfold q_lk; omega
      have hlo2 : -100000000000000000 ≤ q_lk (μ 2 1) (μ 2 2) G T r := by unfold q_lk; omega
      by_cases hl : 0 < q_lk (μ 2 1) (μ 2 2) G T r
      · have eh : q_hd (μ 2 1) (μ 2 2) G T r = (q_lk (μ 2 1) (μ 2 2) G T r + 100 * (μ 2 1 - μ 2 2) - 1) / (100 * (μ 2 1 - μ 2 2)) := if_pos hl
        simp (disch := omega) only [L_Model_caught_26, J_Model_caught_94, Int.add_zero, Int.mul_zero, Int.reduceMul, Int.reduceAdd, Int.mul_one, Int.tdiv_eq_ediv_of_nonneg, Int.tmod_eq_emod_of_nonneg, ↓reduceIte, ↓zLet_eq, ↓zRd_ok, ↓zWr_ok, ↓zC_V, ↓zC_I, ↓zC_J, zUp_at, zUp_ne, q_up_at, q_up_ne, w32_of, w64_of, q_le_T, q_le_F, q_lt_T, q_lt_F, q_eq_T, q_eq_F, true_or, or_true, or_false, false_or, el, ← eh, m_lesser]
      · have eh : q_hd (μ 2 1) (μ 2 2) G T r = 0 := if_neg hl
        rw [eh] at hh ⊢
        simp (disch := omega) only [L_Model_caught_26, J_Model_caught_94, Int.add_zero, Int.mul_zero, Int.reduceMul, Int.reduceAdd, Int.mul_one, Int.tdiv_eq_ediv_of_nonneg, Int.tmod_eq_emod_of_nonneg, ↓reduceIte, ↓zLet_eq, ↓zRd_ok, ↓zWr_ok, ↓zC_V, ↓zC_I, ↓zC_J, zUp_at, zUp_ne, q_up_at, q_up_ne, w32_of, w64_of, q_le_T, q_le_F, q_lt_T, q_lt_F, q_eq_T, q_eq_F, true_or, or_true, or_false, false_or, el, m_lesser]) 100 zN (1000000000000, 0) ⟨0, rfl, by omega, by rw [q_cl]⟩ (Nat.le_of_lt (zN_gt (by omega)))
  have hr' : r = 100 := by omega
  simp only [] at e hw hv
  rw [e, hw, hv]
  obtain ⟨n, hn⟩ : ∃ n, zN - 100 = n + 1 := ⟨zN - 100 - 1, by have := zN_gt (m := 100) (by omega); omega⟩
  rw [hn]
  unfold q_cu
  rw [← hr']
  simp (disch := omega) only [L_Model_caught_26, Int.add_zero, Int.mul_zero, Int.reduceMul, Int.reduceAdd, Int.mul_one, Int.tdiv_eq_ediv_of_nonneg, Int.tmod_eq_emod_of_nonneg, ↓reduceIte, ↓zLet_eq, ↓zRd_ok, ↓zWr_ok, ↓zC_V, ↓zC_I, ↓zC_J, zUp_at, zUp_ne, q_up_at, q_up_ne, w32_of, w64_of, q_le_T, q_le_F, q_lt_T, q_lt_F, q_eq_T, q_eq_F, true_or, or_true, or_false, false_or]
theorem m_takes {μ : ZMem} {l w left : Int} (h0 : 0 ≤ 54 + 4 * l + w) (h1 : 54 + 4 * l + w < 92) (hl0 : -1000000000000000 ≤ left) (hl1 : left ≤ 1000000000000000) (hb0 : -1000000000000000 ≤ μ 5 (54 + 4 * l + w)) (hb1 : μ 5 (54 + 4 * l + w) ≤ 1000000000000000) :
    F_Model_takes l w left μ = some (.inr (some (zJ (q_min left (μ 5 (54 + 4 * l + w))))), zUp μ 5 (54 + 4 * l + w) (μ 5 (54 + 4 * l + w) - q_min left (μ 5 (54 + 4 * l + w)))) := by
  unfold F_Model_takes
  simp (disch := omega) only [m_ladderAt, zC_I, zC_J, zRd_ok, zWr_ok, m_lesser]
theorem q_min2 {sum a b : Int} (hs : 0 ≤ sum) (ha : 0 ≤ a) (hb : 0 ≤ b) : q_min sum a + q_min (sum - q_min sum a) b = q_min sum (a + b) := by
  unfold q_min
  split <;> split <;> split <;> omega
theorem m_fills_98 {μ : ZMem} {l sum u5 s0 s1 : Int} {s : Int → Int} {M : Int} (hl0 : 0 ≤ l) (hl1 : l < 8) (ht : q_tm (μ 2)) (h22 : μ 22 1 = s1) (hu0 : 0 ≤ u5 - s1) (hu1 : u5 - s1 ≤ 1000000)
    (hg : 0 ≤ μ 5 (54 + 4 * l + 2) + s1 ∧ μ 5 (54 + 4 * l + 2) + s1 ≤ 10000000000000) (hk : 0 ≤ μ 5 (54 + 4 * l + 3) ∧ μ 5 (54 + 4 * l + 3) ≤ 10000000000000)
    (hM : M = μ 2 1 * q_f2 (μ 2) (μ 5 (54 + 4 * l + 2) + s1) (μ 5 (54 + 4 * l + 3)) (u5 - s1) / 100 + μ 2 2 * (u5 - s1 - q_f2 (μ 2) (μ 5 (54 + 4 * l + 2) + s1) (μ 5 (54 + 4 * l + 3)) (u5 - s1)) / 100) :
    ∃ μ', J_Model_fills_98 l sum u5 μ = some (.inr none, μ') ∧ (∀ c, c ≠ 0 → c ≠ 5 → c ≠ 22 → μ' c = μ c) ∧ (∀ k, k ≠ 35 → k ≠ 36 → μ' 0 k = μ 0 k) ∧ μ' 0 35 = M ∧ μ' 0 36 = sum - M ∧
      μ' 22 0 = μ 22 0 ∧ μ' 22 1 = s1 ∧ μ' 22 2 = q_f2 (μ 2) (μ 5 (54 + 4 * l + 2) + s1) (μ 5 (54 + 4 * l + 3)) (u5 - s1) ∧ μ' 22 3 = u5 - s1 - q_f2 (μ 2) (μ 5 (54 + 4 * l + 2) + s1) (μ 5 (54 + 4 * l + 3)) (u5 - s1) ∧
      μ' 5 = q_up (q_up (μ 5) (54 + 4 * l + 3) (μ 5 (54 + 4 * l + 3) + M)) (54 + 4 * l + 2) (μ 5 (54 + 4 * l + 2) + (u5 - M)) := by
  obtain ⟨-, ⟨a1, a2⟩, ⟨b1, b2⟩, -⟩ := ht
  have hf := q_f2_in (tm := μ 2) (G := μ 5 (54 + 4 * l + 2) + s1) (T := μ 5 (54 + 4 * l + 3)) hu0
  have hp1 := q_mb a1 a2 hf.1 (show _ ≤ 1000000 by omega)
  have hp2 := q_mb b1 b2 (show 0 ≤ u5 - s1 - q_f2 (μ 2) (μ 5 (54 + 4 * l + 2) + s1) (μ 5 (54 + 4 * l + 3)) (u5 - s1) by omega) (show _ ≤ 1000000 by omega)
  generalize hF : q_f2 (μ 2) (μ 5 (54 + 4 * l + 2) + s1) (μ 5 (54 + 4 * l + 3)) (u5 - s1) = f2 at *
  have step : ∀ μ1 : ZMem, (∀ c, c ≠ 5 → μ1 c = μ c) → μ1 5 = q_up (μ 5) (54 + 4 * l + 2) (μ 5 (54 + 4 * l + 2) + s1) → ∃ μ', J_Model_fills_181 l sum (u5 - s1) f2 2 μ1 = some (.inr none, μ') ∧ (∀ c, c ≠ 0 → c ≠ 5 → c ≠ 22 → μ' c = μ c) ∧ (∀ k, k ≠ 35 → k ≠ 36 → μ' 0 k = μ 0 k) ∧ μ' 0 35 = M ∧ μ' 0 36 = sum - M ∧ μ' 22 0 = μ 22 0 ∧ μ' 22 1 = s1 ∧ μ' 22 2 = f2 ∧ μ' 22 3 = u5 - s1 - f2 ∧
      μ' 5 = q_up (q_up (μ 5) (54 + 4 * l + 3) (μ 5 (54 + 4 * l + 3) + M)) (54 + 4 * l + 2) (μ 5 (54 + 4 * l + 2) + (u5 - M)) := by
    intro μ1 hf1 h5
    have e2 := hf1 2 (by decide)
    have e22 := hf1 22 (by decide)
    have e0 := hf1 0 (by decide)
    unfold J_Model_fills_181
    simp (disch := omega) only [Int.add_zero, Int.mul_zero, Int.reduceMul, Int.reduceAdd, Int.mul_one, Int.tdiv_eq_ediv_of_nonneg, Int.tmod_eq_emod_of_nonneg, ↓reduceIte, ↓zLet_eq, ↓zRd_ok, ↓zWr_ok, ↓zC_V, ↓zC_I, ↓zC_J, zUp_at, zUp_ne, q_up_at, q_up_ne, w32_of, w64_of, q_le_T, q_le_F, q_lt_T, q_lt_F, q_eq_T, q_eq_F, true_or, or_true, or_false, false_or, m_ladderAt, e2, h5]
    refine ⟨_, rfl, fun c c0 c5 c22 => ?_, fun k k35 k36 => ?_, ?_, ?_, ?_, ?_, ?_, ?_, ?_⟩
    · simp (disch := omega) only [zUp_ne]
      exact hf1 c c5
    · simp (disch := omega) only [zUp_ne, zUp_at, q_up_ne]
      rw [e0]
    · simp (disch := omega) only [zUp_ne, zUp_at, q_up_ne, q_up_at]
      exact hM.symm
    · simp (disch := omega) only [zUp_ne, zUp_at, q_up_ne, q_up_at]
      rw [hM]
    · simp (disch := omega) only [zUp_ne, zUp_at, q_up_ne, q_up_at]
      rw [e22]
    · simp (disch := omega) only [zUp_ne, zUp_at, q_up_ne, q_up_at]
      rw [e22, h22]
    · simp (disch := omega) only [zUp_ne, zUp_at, q_up_ne, q_up_at]
    · simp (disch := omega) only [zUp_ne, zUp_at, q_up_ne, q_up_at]
    · simp (disch := omega) only [zUp_ne, zUp_at, q_up_ne, q_up_at]
      rw [h5, ← hM]
      funext k
      by_cases k2 : k = 54 + 4 * l + 2
      · subst k2
        simp (disch := omega) only [q_up_at, q_up_ne]
        omega
      · by_cases k3 : k = 54 + 4 * l + 3
        · subst k3
          simp (disch := omega) only [q_up_at, q_up_ne]
        · simp (disch := omega) only [q_up_ne]
  unfold J_Model_fills_98
  by_cases hkc : μ 2 1 ≤ μ 2 2
  · have ef : f2 = 0 := by rw [← hF]; exact if_neg (by omega)
    subst ef
    simp (disch := omega) only [Int.add_zero, Int.mul_zero, Int.reduceMul, Int.reduceAdd, Int.mul_one, Int.tdiv_eq_ediv_of_nonneg, Int.tmod_eq_emod_of_nonneg, ↓reduceIte, ↓zLet_eq, ↓zRd_ok, ↓zWr_ok, ↓zC_V, ↓zC_I, ↓zC_J, zUp_at, zUp_ne, q_up_at, q_up_ne, w32_of, w64_of, q_le_T, q_le_F, q_lt_T, q_lt_F, q_eq_T, q_eq_F, true_or, or_true, or_false, false_or, m_ladderAt, h22]
    exact step _ (fun c hc => zUp_ne hc) (zUp_at _ _ _ _)
  · have ec : F_Model_caught (μ 5 (54 + 4 * l + 2) + s1) (μ 5 (54 + 4 * l + 3)) (zUp μ 5 (54 + 4 * l + 2) (μ 5 (54 + 4 * l + 2) + s1)) = some (.inr (some (zJ (q_cu (μ 2 1) (μ 2 2) (μ 5 (54 + 4 * l + 2) + s1) (μ 5 (54 + 4 * l + 3))))), zUp μ 5 (54 + 4 * l + 2) (μ 5 (54 + 4 * l + 2) + s1)) := by
      have e2 : zUp μ 5 (54 + 4 * l + 2) (μ 5 (54 + 4 * l + 2) + s1) 2 = μ 2 := zUp_ne (by decide)
      rw [m_caught (by rw [e2]; exact b1) (by rw [e2]; omega) (by rw [e2]; exact a2) hg.1 hg.2 hk.1 hk.2, e2]
    have hcu := q_cl_bd (K := μ 2 1) (C := μ 2 2) (G := μ 5 (54 + 4 * l + 2) + s1) (T := μ 5 (54 + 4 * l + 3)) (by omega) 100
    have ef : q_min (u5 - s1) (q_cu (μ 2 1) (μ 2 2) (μ 5 (54 + 4 * l + 2) + s1) (μ 5 (54 + 4 * l + 3))) = f2 := by
      rw [← hF]
      unfold q_f2 q_min
      rw [if_pos (show μ 2 2 < μ 2 1 by omega)]
    have hcu' : 0 ≤ q_cu (μ 2 1) (μ 2 2) (μ 5 (54 + 4 * l + 2) + s1) (μ 5 (54 + 4 * l + 3)) ∧ q_cu (μ 2 1) (μ 2 2) (μ 5 (54 + 4 * l + 2) + s1) (μ 5 (54 + 4 * l + 3)) ≤ 1000000000000 := hcu
    simp (disch := omega) only [Int.add_zero, Int.mul_zero, Int.reduceMul, Int.reduceAdd, Int.mul_one, Int.tdiv_eq_ediv_of_nonneg, Int.tmod_eq_emod_of_nonneg, ↓reduceIte, ↓zLet_eq, ↓zRd_ok, ↓zWr_ok, ↓zC_V, ↓zC_I, ↓zC_J, zUp_at, zUp_ne, q_up_at, q_up_ne, w32_of, w64_of, q_le_T, q_le_F, q_lt_T, q_lt_F, q_eq_T, q_eq_F, true_or, or_true, or_false, false_or, m_ladderAt, h22, ec, m_lesser, ef]
    exact step _ (fun c hc => zUp_ne hc) (zUp_at _ _ _ _)
theorem q_fl_b0 {tm s : Int → Int} {l sum : Int} (hl : l ≠ 1) (hs : 0 ≤ sum) (hc : 0 ≤ s (54 + 4 * l)) (hp : 0 ≤ s (54 + 4 * l + 1)) : q_fl tm l 0 sum s = q_up (q_up (q_up (q_up s (54 + 4 * l) (s (54 + 4 * l) - q_s0 (s (54 + 4 * l)) sum)) (54 + 4 * l + 1) (s (54 + 4 * l + 1) - q_s1 (s (54 + 4 * l)) (s (54 + 4 * l + 1)) sum)) (54 + 4 * l + 3) (s (54 + 4 * l + 3) + q_fM tm l 0 sum s)) (54 + 4 * l + 2) (s (54 + 4 * l + 2) + (sum - q_s0 (s (54 + 4 * l)) sum - q_fM tm l 0 sum s)) := by
  have ec : q_cc l 0 s = s (54 + 4 * l) := by unfold q_cc; rw [if_pos rfl, Int.add_zero]
  have ep : q_cp l 0 s = s (54 + 4 * l + 1) := by unfold q_cp; rw [if_pos rfl, Int.add_zero]
  generalize hM : q_fM tm l 0 sum s = M
  funext k
  unfold q_fl
  rw [ec, ep, hM]
  by_cases k0 : k = 54 + 4 * l
  · subst k0
    simp (disch := omega) only [Int.add_zero, Int.mul_zero, Int.reduceMul, Int.reduceAdd, Int.mul_one, Int.tdiv_eq_ediv_of_nonneg, Int.tmod_eq_emod_of_nonneg, ↓reduceIte, ↓zLet_eq, ↓zRd_ok, ↓zWr_ok, ↓zC_V, ↓zC_I, ↓zC_J, zUp_at, zUp_ne, q_up_at, q_up_ne, w32_of, w64_of, q_le_T, q_le_F, q_lt_T, q_lt_F, q_eq_T, q_eq_F, true_or, or_true, or_false, false_or, q_s0]
  · by_cases k1 : k = 54 + 4 * l + 1
    · subst k1
      simp (disch := omega) only [Int.add_zero, Int.mul_zero, Int.reduceMul, Int.reduceAdd, Int.mul_one, Int.tdiv_eq_ediv_of_nonneg, Int.tmod_eq_emod_of_nonneg, ↓reduceIte, ↓zLet_eq, ↓zRd_ok, ↓zWr_ok, ↓zC_V, ↓zC_I, ↓zC_J, zUp_at, zUp_ne, q_up_at, q_up_ne, w32_of, w64_of, q_le_T, q_le_F, q_lt_T, q_lt_F, q_eq_T, q_eq_F, true_or, or_true, or_false, false_or, q_s1]
    · by_cases k2 : k = 54 + 4 * l + 2
      · subst k2
        simp (disch := omega) only [Int.add_zero, Int.mul_zero, Int.reduceMul, Int.reduceAdd, Int.mul_one, Int.tdiv_eq_ediv_of_nonneg, Int.tmod_eq_emod_of_nonneg, ↓reduceIte, ↓zLet_eq, ↓zRd_ok, ↓zWr_ok, ↓zC_V, ↓zC_I, ↓zC_J, zUp_at, zUp_ne, q_up_at, q_up_ne, w32_of, w64_of, q_le_T, q_le_F, q_lt_T, q_lt_F, q_eq_T, q_eq_F, true_or, or_true, or_false, false_or]
      · by_cases k3 : k = 54 + 4 * l + 3
        · subst k3
          simp (disch := omega) only [Int.add_zero, Int.mul_zero, Int.reduceMul, Int.reduceAdd, Int.mul_one, Int.tdiv_eq_ediv_of_nonneg, Int.tmod_eq_emod_of_nonneg, ↓reduceIte, ↓zLet_eq, ↓zRd_ok, ↓zWr_ok, ↓zC_V, ↓zC_I, ↓zC_J, zUp_at, zUp_ne, q_up_at, q_up_ne, w32_of, w64_of, q_le_T, q_le_F, q_lt_T, q_lt_F, q_eq_T, q_eq_F, true_or, or_true, or_false, false_or]
        · simp (disch := omega) only [Int.add_zero, Int.mul_zero, Int.reduceMul, Int.reduceAdd, Int.mul_one, Int.tdiv_eq_ediv_of_nonneg, Int.tmod_eq_emod_of_nonneg, ↓reduceIte, ↓zLet_eq, ↓zRd_ok, ↓zWr_ok, ↓zC_V, ↓zC_I, ↓zC_J, zUp_at, zUp_ne, q_up_at, q_up_ne, w32_of, w64_of, q_le_T, q_le_F, q_lt_T, q_lt_F, q_eq_T, q_eq_F, true_or, or_true, or_false, false_or]
          by_cases k58 : k = 58
          · rw [if_pos k58]
            unfold q_s0
            omega
          · rw [if_neg k58]
            by_cases k59 : k = 59
            · rw [if_pos k59]
              unfold q_s1
              omega
            · rw [if_neg k59]
theorem q_fl_b1 {tm s : Int → Int} {l sum : Int} (hl : 1 < l) (hs : 0 ≤ sum) (hc : 0 ≤ s (54 + 4 * l)) (hp : 0 ≤ s (54 + 4 * l + 1)) (hc1 : 0 ≤ s 58) (hp1 : 0 ≤ s 59) : q_fl tm l 1 sum s = q_up (q_up (q_up (q_up (q_up (q_up s (54 + 4 * l) (s (54 + 4 * l) - q_min sum (s (54 + 4 * l)))) 58 (s 58 - q_min (sum - q_min sum (s (54 + 4 * l))) (s 58))) (54 + 4 * l + 1) (s (54 + 4 * l + 1) - q_min (sum - q_s0 (q_cc l 1 s) sum) (s (54 + 4 * l + 1)))) 59 (s 59 - q_min (sum - q_s0 (q_cc l 1 s) sum - q_min (sum - q_s0 (q_cc l 1 s) sum) (s (54 + 4 * l + 1))) (s 59))) (54 + 4 * l + 3) (s (54 + 4 * l + 3) + q_fM tm l 1 sum s)) (54 + 4 * l + 2) (s (54 + 4 * l + 2) + (sum - q_s0 (q_cc l 1 s) sum - q_fM tm l 1 sum s)) := by
  have ec : q_cc l 1 s = s (54 + 4 * l) + s 58 := by unfold q_cc; rw [if_neg (by decide)]
  have ep : q_cp l 1 s = s (54 + 4 * l + 1) + s 59 := by unfold q_cp; rw [if_neg (by decide)]
  have e0 : q_min sum (s (54 + 4 * l)) + q_min (sum - q_min sum (s (54 + 4 * l))) (s 58) = q_s0 (q_cc l 1 s) sum := by rw [ec]; exact q_min2 hs hc hc1
  have hs0 : 0 ≤ sum - q_s0 (q_cc l 1 s) sum := by
    have := (q_min_le sum (q_cc l 1 s)).1
    unfold q_s0
    omega
  have e1 : q_min (sum - q_s0 (q_cc l 1 s) sum) (s (54 + 4 * l + 1)) + q_min (sum - q_s0 (q_cc l 1 s) sum - q_min (sum - q_s0 (q_cc l 1 s) sum) (s (54 + 4 * l + 1))) (s 59) = q_s1 (q_cc l 1 s) (q_cp l 1 s) sum := by
    rw [ep]
    exact q_min2 hs0 hp hp1
  generalize hM : q_fM tm l 1 sum s = M
  funext k
  unfold q_fl
  rw [hM]
  by_cases k0 : k = 54 + 4 * l
  · subst k0
    simp (disch := omega) only [Int.add_zero, Int.mul_zero, Int.reduceMul, Int.reduceAdd, Int.mul_one, Int.tdiv_eq_ediv_of_nonneg, Int.tmod_eq_emod_of_nonneg, ↓reduceIte, ↓zLet_eq, ↓zRd_ok, ↓zWr_ok, ↓zC_V, ↓zC_I, ↓zC_J, zUp_at, zUp_ne, q_up_at, q_up_ne, w32_of, w64_of, q_le_T, q_le_F, q_lt_T, q_lt_F, q_eq_T, q_eq_F, true_or, or_true, or_false, false_or]
  · by_cases k58 : k = 58
    · subst k58
      simp (disch := omega) only [Int.add_zero, Int.mul_zero, Int.reduceMul, Int.reduceAdd, Int.mul_one, Int.tdiv_eq_ediv_of_nonneg, Int.tmod_eq_emod_of_nonneg, ↓reduceIte, ↓zLet_eq, ↓zRd_ok, ↓zWr_ok, ↓zC_V, ↓zC_I, ↓zC_J, zUp_at, zUp_ne, q_up_at, q_up_ne, w32_of, w64_of, q_le_T, q_le_F, q_lt_T, q_lt_F, q_eq_T, q_eq_F, true_or, or_true, or_false, false_or]
    · by_cases k1 : k = 54 + 4 * l + 1
      · subst k1
        simp (disch := omega) only [Int.add_zero, Int.mul_zero, Int.reduceMul, Int.reduceAdd, Int.mul_one, Int.tdiv_eq_ediv_of_nonneg, Int.tmod_eq_emod_of_nonneg, ↓reduceIte, ↓zLet_eq, ↓zRd_ok, ↓zWr_ok, ↓zC_V, ↓zC_I, ↓zC_J, zUp_at, zUp_ne, q_up_at, q_up_ne, w32_of, w64_of, q_le_T, q_le_F, q_lt_T, q_lt_F, q_eq_T, q_eq_F, true_or, or_true, or_false, false_or]
      · by_cases k59 : k = 59
        · subst k59
          simp (disch := omega) only [Int.add_zero, Int.mul_zero, Int.reduceMul, Int.reduceAdd, Int.mul_one, Int.tdiv_eq_ediv_of_nonneg, Int.tmod_eq_emod_of_nonneg, ↓reduceIte, ↓zLet_eq, ↓zRd_ok, ↓zWr_ok, ↓zC_V, ↓zC_I, ↓zC_J, zUp_at, zUp_ne, q_up_at, q_up_ne, w32_of, w64_of, q_le_T, q_le_F, q_lt_T, q_lt_F, q_eq_T, q_eq_F, true_or, or_true, or_false, false_or]
        · by_cases k2 : k = 54 + 4 * l + 2
          · subst k2
            simp (disch := omega) only [Int.add_zero, Int.mul_zero, Int.reduceMul, Int.reduceAdd, Int.mul_one, Int.tdiv_eq_ediv_of_nonneg, Int.tmod_eq_emod_of_nonneg, ↓reduceIte, ↓zLet_eq, ↓zRd_ok, ↓zWr_ok, ↓zC_V, ↓zC_I, ↓zC_J, zUp_at, zUp_ne, q_up_at, q_up_ne, w32_of, w64_of, q_le_T, q_le_F, q_lt_T, q_lt_F, q_eq_T, q_eq_F, true_or, or_true, or_false, false_or]
          · by_cases k3 : k = 54 + 4 * l + 3
            · subst k3
              simp (disch := omega) only [Int.add_zero, Int.mul_zero, Int.reduceMul, Int.reduceAdd, Int.mul_one, Int.tdiv_eq_ediv_of_nonneg, Int.tmod_eq_emod_of_nonneg, ↓reduceIte, ↓zLet_eq, ↓zRd_ok, ↓zWr_ok, ↓zC_V, ↓zC_I, ↓zC_J, zUp_at, zUp_ne, q_up_at, q_up_ne, w32_of, w64_of, q_le_T, q_le_F, q_lt_T, q_lt_F, q_eq_T, q_eq_F, true_or, or_true, or_false, false_or]
            · simp (disch := omega) only [Int.add_zero, Int.mul_zero, Int.reduceMul, Int.reduceAdd, Int.mul_one, Int.tdiv_eq_ediv_of_nonneg, Int.tmod_eq_emod_of_nonneg, ↓reduceIte, ↓zLet_eq, ↓zRd_ok, ↓zWr_ok, ↓zC_V, ↓zC_I, ↓zC_J, zUp_at, zUp_ne, q_up_at, q_up_ne, w32_of, w64_of, q_le_T, q_le_F, q_lt_T, q_lt_F, q_eq_T, q_eq_F, true_or, or_true, or_false, false_or]
