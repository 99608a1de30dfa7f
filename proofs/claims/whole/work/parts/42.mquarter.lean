/-! ===== the reference: a quarter, the end, a move ===== -/
def q_pfj (tm s : Int → Int) (j : Nat) : Int → Int := fun k => if 54 ≤ k ∧ k < 54 + 4 * j ∧ (k - 54) % 4 = 1 then q_min 1000000000 (s k + (s (k - 1) + s k) * tm 0 / 10000) else s k
theorem q_pfj_step (tm s : Int → Int) (j : Nat) : q_up (q_pfj tm s j) (54 + 4 * j + 1) (q_min 1000000000 (s (54 + 4 * j + 1) + (s (54 + 4 * j) + s (54 + 4 * j + 1)) * tm 0 / 10000)) = q_pfj tm s (j + 1) := by
  funext k
  unfold q_up
  by_cases h1 : k = 54 + 4 * j + 1
  · subst h1
    rw [if_pos rfl]
    unfold q_pfj
    rw [if_pos (by omega), show 54 + 4 * (j : Int) + 1 - 1 = 54 + 4 * j by omega]
  · rw [if_neg h1]
    unfold q_pfj
    by_cases h3 : 54 ≤ k ∧ k < 54 + 4 * (j : Int) ∧ (k - 54) % 4 = 1
    · rw [if_pos h3, if_pos (by omega)]
    · rw [if_neg h3, if_neg (by omega)]
theorem q_pfj_all {dl : Nat} {B : Int} {tm s : Int → Int} (h : q_iL dl B s) (hdl : dl ≤ 6) : q_pfj tm s (2 + dl) = q_pf tm s := by
  funext k
  unfold q_pfj q_pf
  by_cases h3 : 54 ≤ k ∧ k < 54 + 4 * ((2 + dl : Nat) : Int) ∧ (k - 54) % 4 = 1
  · rw [if_pos h3, if_pos (by omega)]
  · rw [if_neg h3]
    by_cases h4 : 54 ≤ k ∧ k < 86 ∧ (k - 54) % 4 = 1
    · rw [if_pos h4]
      have h2 := h.2 ((k - 54) / 4).toNat (by omega) (by omega)
      rw [Int.toNat_of_nonneg (by omega), show 54 + 4 * ((k - 54) / 4) + 1 = k by omega, show 54 + 4 * ((k - 54) / 4) = k - 1 by omega] at h2
      rw [h2.1, h2.2.1]
      simp [q_min]
    · rw [if_neg h4]
theorem q_pf_at {tm s : Int → Int} {k : Int} (h : k < 54 ∨ 86 ≤ k) : q_pf tm s k = s k := if_neg (by omega)
theorem q_wp_all {ex s : Int → Int} {m : Nat} : q_sm (q_wp ex s (-1)) m = q_sm (fun i => s (5 * i + 1)) m := q_sm_congr (fun i _ => if_neg (fun h => h.1 rfl))
theorem m_quarterGoes {μ : ZMem} {m dl : Nat} {B : Int} (fe : Int → Int) (hm : μ 0 5 = m) (h6 : m ≤ 6) (hdd : μ 0 6 = dl) (hdl : dl ≤ 6) (hi : q_inv m dl B (μ 5)) (hB0 : 0 ≤ B) (hB1 : B ≤ 800) (ht : q_tm (μ 2)) (hq : μ 5 90 < 200) :
    ∃ μ', F_Model_quarterGoes μ = some (.inr none, μ') ∧ m_kp μ μ' ∧ μ' 0 = μ 0 ∧ (μ' 5, μ' 6, μ' 7, q_up fe (μ 5 90) (q_fee m (μ 2) (μ 5))) = q_qt m (μ 2) (μ 4) (μ 5, μ 6, μ 7, fe) ∧ μ' 9 = μ 9 ∧ μ' 10 = μ 10 := by
  have htm := ht
  obtain ⟨⟨t1, t2⟩, -, -, ⟨d1, d2⟩, -, -, ⟨c1, c2⟩⟩ := htm
  have hfe := q_fee_in (tm := μ 2) hi.1 h6 ht
  have hpi := hi.2.2.2.1
  have hq0 := hpi.2.2.2.2.1
  have s1 : ∀ K : ZMem → Option ZRes, ∃ μ1, L_Model_quarterGoes_2 K zN 0 μ = K μ1 ∧ (∀ c, c ≠ 5 → μ1 c = μ c) ∧ μ1 5 = q_pf (μ 2) (μ 5) := fun K => by
    obtain ⟨⟨v, ν⟩, e, j, rfl, hj, hf, h5⟩ := q_loop (L := fun n (a : Int × ZMem) => L_Model_quarterGoes_2 K n a.1 a.2) (P := fun k a => ∃ j : Nat, a.1 = j ∧ j + k = 2 + dl ∧ (∀ c, c ≠ 5 → a.2 c = μ c) ∧ a.2 5 = q_pfj (μ 2) (μ 5) j) (fun n k a h => by
        obtain ⟨v, ν⟩ := a
        obtain ⟨j, rfl, hj, hf, h5⟩ := h
        simp only [] at hf h5 ⊢
        have e06 : ν 0 6 = dl := by rw [hf 0 (by decide)]; exact hdd
        have e2 : ν 2 = μ 2 := hf 2 (by decide)
        have a0 : ν 5 (54 + 4 * j) = μ 5 (54 + 4 * j) := by rw [h5]; exact if_neg (by omega)
        have a1 : ν 5 (54 + 4 * j + 1) = μ 5 (54 + 4 * j + 1) := by rw [h5]; exact if_neg (by omega)
        have hb := hi.2.2.1.1 j (by omega)
        have hp := q_mb (show 0 ≤ μ 5 (54 + 4 * j) + μ 5 (54 + 4 * j + 1) by omega) (show _ ≤ 2000000000000 by omega) t1 t2
        refine ⟨(j + 1, zUp ν 5 (54 + 4 * j + 1) (q_min 1000000000 (μ 5 (54 + 4 * j + 1) + (μ 5 (54 + 4 * j) + μ 5 (54 + 4 * j + 1)) * μ 2 0 / 10000))), ?_, j + 1, rfl, by omega, fun c hc => by simp only []; rw [zUp_ne hc, hf c hc], ?_⟩
        · simp (disch := omega) only [L_Model_quarterGoes_2, Int.add_zero, Int.mul_zero, Int.reduceMul, Int.reduceAdd, Int.mul_one, Int.tdiv_eq_ediv_of_nonneg, Int.tmod_eq_emod_of_nonneg, ↓reduceIte, ↓zLet_eq, ↓zRd_ok, ↓zWr_ok, ↓zC_V, ↓zC_I, ↓zC_J, zUp_at, zUp_ne, q_up_at, q_up_ne, w32_of, w64_of, q_le_T, q_le_F, q_lt_T, q_lt_F, q_eq_T, q_eq_F, true_or, or_true, or_false, false_or, false_and, and_false, m_ladderAt, a0, a1, e2, m_lesser]
        · simp only [zUp_at]
          rw [h5]
          exact q_pfj_step (μ 2) (μ 5) j) (2 + dl) zN (0, μ) ⟨0, rfl, by omega, fun _ _ => rfl, by funext k; exact (if_neg (by omega)).symm⟩ (Nat.le_of_lt (zN_gt (by omega)))
    simp only [] at e hf h5
    obtain rfl : j = 2 + dl := by omega
    refine ⟨ν, ?_, hf, by rw [h5, q_pfj_all hi.2.2.1 hdl]⟩
    rw [e]
    obtain ⟨n, hn⟩ : ∃ n, zN - (2 + dl) = n + 1 := ⟨zN - (2 + dl) - 1, by have := zN_gt (m := 2 + dl) (by omega); omega⟩
    rw [hn]
    have e06 : ν 0 6 = dl := by rw [hf 0 (by decide)]; exact hdd
    simp (disch := omega) only [L_Model_quarterGoes_2, Int.add_zero, Int.mul_zero, Int.reduceMul, Int.reduceAdd, Int.mul_one, Int.tdiv_eq_ediv_of_nonneg, Int.tmod_eq_emod_of_nonneg, ↓reduceIte, ↓zLet_eq, ↓zRd_ok, ↓zWr_ok, ↓zC_V, ↓zC_I, ↓zC_J, zUp_at, zUp_ne, q_up_at, q_up_ne, w32_of, w64_of, q_le_T, q_le_F, q_lt_T, q_lt_F, q_eq_T, q_eq_F, true_or, or_true, or_false, false_or, false_and, and_false]
  unfold F_Model_quarterGoes
  obtain ⟨μ1, r1, f1, g1⟩ := s1 (fun μ18 => L_Model_quarterGoes_84 μ18 (fun k24 => zC (F_Model_uncalled (-1) μ18) (zkJ (fun x26 μ25 => zRd μ25 2 7 6 (fun x27 => zC (F_Model_lesser x26 ((w64 ((w32 x27) * k24)).tdiv (w64 10000)) μ25) (zkJ (fun x29 _ => zC (F_Model_paysAll x29 (-1) μ25) (zkV (fun μ30 => zC (F_Model_ladderAt 0 0 μ30) (zkI (fun x33 _ => zRd μ30 5 92 x33 (fun x34 => zWr μ30 5 92 x33 (x34 + x29) (fun μ35 => zC (F_Model_isDealwise  μ35) (zkI (fun x37 μ36 => if w32 x37 = 0 then (J_Model_quarterGoes_175 μ36) else (zC (F_Model_ladderAt 1 0 μ36) (zkI (fun x41 _ => zRd μ36 5 92 x41 (fun x42 => zWr μ36 5 92 x41 (x42 + x29) (fun μ43 => J_Model_quarterGoes_175 μ43)))) zX0))) zX0)))) zX0)) zX0)) zX0))) zX0) zN 0 0)
  rw [r1]
  have m1 : μ1 0 5 = m := by rw [f1 0 (by decide)]; exact hm
  have s2 : ∀ K : Int → Option ZRes, L_Model_quarterGoes_84 μ1 K zN 0 0 = K (q_sm (fun i => μ 5 (5 * i)) m) := fun K => by
    refine q_acc (L := fun n a j => L_Model_quarterGoes_84 μ1 K n a j) (f := fun i => μ 5 (5 * i)) (fun n a j hj => ?_) (fun n a => ?_) (zN_gt (by omega))
    · have e : μ1 5 (5 * j) = μ 5 (5 * j) := by rw [g1]; exact q_pf_at (by omega)
      simp (disch := omega) only [L_Model_quarterGoes_84, Int.add_zero, Int.mul_zero, Int.reduceMul, Int.reduceAdd, Int.mul_one, Int.tdiv_eq_ediv_of_nonneg, Int.tmod_eq_emod_of_nonneg, ↓reduceIte, ↓zLet_eq, ↓zRd_ok, ↓zWr_ok, ↓zC_V, ↓zC_I, ↓zC_J, zUp_at, zUp_ne, q_up_at, q_up_ne, w32_of, w64_of, q_le_T, q_le_F, q_lt_T, q_lt_F, q_eq_T, q_eq_F, true_or, or_true, or_false, false_or, false_and, and_false, m_placeOf, e]
    · simp (disch := omega) only [L_Model_quarterGoes_84, Int.add_zero, Int.mul_zero, Int.reduceMul, Int.reduceAdd, Int.mul_one, Int.tdiv_eq_ediv_of_nonneg, Int.tmod_eq_emod_of_nonneg, ↓reduceIte, ↓zLet_eq, ↓zRd_ok, ↓zWr_ok, ↓zC_V, ↓zC_I, ↓zC_J, zUp_at, zUp_ne, q_up_at, q_up_ne, w32_of, w64_of, q_le_T, q_le_F, q_lt_T, q_lt_F, q_eq_T, q_eq_F, true_or, or_true, or_false, false_or, false_and, and_false]
  have eu : q_sm (q_wp (μ1 4) (μ1 5) (-1)) m = q_sm (fun i => μ 5 (5 * i + 1)) m := by
    rw [q_wp_all]
    exact q_sm_congr (fun i hii => by rw [g1]; exact q_pf_at (by omega))
  have b1 : 0 ≤ q_sm (fun i => μ 5 (5 * i + 1)) m := q_sm_nonneg (fun i hii => (hi.1 i hii).2.1.1)
  have b2 : q_sm (fun i => μ 5 (5 * i + 1)) m ≤ 6 * 9999 := q_sm_bd6 h6 (by decide) (fun i hii => by have := hi.1 i hii; omega)
  have b3 : 0 ≤ q_sm (fun i => μ 5 (5 * i)) m := q_sm_nonneg (fun i hii => by have := (hi.1 i hii).1; omega)
  have b4 : q_sm (fun i => μ 5 (5 * i)) m ≤ 6 * 9999 := q_sm_bd6 h6 (by decide) (fun i hii => by have := hi.1 i hii; omega)
  have hp := q_mb c1 c2 b3 b4
  have ef : q_min (q_sm (fun i => μ 5 (5 * i + 1)) m) (μ 2 6 * q_sm (fun i => μ 5 (5 * i)) m / 10000) = q_fee m (μ 2) (μ 5) := rfl
  have e2 : μ1 2 = μ 2 := f1 2 (by decide)
  have e4 : μ1 4 = μ 4 := f1 4 (by decide)
  rw [s2, m_uncalled m1 h6 (by decide) (by decide), eu]
  simp (disch := omega) only [Int.add_zero, Int.mul_zero, Int.reduceMul, Int.reduceAdd, Int.mul_one, Int.tdiv_eq_ediv_of_nonneg, Int.tmod_eq_emod_of_nonneg, ↓reduceIte, ↓zLet_eq, ↓zRd_ok, ↓zWr_ok, ↓zC_V, ↓zC_I, ↓zC_J, zUp_at, zUp_ne, q_up_at, q_up_ne, w32_of, w64_of, q_le_T, q_le_F, q_lt_T, q_lt_F, q_eq_T, q_eq_F, true_or, or_true, or_false, false_or, false_and, and_false, e2, m_lesser, ef]
  obtain ⟨μ2, r2, f2, g5, g6⟩ := m_paysAll (μ := μ1) (sum := q_fee m (μ 2) (μ 5)) (d := -1) m1 h6 (by decide) (by decide) (fun i hii => by rw [g1, q_pf_at (by omega)]; have := hi.1 i hii; omega) hfe.1 (by omega) (by rw [g1, q_pf_at (by omega)]; omega) (by rw [g1, q_pf_at (by omega)]; omega)
  have ept : ∀ i : Nat, i < m → q_shr m (q_wp (μ1 4) (μ1 5) (-1)) (q_fee m (μ 2) (μ 5)) i = q_shr m (q_wp (μ 4) (μ 5) (-1)) (q_fee m (μ 2) (μ 5)) i := q_shr_congr (fun i hii => by rw [e4]; exact q_wp_congr (by rw [g1]; exact q_pf_at (by omega)))
  rw [q_py_congr ept, g1] at g5
  rw [q_tr_congr ept, g1, q_pf_at (by omega), f1 6 (by decide)] at g6
  have f2' : ∀ c, c ≠ 5 → c ≠ 6 → c ≠ 19 → c ≠ 20 → c ≠ 21 → μ2 c = μ c := fun c c5 c6 c19 c20 c21 => by rw [f2 c c5 c6 c19 c20 c21, f1 c c5]
  have t2' : μ2 2 = μ 2 := f2' 2 (by decide) (by decide) (by decide) (by decide) (by decide)
  rw [r2]
  have eq : q_qt m (μ 2) (μ 4) (μ 5, μ 6, μ 7, fe) = (q_qb (μ 2) (q_fee m (μ 2) (μ 5)) (q_py m (q_shr m (q_wp (μ 4) (μ 5) (-1)) (q_fee m (μ 2) (μ 5))) (μ 5)), q_tr m (μ 5 90) (q_shr m (q_wp (μ 4) (μ 5) (-1)) (q_fee m (μ 2) (μ 5))) (μ 6), μ 7, q_up fe (μ 5 90) (q_fee m (μ 2) (μ 5))) := rfl
  rw [eq]
  generalize q_shr m (q_wp (μ 4) (μ 5) (-1)) (q_fee m (μ 2) (μ 5)) = pt at *
  generalize q_fee m (μ 2) (μ 5) = fee at *
  have a54 : μ2 5 54 = μ 5 54 := by rw [g5, q_py_hi (by omega)]; exact if_neg (by omega)
  have a58 : μ2 5 58 = μ 5 58 := by rw [g5, q_py_hi (by omega)]; exact if_neg (by omega)
  have a90 : μ2 5 90 = μ 5 90 := by rw [g5, q_py_hi (by omega)]; exact if_neg (by omega)
  have fin : ∀ μ' : ZMem, (∀ c, c ≠ 5 → μ' c = μ2 c) → m_kp μ μ' ∧ μ' 0 = μ 0 ∧ μ' 6 = q_tr m (μ 5 90) pt (μ 6) ∧ μ' 7 = μ 7 ∧ μ' 9 = μ 9 ∧ μ' 10 = μ 10 := fun μ' hf =>
    ⟨m_kp.of (fun c c5 c6 c7 c9 c10 c19 c20 c21 c22 => by rw [hf c c5, f2' c c5 c6 c19 c20 c21]), by rw [hf 0 (by decide), f2' 0 (by decide) (by decide) (by decide) (by decide) (by decide)], by rw [hf 6 (by decide), g6], by rw [hf 7 (by decide), f2' 7 (by decide) (by decide) (by decide) (by decide) (by decide)], by rw [hf 9 (by decide), f2' 9 (by decide) (by decide) (by decide) (by decide) (by decide)], by rw [hf 10 (by decide), f2' 10 (by decide) (by decide) (by decide) (by decide) (by decide)]⟩
  have hpy : ∀ k, k < 54 → q_py m pt (q_pf (μ 2) (μ 5)) k = q_py m pt (μ 5) k := fun k hk => by
    unfold q_py
    rw [q_pf_at (by omega)]
  simp (disch := omega) only [Int.add_zero, Int.mul_zero, Int.reduceMul, Int.reduceAdd, Int.mul_one, Int.tdiv_eq_ediv_of_nonneg, Int.tmod_eq_emod_of_nonneg, ↓reduceIte, ↓zLet_eq, ↓zRd_ok, ↓zWr_ok, ↓zC_V, ↓zC_I, ↓zC_J, zUp_at, zUp_ne, q_up_at, q_up_ne, w32_of, w64_of, q_le_T, q_le_F, q_lt_T, q_lt_F, q_eq_T, q_eq_F, true_or, or_true, or_false, false_or, false_and, and_false, m_ladderAt]
  have dw : F_Model_isDealwise (zUp μ2 5 54 (μ2 5 54 + fee)) = some (.inr (some (zI (if μ 2 3 = 1 then 1 else 0))), zUp μ2 5 54 (μ2 5 54 + fee)) := by
    have e : zUp μ2 5 54 (μ2 5 54 + fee) 2 = μ 2 := by rw [zUp_ne (by decide), t2']
    rw [m_isDealwise (by rw [e]; omega) (by rw [e]; omega), e]
  rw [dw]
  by_cases h3 : μ 2 3 = 1
  · rw [if_pos h3]
    unfold J_Model_quarterGoes_175
    simp (disch := omega) only [Int.add_zero, Int.mul_zero, Int.reduceMul, Int.reduceAdd, Int.mul_one, Int.tdiv_eq_ediv_of_nonneg, Int.tmod_eq_emod_of_nonneg, ↓reduceIte, ↓zLet_eq, ↓zRd_ok, ↓zWr_ok, ↓zC_V, ↓zC_I, ↓zC_J, zUp_at, zUp_ne, q_up_at, q_up_ne, w32_of, w64_of, q_le_T, q_le_F, q_lt_T, q_lt_F, q_eq_T, q_eq_F, true_or, or_true, or_false, false_or, false_and, and_false, m_ladderAt, a54, a58, a90]
    refine ⟨_, rfl, (fun h => ?_) (fun c hc => by simp (disch := omega) only [zUp_ne] : ∀ c, c ≠ 5 → zUp (zUp (zUp μ2 5 54 (μ 5 54 + fee)) 5 58 (μ 5 58 + fee)) 5 90 (μ 5 90 + 1) c = μ2 c)⟩
    obtain ⟨q1, q2, q3, q4, q5, q6⟩ := fin _ h
    refine ⟨q1, q2, ?_, q5, q6⟩
    rw [q3, q4]
    congr 1
    simp (disch := omega) only [zUp_at]
    rw [g5]
    funext k
    unfold q_qb
    by_cases k1 : k = 54
    · subst k1; simp (disch := omega) only [Int.add_zero, Int.mul_zero, Int.reduceMul, Int.reduceAdd, Int.mul_one, Int.tdiv_eq_ediv_of_nonneg, Int.tmod_eq_emod_of_nonneg, ↓reduceIte, ↓zLet_eq, ↓zRd_ok, ↓zWr_ok, ↓zC_V, ↓zC_I, ↓zC_J, zUp_at, zUp_ne, q_up_at, q_up_ne, w32_of, w64_of, q_le_T, q_le_F, q_lt_T, q_lt_F, q_eq_T, q_eq_F, true_or, or_true, or_false, false_or, false_and, and_false, q_py_hi]
    · by_cases k2 : k = 58
      · subst k2; simp (disch := omega) only [Int.add_zero, Int.mul_zero, Int.reduceMul, Int.reduceAdd, Int.mul_one, Int.tdiv_eq_ediv_of_nonneg, Int.tmod_eq_emod_of_nonneg, ↓reduceIte, ↓zLet_eq, ↓zRd_ok, ↓zWr_ok, ↓zC_V, ↓zC_I, ↓zC_J, zUp_at, zUp_ne, q_up_at, q_up_ne, w32_of, w64_of, q_le_T, q_le_F, q_lt_T, q_lt_F, q_eq_T, q_eq_F, true_or, or_true, or_false, false_or, false_and, and_false, q_py_hi, and_self]
      · by_cases k3 : k = 90
        · subst k3; simp (disch := omega) only [Int.add_zero, Int.mul_zero, Int.reduceMul, Int.reduceAdd, Int.mul_one, Int.tdiv_eq_ediv_of_nonneg, Int.tmod_eq_emod_of_nonneg, ↓reduceIte, ↓zLet_eq, ↓zRd_ok, ↓zWr_ok, ↓zC_V, ↓zC_I, ↓zC_J, zUp_at, zUp_ne, q_up_at, q_up_ne, w32_of, w64_of, q_le_T, q_le_F, q_lt_T, q_lt_F, q_eq_T, q_eq_F, true_or, or_true, or_false, false_or, false_and, and_false, q_py_hi]
        · simp (disch := omega) only [Int.add_zero, Int.mul_zero, Int.reduceMul, Int.reduceAdd, Int.mul_one, Int.tdiv_eq_ediv_of_nonneg, Int.tmod_eq_emod_of_nonneg, ↓reduceIte, ↓zLet_eq, ↓zRd_ok, ↓zWr_ok, ↓zC_V, ↓zC_I, ↓zC_J, zUp_at, zUp_ne, q_up_at, q_up_ne, w32_of, w64_of, q_le_T, q_le_F, q_lt_T, q_lt_F, q_eq_T, q_eq_F, true_or, or_true, or_false, false_or, false_and, and_false]
          by_cases k4 : k < 54
          · rw [hpy k k4, q_pf_at (by omega)]
          · rw [q_py_hi (by omega)]
            unfold q_pf
            split
            · rw [q_py_hi (by omega), q_py_hi (by omega)]
            · rw [q_py_hi (by omega)]
  · rw [if_neg h3]
    unfold J_Model_quarterGoes_175
    simp (disch := omega) only [Int.add_zero, Int.mul_zero, Int.reduceMul, Int.reduceAdd, Int.mul_one, Int.tdiv_eq_ediv_of_nonneg, Int.tmod_eq_emod_of_nonneg, ↓reduceIte, ↓zLet_eq, ↓zRd_ok, ↓zWr_ok, ↓zC_V, ↓zC_I, ↓zC_J, zUp_at, zUp_ne, q_up_at, q_up_ne, w32_of, w64_of, q_le_T, q_le_F, q_lt_T, q_lt_F, q_eq_T, q_eq_F, true_or, or_true, or_false, false_or, false_and, and_false, m_ladderAt, a54, a90]
    refine ⟨_, rfl, (fun h => ?_) (fun c hc => by simp (disch := omega) only [zUp_ne] : ∀ c, c ≠ 5 → zUp (zUp μ2 5 54 (μ 5 54 + fee)) 5 90 (μ 5 90 + 1) c = μ2 c)⟩
    obtain ⟨q1, q2, q3, q4, q5, q6⟩ := fin _ h
    refine ⟨q1, q2, ?_, q5, q6⟩
    rw [q3, q4]
    congr 1
    simp (disch := omega) only [zUp_at]
    rw [g5]
    funext k
    unfold q_qb
    rw [if_neg (show ¬ (k = 58 ∧ μ 2 3 = 1) from fun h => h3 h.2)]
    by_cases k1 : k = 54
    · subst k1; simp (disch := omega) only [Int.add_zero, Int.mul_zero, Int.reduceMul, Int.reduceAdd, Int.mul_one, Int.tdiv_eq_ediv_of_nonneg, Int.tmod_eq_emod_of_nonneg, ↓reduceIte, ↓zLet_eq, ↓zRd_ok, ↓zWr_ok, ↓zC_V, ↓zC_I, ↓zC_J, zUp_at, zUp_ne, q_up_at, q_up_ne, w32_of, w64_of, q_le_T, q_le_F, q_lt_T, q_lt_F, q_eq_T, q_eq_F, true_or, or_true, or_false, false_or, false_and, and_false, q_py_hi]
    · by_cases k3 : k = 90
      · subst k3; simp (disch := omega) only [Int.add_zero, Int.mul_zero, Int.reduceMul, Int.reduceAdd, Int.mul_one, Int.tdiv_eq_ediv_of_nonneg, Int.tmod_eq_emod_of_nonneg, ↓reduceIte, ↓zLet_eq, ↓zRd_ok, ↓zWr_ok, ↓zC_V, ↓zC_I, ↓zC_J, zUp_at, zUp_ne, q_up_at, q_up_ne, w32_of, w64_of, q_le_T, q_le_F, q_lt_T, q_lt_F, q_eq_T, q_eq_F, true_or, or_true, or_false, false_or, false_and, and_false, q_py_hi]
      · simp (disch := omega) only [Int.add_zero, Int.mul_zero, Int.reduceMul, Int.reduceAdd, Int.mul_one, Int.tdiv_eq_ediv_of_nonneg, Int.tmod_eq_emod_of_nonneg, ↓reduceIte, ↓zLet_eq, ↓zRd_ok, ↓zWr_ok, ↓zC_V, ↓zC_I, ↓zC_J, zUp_at, zUp_ne, q_up_at, q_up_ne, w32_of, w64_of, q_le_T, q_le_F, q_lt_T, q_lt_F, q_eq_T, q_eq_F, true_or, or_true, or_false, false_or, false_and, and_false]
        by_cases k4 : k < 54
        · rw [hpy k k4, q_pf_at (by omega)]
        · rw [q_py_hi (by omega)]
          unfold q_pf
          split
          · rw [q_py_hi (by omega), q_py_hi (by omega)]
          · rw [q_py_hi (by omega)]
