/-! ===== faces: act, deals, multiple ===== -/
section FL
variable {m dl a : Nat} {B d sum : Int} {ex s : Int → Int} {κ μ ν : ZMem} {x y z : Int}
theorem face_act (h : z_rest m dl a κ μ) (hx : q_i32 x) (hy : q_i32 y) : z_face [(eIOB, 1), (eNSE, 2)] m dl a κ μ (F_Ledger_act x y κ) (F_Model_act x y μ) := by
  obtain ⟨hf, h6, hdl, ht, ⟨m5, m6, m11, ha⟩, ⟨k3, k4, k11⟩, hi, hq, hs⟩ := h.all
  obtain ⟨M, C⟩ := h
  obtain ⟨x1, x2⟩ := hx
  obtain ⟨y1, y2⟩ := hy
  by_cases gx : 0 ≤ x ∧ x < a
  · by_cases gy : 0 ≤ y ∧ y ≤ 6
    · obtain ⟨k, rfl⟩ := Int.eq_ofNat_of_zero_le gx.1
      obtain ⟨j0, j1, j2, j3, j4⟩ := C.2.1.2.1 k (by omega)
      obtain ⟨j5, j6⟩ := C.2.1.2.2 k (by omega)
      obtain ⟨n5, n6⟩ := M.2.2.2.2 k (by omega)
      have eC : F_Ledger_act k y κ = some (.inr (some (zI (κ 12 (k * 7 + y)))), κ) := by
        unfold F_Ledger_act
        simp (disch := omega) only [Int.add_zero, Int.mul_zero, Int.reduceMul, Int.reduceAdd, Int.mul_one, Int.tdiv_eq_ediv_of_nonneg, Int.tmod_eq_emod_of_nonneg, ↓reduceIte, ↓zLet_eq, ↓zRd_ok, ↓zWr_ok, ↓zC_V, ↓zC_I, ↓zC_J, zUp_at, zUp_ne, q_up_at, q_up_ne, w32_of, w64_of, q_le_T, q_le_F, q_lt_T, q_lt_F, q_eq_T, q_eq_F, true_or, or_true, or_false, false_or, false_and, and_false]
      by_cases w5 : y = 5
      · subst w5
        refine z_face.ok0 (v := zI (κ 12 (k * 7 + 5))) M eC ?_ (c_fr.rf κ)
        rw [j5, ← n5]
        unfold F_Model_act J_Model_act_38
        simp (disch := omega) only [Int.add_zero, Int.mul_zero, Int.reduceMul, Int.reduceAdd, Int.mul_one, Int.tdiv_eq_ediv_of_nonneg, Int.tmod_eq_emod_of_nonneg, ↓reduceIte, ↓zLet_eq, ↓zRd_ok, ↓zWr_ok, ↓zC_V, ↓zC_I, ↓zC_J, zUp_at, zUp_ne, q_up_at, q_up_ne, w32_of, w64_of, q_le_T, q_le_F, q_lt_T, q_lt_F, q_eq_T, q_eq_F, true_or, or_true, or_false, false_or, false_and, and_false, z_isInY]
      by_cases w6 : y = 6
      · subst w6
        refine z_face.ok0 (v := zI (κ 12 (k * 7 + 6))) M eC ?_ (c_fr.rf κ)
        rw [j6, ← n6]
        unfold F_Model_act J_Model_act_38
        simp (disch := omega) only [Int.add_zero, Int.mul_zero, Int.reduceMul, Int.reduceAdd, Int.mul_one, Int.tdiv_eq_ediv_of_nonneg, Int.tmod_eq_emod_of_nonneg, ↓reduceIte, ↓zLet_eq, ↓zRd_ok, ↓zWr_ok, ↓zC_V, ↓zC_I, ↓zC_J, zUp_at, zUp_ne, q_up_at, q_up_ne, w32_of, w64_of, q_le_T, q_le_F, q_lt_T, q_lt_F, q_eq_T, q_eq_F, true_or, or_true, or_false, false_or, false_and, and_false, z_isInY]
      refine z_face.ok0 (v := zI (κ 12 (k * 7 + y))) M eC ?_ (c_fr.rf κ)
      have ej : κ 12 (k * 7 + y) = μ 8 (5 * k + y) := by
        by_cases w0 : y = 0
        · subst w0; rw [Int.add_zero, Int.add_zero]; exact j0
        by_cases w1 : y = 1
        · subst w1; exact j1
        by_cases w2 : y = 2
        · subst w2; exact j2
        by_cases w3 : y = 3
        · subst w3; exact j3
        obtain rfl : y = 4 := by omega
        exact j4
      rw [ej]
      unfold F_Model_act J_Model_act_38
      simp (disch := omega) only [Int.add_zero, Int.mul_zero, Int.reduceMul, Int.reduceAdd, Int.mul_one, Int.tdiv_eq_ediv_of_nonneg, Int.tmod_eq_emod_of_nonneg, ↓reduceIte, ↓zLet_eq, ↓zRd_ok, ↓zWr_ok, ↓zC_V, ↓zC_I, ↓zC_J, zUp_at, zUp_ne, q_up_at, q_up_ne, w32_of, w64_of, q_le_T, q_le_F, q_lt_T, q_lt_F, q_eq_T, q_eq_F, true_or, or_true, or_false, false_or, false_and, and_false, z_isInY]
    · refine z_face.th (v := zI 0) (E := eNSE) (n := 2) M ?_ ?_ (by decide) (by decide +kernel)
      · unfold F_Ledger_act J_Ledger_act_33
        by_cases h0 : y < 0
        · simp (disch := omega) only [Int.add_zero, Int.mul_zero, Int.reduceMul, Int.reduceAdd, Int.mul_one, Int.tdiv_eq_ediv_of_nonneg, Int.tmod_eq_emod_of_nonneg, ↓reduceIte, ↓zLet_eq, ↓zRd_ok, ↓zWr_ok, ↓zC_V, ↓zC_I, ↓zC_J, zUp_at, zUp_ne, q_up_at, q_up_ne, w32_of, w64_of, q_le_T, q_le_F, q_lt_T, q_lt_F, q_eq_T, q_eq_F, true_or, or_true, or_false, false_or, false_and, and_false]
        · simp (disch := omega) only [Int.add_zero, Int.mul_zero, Int.reduceMul, Int.reduceAdd, Int.mul_one, Int.tdiv_eq_ediv_of_nonneg, Int.tmod_eq_emod_of_nonneg, ↓reduceIte, ↓zLet_eq, ↓zRd_ok, ↓zWr_ok, ↓zC_V, ↓zC_I, ↓zC_J, zUp_at, zUp_ne, q_up_at, q_up_ne, w32_of, w64_of, q_le_T, q_le_F, q_lt_T, q_lt_F, q_eq_T, q_eq_F, true_or, or_true, or_false, false_or, false_and, and_false]
      · unfold F_Model_act J_Model_act_38
        simp (disch := omega) only [Int.add_zero, Int.mul_zero, Int.reduceMul, Int.reduceAdd, Int.mul_one, Int.tdiv_eq_ediv_of_nonneg, Int.tmod_eq_emod_of_nonneg, ↓reduceIte, ↓zLet_eq, ↓zRd_ok, ↓zWr_ok, ↓zC_V, ↓zC_I, ↓zC_J, zUp_at, zUp_ne, q_up_at, q_up_ne, w32_of, w64_of, q_le_T, q_le_F, q_lt_T, q_lt_F, q_eq_T, q_eq_F, true_or, or_true, or_false, false_or, false_and, and_false, z_isInY, z_isInN]
  · refine z_face.th (v := zI 0) (E := eIOB) (n := 1) M ?_ ?_ (by decide) (by decide +kernel)
    · unfold F_Ledger_act J_Ledger_act_15
      by_cases h0 : x < 0
      · simp (disch := omega) only [Int.add_zero, Int.mul_zero, Int.reduceMul, Int.reduceAdd, Int.mul_one, Int.tdiv_eq_ediv_of_nonneg, Int.tmod_eq_emod_of_nonneg, ↓reduceIte, ↓zLet_eq, ↓zRd_ok, ↓zWr_ok, ↓zC_V, ↓zC_I, ↓zC_J, zUp_at, zUp_ne, q_up_at, q_up_ne, w32_of, w64_of, q_le_T, q_le_F, q_lt_T, q_lt_F, q_eq_T, q_eq_F, true_or, or_true, or_false, false_or, false_and, and_false]
      · simp (disch := omega) only [Int.add_zero, Int.mul_zero, Int.reduceMul, Int.reduceAdd, Int.mul_one, Int.tdiv_eq_ediv_of_nonneg, Int.tmod_eq_emod_of_nonneg, ↓reduceIte, ↓zLet_eq, ↓zRd_ok, ↓zWr_ok, ↓zC_V, ↓zC_I, ↓zC_J, zUp_at, zUp_ne, q_up_at, q_up_ne, w32_of, w64_of, q_le_T, q_le_F, q_lt_T, q_lt_F, q_eq_T, q_eq_F, true_or, or_true, or_false, false_or, false_and, and_false]
    · unfold F_Model_act J_Model_act_38
      simp (disch := omega) only [Int.add_zero, Int.mul_zero, Int.reduceMul, Int.reduceAdd, Int.mul_one, Int.tdiv_eq_ediv_of_nonneg, Int.tmod_eq_emod_of_nonneg, ↓reduceIte, ↓zLet_eq, ↓zRd_ok, ↓zWr_ok, ↓zC_V, ↓zC_I, ↓zC_J, zUp_at, zUp_ne, q_up_at, q_up_ne, w32_of, w64_of, q_le_T, q_le_F, q_lt_T, q_lt_F, q_eq_T, q_eq_F, true_or, or_true, or_false, false_or, false_and, and_false, z_isInN]
theorem q_ob_in (s : Int → Int) : ∀ n : Nat, n ≤ 6 → 0 ≤ q_ob s n ∧ q_ob s n < 64
  | 0, _ => by rw [q_ob]; omega
  | n + 1, h => by
    have i := q_ob_in s n (by omega)
    rw [q_ob]
    split
    · exact (bit_or i.1 i.2 (by omega) (by omega)).1
    · exact i
theorem bit_zero {f : Int} (h0 : 0 ≤ f) (h1 : f < 64) : zor f 0 = f := by
  obtain ⟨a, rfl⟩ := Int.eq_ofNat_of_zero_le h0
  have : ∀ f : Nat, f < 64 → zor (f : Int) 0 = (f : Int) := by decide +kernel
  exact this a (by omega)
theorem m_gainOf (d0 : 0 ≤ d) (d1 : d < 6) : F_Model_gainOf d μ = some (.inr (some (zJ (μ 5 (30 + 4 * d + 1) - μ 5 (30 + 4 * d)))), μ) := by
  unfold F_Model_gainOf
  simp (disch := omega) only [Int.add_zero, Int.mul_zero, Int.reduceMul, Int.reduceAdd, Int.mul_one, Int.tdiv_eq_ediv_of_nonneg, Int.tmod_eq_emod_of_nonneg, ↓reduceIte, ↓zLet_eq, ↓zRd_ok, ↓zWr_ok, ↓zC_V, ↓zC_I, ↓zC_J, zUp_at, zUp_ne, q_up_at, q_up_ne, w32_of, w64_of, q_le_T, q_le_F, q_lt_T, q_lt_F, q_eq_T, q_eq_F, true_or, or_true, or_false, false_or, false_and, and_false, m_dealAt]
theorem m_deals (hx : 0 ≤ x ∧ x ≤ 2) (h6 : μ 0 6 = dl) (hdl : dl ≤ 6) (hi : q_inv m dl B (μ 5)) (hB0 : 0 ≤ B) (hB1 : B ≤ 900) (K : Int → Int → ZMem → Option ZRes) : ∃ v, L_Model_deals_37 x K zN (-1) 0 0 μ = K v (q_ob (μ 5) dl) μ ∧ (x = 0 → v = q_xd (μ 5) 1 dl) ∧ (x = 1 → v = q_xd (μ 5) (-1) dl) := by
  have gb : ∀ d : Int, 0 ≤ d → d < 6 → -100000000 ≤ μ 5 (30 + 4 * d + 1) - μ 5 (30 + 4 * d) ∧ μ 5 (30 + 4 * d + 1) - μ 5 (30 + 4 * d) ≤ 100000000 := fun d d0 d1 => by
    have hD := hi.2.1 d.toNat (by omega)
    rw [Int.toNat_of_nonneg d0] at hD
    omega
  obtain ⟨⟨v, w, u⟩, e, j, hu, hj, hw, hv, h0, h1⟩ := q_loop (L := fun n (b : Int × Int × Int) => L_Model_deals_37 x K n b.1 b.2.1 b.2.2 μ) (P := fun i b => ∃ j : Nat, b.2.2 = j ∧ j + i = dl ∧ b.2.1 = q_ob (μ 5) j ∧ (-1 ≤ b.1 ∧ b.1 < j) ∧ (x = 0 → b.1 = q_xd (μ 5) 1 j) ∧ (x = 1 → b.1 = q_xd (μ 5) (-1) j)) (fun n i b hb => by
      obtain ⟨v, w, u⟩ := b
      obtain ⟨j, rfl, hj, rfl, hv, h0, h1⟩ := hb
      simp only [] at hv h0 h1 ⊢
      have hD := hi.2.1 j (by omega)
      have ob := q_ob_in (μ 5) j (by omega)
      have eB : ∃ y0, (if μ 5 (30 + 4 * j + 3) = 0 then zshl 1 j else 0) = y0 ∧ zor (q_ob (μ 5) j) y0 = q_ob (μ 5) (j + 1) := by
        refine ⟨_, rfl, ?_⟩
        rw [q_ob]
        split
        · rfl
        · exact bit_zero ob.1 ob.2
      obtain ⟨y0, ey, eo⟩ := eB
      have s1 : L_Model_deals_37 x K (n + 1) v (q_ob (μ 5) j) j μ = J_Model_deals_71 (fun v2 v3 v4 μ => L_Model_deals_37 x K n v2 v3 v4 μ) K x v j y0 (q_ob (μ 5) j) μ := by
        rw [L_Model_deals_37]
        by_cases hz : μ 5 (30 + 4 * j + 3) = 0
        · rw [if_pos hz] at ey
          simp (disch := omega) only [Int.add_zero, Int.mul_zero, Int.reduceMul, Int.reduceAdd, Int.mul_one, Int.tdiv_eq_ediv_of_nonneg, Int.tmod_eq_emod_of_nonneg, ↓reduceIte, ↓zLet_eq, ↓zRd_ok, ↓zWr_ok, ↓zC_V, ↓zC_I, ↓zC_J, zUp_at, zUp_ne, q_up_at, q_up_ne, w32_of, w64_of, q_le_T, q_le_F, q_lt_T, q_lt_F, q_eq_T, q_eq_F, true_or, or_true, or_false, false_or, false_and, and_false, m_dealAt, ey]
        · rw [if_neg hz] at ey
          simp (disch := omega) only [Int.add_zero, Int.mul_zero, Int.reduceMul, Int.reduceAdd, Int.mul_one, Int.tdiv_eq_ediv_of_nonneg, Int.tmod_eq_emod_of_nonneg, ↓reduceIte, ↓zLet_eq, ↓zRd_ok, ↓zWr_ok, ↓zC_V, ↓zC_I, ↓zC_J, zUp_at, zUp_ne, q_up_at, q_up_ne, w32_of, w64_of, q_le_T, q_le_F, q_lt_T, q_lt_F, q_eq_T, q_eq_F, true_or, or_true, or_false, false_or, false_and, and_false, m_dealAt, ey]
      have gj := gb j (by omega) (by omega)
      have eg := m_gainOf (μ := μ) (d := j) (by omega) (by omega)
      have x0 : q_xd (μ 5) 1 (j + 1) = if q_xd (μ 5) 1 j = -1 ∨ 1 * (μ 5 (30 + 4 * q_xd (μ 5) 1 j + 1) - μ 5 (30 + 4 * q_xd (μ 5) 1 j)) < 1 * (μ 5 (30 + 4 * j + 1) - μ 5 (30 + 4 * j)) then (j : Int) else q_xd (μ 5) 1 j := rfl
      have x1 : q_xd (μ 5) (-1) (j + 1) = if q_xd (μ 5) (-1) j = -1 ∨ -1 * (μ 5 (30 + 4 * q_xd (μ 5) (-1) j + 1) - μ 5 (30 + 4 * q_xd (μ 5) (-1) j)) < -1 * (μ 5 (30 + 4 * j + 1) - μ 5 (30 + 4 * j)) then (j : Int) else q_xd (μ 5) (-1) j := rfl
      by_cases hv1 : v = -1
      · refine ⟨(j, q_ob (μ 5) (j + 1), (j : Int) + 1), ?_, j + 1, by simp only []; omega, by omega, rfl, by simp only []; omega, fun hx0 => ?_, fun hx1 => ?_⟩
        · rw [s1]
          unfold J_Model_deals_71 J_Model_deals_117 J_Model_deals_120
          simp (disch := omega) only [Int.add_zero, Int.mul_zero, Int.reduceMul, Int.reduceAdd, Int.mul_one, Int.tdiv_eq_ediv_of_nonneg, Int.tmod_eq_emod_of_nonneg, ↓reduceIte, ↓zLet_eq, ↓zRd_ok, ↓zWr_ok, ↓zC_V, ↓zC_I, ↓zC_J, zUp_at, zUp_ne, q_up_at, q_up_ne, w32_of, w64_of, q_le_T, q_le_F, q_lt_T, q_lt_F, q_eq_T, q_eq_F, true_or, or_true, or_false, false_or, false_and, and_false, eo, hv1]
        · have := h0 hx0
          rw [x0, if_pos (Or.inl (by omega))]
        · have := h1 hx1
          rw [x1, if_pos (Or.inl (by omega))]
      · have gv := gb v (by omega) (by omega)
        have egv := m_gainOf (μ := μ) (d := v) (by omega) (by omega)
        by_cases hx0 : x = 0
        · subst hx0
          have e0 := h0 rfl
          rw [← e0] at x0
          by_cases hl : μ 5 (30 + 4 * v + 1) - μ 5 (30 + 4 * v) < μ 5 (30 + 4 * j + 1) - μ 5 (30 + 4 * j)
          · refine ⟨(j, q_ob (μ 5) (j + 1), (j : Int) + 1), ?_, j + 1, by simp only []; omega, by omega, rfl, by simp only []; omega, fun _ => ?_, fun h => by omega⟩
            · rw [s1]
              unfold J_Model_deals_71 J_Model_deals_117 J_Model_deals_120
              simp (disch := omega) only [Int.add_zero, Int.mul_zero, Int.reduceMul, Int.reduceAdd, Int.mul_one, Int.tdiv_eq_ediv_of_nonneg, Int.tmod_eq_emod_of_nonneg, ↓reduceIte, ↓zLet_eq, ↓zRd_ok, ↓zWr_ok, ↓zC_V, ↓zC_I, ↓zC_J, zUp_at, zUp_ne, q_up_at, q_up_ne, w32_of, w64_of, q_le_T, q_le_F, q_lt_T, q_lt_F, q_eq_T, q_eq_F, true_or, or_true, or_false, false_or, false_and, and_false, eo, eg, egv]
            · rw [x0, if_pos (Or.inr (by omega))]
          · refine ⟨(v, q_ob (μ 5) (j + 1), (j : Int) + 1), ?_, j + 1, by simp only []; omega, by omega, rfl, by simp only []; omega, fun _ => ?_, fun h => by omega⟩
            · rw [s1]
              unfold J_Model_deals_71 J_Model_deals_97 J_Model_deals_120
              simp (disch := omega) only [Int.add_zero, Int.mul_zero, Int.reduceMul, Int.reduceAdd, Int.mul_one, Int.tdiv_eq_ediv_of_nonneg, Int.tmod_eq_emod_of_nonneg, ↓reduceIte, ↓zLet_eq, ↓zRd_ok, ↓zWr_ok, ↓zC_V, ↓zC_I, ↓zC_J, zUp_at, zUp_ne, q_up_at, q_up_ne, w32_of, w64_of, q_le_T, q_le_F, q_lt_T, q_lt_F, q_eq_T, q_eq_F, true_or, or_true, or_false, false_or, false_and, and_false, eo, eg, egv]
            · rw [x0, if_neg (by omega)]
        · by_cases hx1 : x = 1
          · subst hx1
            have e1 := h1 rfl
            rw [← e1] at x1
            by_cases hl : μ 5 (30 + 4 * v + 1) - μ 5 (30 + 4 * v) ≤ μ 5 (30 + 4 * j + 1) - μ 5 (30 + 4 * j)
            · refine ⟨(v, q_ob (μ 5) (j + 1), (j : Int) + 1), ?_, j + 1, by simp only []; omega, by omega, rfl, by simp only []; omega, fun h => by omega, fun _ => ?_⟩
              · rw [s1]
                unfold J_Model_deals_71 J_Model_deals_97 J_Model_deals_120
                simp (disch := omega) only [Int.add_zero, Int.mul_zero, Int.reduceMul, Int.reduceAdd, Int.mul_one, Int.tdiv_eq_ediv_of_nonneg, Int.tmod_eq_emod_of_nonneg, ↓reduceIte, ↓zLet_eq, ↓zRd_ok, ↓zWr_ok, ↓zC_V, ↓zC_I, ↓zC_J, zUp_at, zUp_ne, q_up_at, q_up_ne, w32_of, w64_of, q_le_T, q_le_F, q_lt_T, q_lt_F, q_eq_T, q_eq_F, true_or, or_true, or_false, false_or, false_and, and_false, eo, eg, egv]
              · rw [x1, if_neg (by omega)]
            · refine ⟨(j, q_ob (μ 5) (j + 1), (j : Int) + 1), ?_, j + 1, by simp only []; omega, by omega, rfl, by simp only []; omega, fun h => by omega, fun _ => ?_⟩
              · rw [s1]
                unfold J_Model_deals_71 J_Model_deals_97 J_Model_deals_117 J_Model_deals_120
                simp (disch := omega) only [Int.add_zero, Int.mul_zero, Int.reduceMul, Int.reduceAdd, Int.mul_one, Int.tdiv_eq_ediv_of_nonneg, Int.tmod_eq_emod_of_nonneg, ↓reduceIte, ↓zLet_eq, ↓zRd_ok, ↓zWr_ok, ↓zC_V, ↓zC_I, ↓zC_J, zUp_at, zUp_ne, q_up_at, q_up_ne, w32_of, w64_of, q_le_T, q_le_F, q_lt_T, q_lt_F, q_eq_T, q_eq_F, true_or, or_true, or_false, false_or, false_and, and_false, eo, eg, egv]
              · rw [x1, if_pos (Or.inr (by omega))]
          · obtain rfl : x = 2 := by omega
            refine ⟨(v, q_ob (μ 5) (j + 1), (j : Int) + 1), ?_, j + 1, by simp only []; omega, by omega, rfl, by simp only []; omega, fun h => by omega, fun h => by omega⟩
            rw [s1]
            unfold J_Model_deals_71 J_Model_deals_97 J_Model_deals_120
            simp (disch := omega) only [Int.add_zero, Int.mul_zero, Int.reduceMul, Int.reduceAdd, Int.mul_one, Int.tdiv_eq_ediv_of_nonneg, Int.tmod_eq_emod_of_nonneg, ↓reduceIte, ↓zLet_eq, ↓zRd_ok, ↓zWr_ok, ↓zC_V, ↓zC_I, ↓zC_J, zUp_at, zUp_ne, q_up_at, q_up_ne, w32_of, w64_of, q_le_T, q_le_F, q_lt_T, q_lt_F, q_eq_T, q_eq_F, true_or, or_true, or_false, false_or, false_and, and_false, eo]) dl zN (-1, 0, 0) ⟨0, rfl, by omega, rfl, by simp only []; omega, fun _ => rfl, fun _ => rfl⟩ (Nat.le_of_lt (zN_gt (by omega)))
  simp only [] at e hu hw hv h0 h1
  obtain rfl : j = dl := by omega
  refine ⟨v, ?_, h0, h1⟩
  rw [e, hu, hw]
  obtain ⟨n, hn⟩ : ∃ n, zN - j = n + 1 := ⟨zN - j - 1, by have := zN_gt (m := j) (by omega); omega⟩
  rw [hn, L_Model_deals_37, h6, if_pos (Int.le_refl _)]
theorem face_deals (h : z_rest m dl a κ μ) (hx : q_i32 x) : z_face [(eNSE, 1)] m dl a κ μ (F_Ledger_deals x κ) (F_Model_deals x μ) := by
  obtain ⟨hf, h6, hdl, ht, ⟨m5, m6, m11, ha⟩, ⟨k3, k4, k11⟩, hi, hq, hs⟩ := h.all
  obtain ⟨M, C⟩ := h
  have hb : b_bk dl (μ 2) (μ 5) (zVw plNB κ) := hs.1.1
  obtain ⟨x1, x2⟩ := hx
  have e5 : zUp μ 0 0 0 5 = μ 5 := zUp_ne (by decide)
  by_cases gx : 0 ≤ x ∧ x ≤ 2
  · obtain ⟨v, ev, v0, v1⟩ := m_deals (μ := zUp μ 0 0 0) (x := x) (m := m) (dl := dl) (B := 6 * a + 2 * μ 5 90) gx (by rw [zUp_at, q_up_ne (by decide)]; exact m6) hdl (by rw [e5]; exact hi) (by omega) (by omega) (fun k18 k19 μ17 => if w32 x = w32 2 then (some (.inr (some (zI k19)), μ17)) else (some (.inr (some (zI k18)), μ17)))
    rw [e5] at ev v0 v1
    have eM : F_Model_deals x μ = if w32 x = w32 2 then (some (.inr (some (zI (q_ob (μ 5) dl))), zUp μ 0 0 0)) else (some (.inr (some (zI v)), zUp μ 0 0 0)) := by
      unfold F_Model_deals J_Model_deals_18
      rw [w32_of x1 x2, z_isInY gx.1 gx.2 (by decide) (by decide), zC_I, w32_of (by decide) (by decide), if_neg (by decide), zLet_eq, zUp_at, q_up_at, w32_of (by decide) (by decide), if_pos (by decide)]
      rw [w32_of x1 x2] at ev
      exact ev
    by_cases w0 : x = 0
    · subst w0
      have e := b_extremeDeal (g := 1) hb hi hdl (by omega) (by omega) (Or.inl rfl)
      refine z_face.ok0 (v := zI (q_xd (μ 5) 1 dl)) M ?_ ?_ (c_fr.rf κ)
      · unfold F_Ledger_deals
        simp (disch := omega) only [Int.add_zero, Int.mul_zero, Int.reduceMul, Int.reduceAdd, Int.mul_one, Int.tdiv_eq_ediv_of_nonneg, Int.tmod_eq_emod_of_nonneg, ↓reduceIte, ↓zLet_eq, ↓zRd_ok, ↓zWr_ok, ↓zC_V, ↓zC_I, ↓zC_J, zUp_at, zUp_ne, q_up_at, q_up_ne, w32_of, w64_of, q_le_T, q_le_F, q_lt_T, q_lt_F, q_eq_T, q_eq_F, true_or, or_true, or_false, false_or, false_and, and_false, e, ↓zCm_I, zMg_vw]
      · rw [eM, v0 rfl, if_neg (by rw [w32_of (by decide) (by decide), w32_of (by decide) (by decide)]; decide)]
    by_cases w1 : x = 1
    · subst w1
      have e := b_extremeDeal (g := -1) hb hi hdl (by omega) (by omega) (Or.inr rfl)
      refine z_face.ok0 (v := zI (q_xd (μ 5) (-1) dl)) M ?_ ?_ (c_fr.rf κ)
      · unfold F_Ledger_deals
        simp (disch := omega) only [Int.add_zero, Int.mul_zero, Int.reduceMul, Int.reduceAdd, Int.mul_one, Int.tdiv_eq_ediv_of_nonneg, Int.tmod_eq_emod_of_nonneg, ↓reduceIte, ↓zLet_eq, ↓zRd_ok, ↓zWr_ok, ↓zC_V, ↓zC_I, ↓zC_J, zUp_at, zUp_ne, q_up_at, q_up_ne, w32_of, w64_of, q_le_T, q_le_F, q_lt_T, q_lt_F, q_eq_T, q_eq_F, true_or, or_true, or_false, false_or, false_and, and_false, e, ↓zCm_I, zMg_vw]
      · rw [eM, v1 rfl, if_neg (by rw [w32_of (by decide) (by decide), w32_of (by decide) (by decide)]; decide)]
    obtain rfl : x = 2 := by omega
    have e := b_openDeals hb hi hdl
    refine z_face.ok0 (v := zI (q_ob (μ 5) dl)) M ?_ ?_ (c_fr.rf κ)
    · unfold F_Ledger_deals
      simp (disch := omega) only [Int.add_zero, Int.mul_zero, Int.reduceMul, Int.reduceAdd, Int.mul_one, Int.tdiv_eq_ediv_of_nonneg, Int.tmod_eq_emod_of_nonneg, ↓reduceIte, ↓zLet_eq, ↓zRd_ok, ↓zWr_ok, ↓zC_V, ↓zC_I, ↓zC_J, zUp_at, zUp_ne, q_up_at, q_up_ne, w32_of, w64_of, q_le_T, q_le_F, q_lt_T, q_lt_F, q_eq_T, q_eq_F, true_or, or_true, or_false, false_or, false_and, and_false, e, ↓zCm_I, zMg_vw]
    · rw [eM, if_pos rfl]
  · refine z_face.th (v := zI 0) (E := eNSE) (n := 1) M ?_ ?_ (by decide) (by decide +kernel)
    · unfold F_Ledger_deals
      simp (disch := omega) only [Int.add_zero, Int.mul_zero, Int.reduceMul, Int.reduceAdd, Int.mul_one, Int.tdiv_eq_ediv_of_nonneg, Int.tmod_eq_emod_of_nonneg, ↓reduceIte, ↓zLet_eq, ↓zRd_ok, ↓zWr_ok, ↓zC_V, ↓zC_I, ↓zC_J, zUp_at, zUp_ne, q_up_at, q_up_ne, w32_of, w64_of, q_le_T, q_le_F, q_lt_T, q_lt_F, q_eq_T, q_eq_F, true_or, or_true, or_false, false_or, false_and, and_false]
    · unfold F_Model_deals J_Model_deals_18
      simp (disch := omega) only [Int.add_zero, Int.mul_zero, Int.reduceMul, Int.reduceAdd, Int.mul_one, Int.tdiv_eq_ediv_of_nonneg, Int.tmod_eq_emod_of_nonneg, ↓reduceIte, ↓zLet_eq, ↓zRd_ok, ↓zWr_ok, ↓zC_V, ↓zC_I, ↓zC_J, zUp_at, zUp_ne, q_up_at, q_up_ne, w32_of, w64_of, q_le_T, q_le_F, q_lt_T, q_lt_F, q_eq_T, q_eq_F, true_or, or_true, or_false, false_or, false_and, and_false, z_isInN]
theorem r_allOf3 (h : r_rg m ex s ν) (hi : q_iI m B s) (h6 : m ≤ 6) (hB0 : 0 ≤ B) (hB1 : B ≤ 900) : F_Register_allOf_3 ν = some (.inr (some (zJ (q_sm (fun i => s (5 * i + 2)) m))), ν) := by
  have e08 := h.2.2.1
  unfold F_Register_allOf_3
  refine q_acc (L := fun n a j => L_Register_allOf_3_5 ν _ n a j) (f := fun i => s (5 * i + 2)) (K := fun k => some (.inr (some (zJ k)), ν)) (fun n a j hj => ?_) (fun n a => ?_) (zN_gt (by omega))
  · have e2 := (h.1 j (by omega) (by omega)).2.2
    have hq := hi j hj
    simp (disch := omega) only [L_Register_allOf_3_5, Int.add_zero, Int.mul_zero, Int.reduceMul, Int.reduceAdd, Int.mul_one, Int.tdiv_eq_ediv_of_nonneg, Int.tmod_eq_emod_of_nonneg, ↓reduceIte, ↓zLet_eq, ↓zRd_ok, ↓zWr_ok, ↓zC_V, ↓zC_I, ↓zC_J, zUp_at, zUp_ne, q_up_at, q_up_ne, w32_of, w64_of, q_le_T, q_le_F, q_lt_T, q_lt_F, q_eq_T, q_eq_F, true_or, or_true, or_false, false_or, false_and, and_false, e2]
  · simp (disch := omega) only [L_Register_allOf_3_5, Int.add_zero, Int.mul_zero, Int.reduceMul, Int.reduceAdd, Int.mul_one, Int.tdiv_eq_ediv_of_nonneg, Int.tmod_eq_emod_of_nonneg, ↓reduceIte, ↓zLet_eq, ↓zRd_ok, ↓zWr_ok, ↓zC_V, ↓zC_I, ↓zC_J, zUp_at, zUp_ne, q_up_at, q_up_ne, w32_of, w64_of, q_le_T, q_le_F, q_lt_T, q_lt_F, q_eq_T, q_eq_F, true_or, or_true, or_false, false_or, false_and, and_false]
theorem q_sm_single {h : Int → Int} {x : Int} : ∀ {n : Nat}, 0 ≤ x → x < n → q_sm (fun i => if i = x then h i else 0) n = h x
  | 0, h0, h1 => by omega
  | n + 1, h0, h1 => by
    show q_sm (fun i => if i = x then h i else 0) n + (if (n : Int) = x then h n else 0) = h x
    by_cases e : (n : Int) = x
    · rw [if_pos e, q_sm_zero (fun i hi => if_neg (by omega)), e]
      omega
    · rw [if_neg e, q_sm_single h0 (by omega)]
      omega
end FL
