/-! ===== face: soldOut ===== -/
abbrev plO : List Nat := [103, 104, 105, 106, 107, 108]
abbrev plON : List Nat := [103, 104, 105, 106, 107, 108, 14, 15, 16, 17, 18, 19]
section FK
variable {m dl a : Nat} {B d sum : Int} {κ μ : ZMem} {x y z : Int}
theorem z_ev91 (hi : q_inv m dl B (μ 5)) : μ 5 91 = 0 ∨ μ 5 91 = 1 := by
  have := hi.2.2.2.1.2.2.2.2.2
  omega
theorem face_soldOut (h : z_rest m dl a κ μ) (hx : q_i32 x) : z_face [(eNSE, 1)] m dl a κ μ (F_Ledger_soldOut x κ) (F_Model_soldOut x μ) := by
  obtain ⟨hf, h6, hdl, ht, ⟨m5, m6, m11, ha⟩, ⟨k3, k4, k11⟩, hi, hq, hs⟩ := h.all
  obtain ⟨M, C⟩ := h
  have hb : b_bk dl (μ 2) (μ 5) (zVw plNB κ) := hs.1.1
  have hr : r_rg m (μ 4) (μ 5) (zVw plNR κ) := hs.1.2
  have hten : κ 20 10 = q_sm (fun i => μ 5 (5 * i + 3)) m := hr.2.2.2.2.2
  obtain ⟨x1, x2⟩ := hx
  by_cases gx : 0 ≤ x ∧ x ≤ 2
  · -- the class
    obtain ⟨ν1, r1, b1, f1⟩ := b_copyFrom (μ := zVw plON κ) (hb.cong rfl rfl rfl rfl rfl) (z_ev91 hi)
    have o1 : ∀ c, c < 103 ∨ 109 ≤ c → zMg plON κ ν1 c = κ c := fun c hc => by
      funext i
      unfold zMg
      cases hx : zIx plON 0 c with
      | none => rfl
      | some j =>
        have e := zIx_rho hx
        have hj : 6 ≤ j := by
          rcases Nat.lt_or_ge j 6 with h1 | h1
          · exfalso
            have : ∀ j : Nat, j < 6 → 103 ≤ zRho plON j ∧ zRho plON j < 109 := by decide
            have := this j h1
            omega
          · exact h1
        show ν1 j i = κ c i
        rw [f1 j hj]
        show κ (zRho plON j) i = κ c i
        rw [e]
    have b1' : b_bk dl (μ 2) (μ 5) (zVw plO (zMg plON κ ν1)) := by
      refine b1.cong ?_ ?_ ?_ ?_ ?_
      · exact zMg_in (pl := plON) (c := 103) (by decide)
      · exact zMg_in (pl := plON) (c := 104) (by decide)
      · exact zMg_in (pl := plON) (c := 105) (by decide)
      · exact zMg_in (pl := plON) (c := 106) (by decide)
      · exact zMg_in (pl := plON) (c := 107) (by decide)
    obtain ⟨ν2, r2, b2⟩ := b_sellAll b1' hi h6 hdl (by omega) (by omega) ht
    have o2 : ∀ c, c < 103 ∨ 109 ≤ c → zMg plO (zMg plON κ ν1) ν2 c = κ c := fun c hc => by
      rw [zMg_out (by simp only [List.mem_cons, List.not_mem_nil, or_false]; omega)]
      exact o1 c hc
    have b2' : b_bk dl (μ 2) (q_sob (μ 2) dl (μ 5)) (zVw plO (zMg plO (zMg plON κ ν1) ν2)) := by
      refine b2.cong ?_ ?_ ?_ ?_ ?_
      · exact zMg_in (pl := plO) (c := 103) (by decide)
      · exact zMg_in (pl := plO) (c := 104) (by decide)
      · exact zMg_in (pl := plO) (c := 105) (by decide)
      · exact zMg_in (pl := plO) (c := 106) (by decide)
      · exact zMg_in (pl := plO) (c := 107) (by decide)
    have i2 := q_sob_ok hi h6 hdl ht (by omega) (by omega) dl (Nat.le_refl _)
    have cd := b_clawDue b2' i2 (by omega) (by omega) ht
    have e107 : zMg plO (zMg plON κ ν1) ν2 107 0 = q_sob (μ 2) dl (μ 5) 86 := b2'.2.2.2.2.1 0 (by decide) (by decide)
    have e20 : zMg plO (zMg plON κ ν1) ν2 20 10 = q_sm (fun i => μ 5 (5 * i + 3)) m := by rw [o2 20 (by decide)]; exact hten
    generalize hκ : zMg plO (zMg plON κ ν1) ν2 = κ2 at *
    have hcf : c_fr κ κ2 := c_fr.of (fun c hc => o2 c (by omega))
    -- the reference
    obtain ⟨μ4, r4, f4, g11, g12⟩ := m_putsAside (zUp μ 0 0 0)
    have n2 : μ4 2 = μ 2 := by rw [f4 2 (by decide) (by decide) (by decide), zUp_ne (by decide)]
    have n4 : μ4 4 = μ 4 := by rw [f4 4 (by decide) (by decide) (by decide), zUp_ne (by decide)]
    have n5 : μ4 5 = μ 5 := by rw [f4 5 (by decide) (by decide) (by decide), zUp_ne (by decide)]
    have n6 : μ4 6 = μ 6 := by rw [f4 6 (by decide) (by decide) (by decide), zUp_ne (by decide)]
    have n7 : μ4 7 = μ 7 := by rw [f4 7 (by decide) (by decide) (by decide), zUp_ne (by decide)]
    have n0 : ∀ k, k ≠ 0 → μ4 0 k = μ 0 k := fun k hk => by rw [f4 0 (by decide) (by decide) (by decide), zUp_at, q_up_ne hk]
    have n00 : μ4 0 0 = 0 := by rw [f4 0 (by decide) (by decide) (by decide), zUp_at, q_up_at]
    have zr : q_z 92 (μ 5) ∧ q_z 1206 (μ 6) ∧ q_z 1206 (μ 7) ∧ μ 0 14 = 60 := M.1.2.2.2
    obtain ⟨μ5, r5, kp, a14, hσ, h9⟩ := m_sellsOut (μ := μ4) (B := 6 * a + 2 * μ 5 90) (q_run m (μ 2) (μ 4) (μ 3) (μ 8) a).2.2.2 ((n0 5 (by decide)).trans m5) h6 ((n0 6 (by decide)).trans m6) hdl (by rw [n5]; exact hi) (by rw [n5, n6, n7]; exact ⟨zr.2.1, zr.2.2.1⟩) (by omega) (by omega) (by rw [n2]; exact ht) ((n0 14 (by decide)).trans zr.2.2.2)
    rw [n2, n4, n5, n6, n7] at hσ
    obtain ⟨hσ0, p5, p6, p7⟩ := q_pair hσ
    have hok := q_so_ok (ex := μ 4) (σ := (μ 5, μ 6, μ 7, (q_run m (μ 2) (μ 4) (μ 3) (μ 8) a).2.2.2)) hi ⟨zr.2.1, zr.2.2.1⟩ h6 hdl ht (by omega) (by omega) dl (Nat.le_refl _)
    have hhi := q_so_hi (tm := μ 2) (ex := μ 4) (σ := (μ 5, μ 6, μ 7, (q_run m (μ 2) (μ 4) (μ 3) (μ 8) a).2.2.2)) h6 hdl (fun d hd => q_wg_pos hf hi.1 (Nat.pos_of_ne_zero (fun h0 => by have := hf.2.2.2.2.1 h0; omega)) (Or.inr ⟨by omega, by omega⟩)) dl (Nat.le_refl _)
    rw [← p5] at hok hhi
    obtain ⟨hh1, hh2, -⟩ := hhi
    have zz : q_z 1206 (μ5 6) ∧ q_z 1206 (μ5 7) := by rw [p6, p7]; exact hok.2
    obtain ⟨-, kp2, -, -, -, kp05, -⟩ := kp.at
    have eg := m_gotAll (μ := μ5) (m := m) (kp05.trans ((n0 5 (by decide)).trans m5)) h6
    rw [hh2] at eg
    have ecw := m_claw0 (μ := μ5) (m := m) (dl := dl) (B := 6 * a + 2 * μ 5 90 + 6 * dl) hok.1 (by omega) (by omega) (by rw [kp2, n2]; exact ht)
    rw [kp2, n2, q_cw_hi hh1] at ecw
    have q11 : ∀ k, 0 ≤ k → k < 92 → μ5 11 k = μ 5 k := fun k k0 k1 => by rw [kp.1 11 (by decide) (by decide) (by decide) (by decide) (by decide) (by decide) (by decide) (by decide) (by decide) (by decide), g11 k k0 k1, zUp_ne (by decide)]
    have q12 : ∀ k, 0 ≤ k → k < 1206 → μ5 12 k = μ 6 k ∧ μ5 13 k = μ 7 k := fun k k0 k1 => by
      rw [kp.1 12 (by decide) (by decide) (by decide) (by decide) (by decide) (by decide) (by decide) (by decide) (by decide) (by decide), kp.1 13 (by decide) (by decide) (by decide) (by decide) (by decide) (by decide) (by decide) (by decide) (by decide) (by decide), (g12 k k0 k1).1, (g12 k k0 k1).2, zUp_ne (by decide), zUp_ne (by decide)]
      exact ⟨rfl, rfl⟩
    obtain ⟨μ6, r6, f6, h5, h6', h7⟩ := m_comesBack (μ := μ5) (s := μ 5) (p := μ 6) (g := μ 7) q11 q12 (fun k hk => hok.1.2.2.2.2 k hk) zz.1 zz.2 zr.1 zr.2.1 zr.2.2.1
    have e60 : ∀ k, k ≠ 14 → k ≠ 35 → k ≠ 36 → μ6 0 k = μ4 0 k := fun k c a b => by rw [f6 0 (by decide) (by decide) (by decide), kp.2 k c a b]
    have ec : ∀ c, 1 ≤ c → (c ≤ 8 ∨ c = 14 ∨ c = 15) → μ6 c = μ c := fun c c0 c1 => by
      by_cases h5c : c = 5
      · rw [h5c]; exact h5
      · by_cases h6c : c = 6
        · rw [h6c]; exact h6'
        · by_cases h7c : c = 7
          · rw [h7c]; exact h7
          · rw [f6 c h5c h6c h7c, kp.1 c (by omega) h5c h6c h7c (by omega) (by omega) (by omega) (by omega) (by omega) (by omega), f4 c (by omega) (by omega) (by omega), zUp_ne (by omega)]
    have hat : m_at m dl a μ6 := M.cong9 ha (fun c c0 c1 => ec c (by omega) (Or.inl c1)) (fun k hk => by
        rw [f6 9 (by decide) (by decide) (by decide), f6 10 (by decide) (by decide) (by decide), (h9 k hk).1, (h9 k hk).2, f4 9 (by decide) (by decide) (by decide), f4 10 (by decide) (by decide) (by decide), zUp_ne (by decide), zUp_ne (by decide)]
        exact ⟨rfl, rfl⟩) (fun k hk => by
        by_cases hk14 : k = 14
        · rw [hk14, f6 0 (by decide) (by decide) (by decide), a14]; exact zr.2.2.2.symm
        · rw [e60 k hk14 (by omega) (by omega), n0 k (by omega)])
    have hfr : m_fr μ μ6 := ⟨fun c hc => ec c (by omega) (by omega), fun k hk => by rw [e60 k (by omega) (by omega) (by omega), n0 k (by omega)]⟩
    have h00 : μ6 0 0 = 0 := by rw [e60 0 (by decide) (by decide) (by decide)]; exact n00
    have e86 : μ5 5 86 = q_sob (μ 2) dl (μ 5) 86 := hh1 86 (by decide)
    by_cases w0 : x = 0
    · subst w0
      refine z_face.ok (v := zJ (q_sob (μ 2) dl (μ 5) 86)) (κ' := κ2) (μ' := μ6) ?_ ?_ hcf hfr hat h00
      · unfold F_Ledger_soldOut
        simp (disch := omega) only [Int.add_zero, Int.mul_zero, Int.reduceMul, Int.reduceAdd, Int.mul_one, Int.tdiv_eq_ediv_of_nonneg, Int.tmod_eq_emod_of_nonneg, ↓reduceIte, ↓zLet_eq, ↓zRd_ok, ↓zWr_ok, ↓zC_V, ↓zC_I, ↓zC_J, zUp_at, zUp_ne, q_up_at, q_up_ne, w32_of, w64_of, q_le_T, q_le_F, q_lt_T, q_lt_F, q_eq_T, q_eq_F, true_or, or_true, or_false, false_or, false_and, and_false, r1, r2, ↓zCm_V, ↓zCm_J, hκ, e107]
      · unfold F_Model_soldOut J_Model_soldOut_18 J_Model_soldOut_96
        simp (disch := omega) only [Int.add_zero, Int.mul_zero, Int.reduceMul, Int.reduceAdd, Int.mul_one, Int.tdiv_eq_ediv_of_nonneg, Int.tmod_eq_emod_of_nonneg, ↓reduceIte, ↓zLet_eq, ↓zRd_ok, ↓zWr_ok, ↓zC_V, ↓zC_I, ↓zC_J, zUp_at, zUp_ne, q_up_at, q_up_ne, w32_of, w64_of, q_le_T, q_le_F, q_lt_T, q_lt_F, q_eq_T, q_eq_F, true_or, or_true, or_false, false_or, false_and, and_false, z_isInY, r4, r5, eg, e86, r6]
    by_cases w1 : x = 1
    · subst w1
      refine z_face.ok (v := zJ (q_cw (μ 2) (q_sob (μ 2) dl (μ 5)))) (κ' := κ2) (μ' := μ6) ?_ ?_ hcf hfr hat h00
      · unfold F_Ledger_soldOut
        simp (disch := omega) only [Int.add_zero, Int.mul_zero, Int.reduceMul, Int.reduceAdd, Int.mul_one, Int.tdiv_eq_ediv_of_nonneg, Int.tmod_eq_emod_of_nonneg, ↓reduceIte, ↓zLet_eq, ↓zRd_ok, ↓zWr_ok, ↓zC_V, ↓zC_I, ↓zC_J, zUp_at, zUp_ne, q_up_at, q_up_ne, w32_of, w64_of, q_le_T, q_le_F, q_lt_T, q_lt_F, q_eq_T, q_eq_F, true_or, or_true, or_false, false_or, false_and, and_false, r1, r2, ↓zCm_V, ↓zCm_J, hκ, cd, zMg_vw]
      · unfold F_Model_soldOut J_Model_soldOut_18 J_Model_soldOut_96
        simp (disch := omega) only [Int.add_zero, Int.mul_zero, Int.reduceMul, Int.reduceAdd, Int.mul_one, Int.tdiv_eq_ediv_of_nonneg, Int.tmod_eq_emod_of_nonneg, ↓reduceIte, ↓zLet_eq, ↓zRd_ok, ↓zWr_ok, ↓zC_V, ↓zC_I, ↓zC_J, zUp_at, zUp_ne, q_up_at, q_up_ne, w32_of, w64_of, q_le_T, q_le_F, q_lt_T, q_lt_F, q_eq_T, q_eq_F, true_or, or_true, or_false, false_or, false_and, and_false, z_isInY, r4, r5, eg, ecw, r6]
    obtain rfl : x = 2 := by omega
    refine z_face.ok (v := zJ (q_sm (fun i => μ 5 (5 * i + 3)) m + q_cam (μ 2) dl (μ 5))) (κ' := κ2) (μ' := μ6) ?_ ?_ hcf hfr hat h00
    · unfold F_Ledger_soldOut
      simp (disch := omega) only [Int.add_zero, Int.mul_zero, Int.reduceMul, Int.reduceAdd, Int.mul_one, Int.tdiv_eq_ediv_of_nonneg, Int.tmod_eq_emod_of_nonneg, ↓reduceIte, ↓zLet_eq, ↓zRd_ok, ↓zWr_ok, ↓zC_V, ↓zC_I, ↓zC_J, zUp_at, zUp_ne, q_up_at, q_up_ne, w32_of, w64_of, q_le_T, q_le_F, q_lt_T, q_lt_F, q_eq_T, q_eq_F, true_or, or_true, or_false, false_or, false_and, and_false, r1, r2, ↓zCm_V, ↓zCm_J, hκ, e20]
    · unfold F_Model_soldOut J_Model_soldOut_18 J_Model_soldOut_96
      simp (disch := omega) only [Int.add_zero, Int.mul_zero, Int.reduceMul, Int.reduceAdd, Int.mul_one, Int.tdiv_eq_ediv_of_nonneg, Int.tmod_eq_emod_of_nonneg, ↓reduceIte, ↓zLet_eq, ↓zRd_ok, ↓zWr_ok, ↓zC_V, ↓zC_I, ↓zC_J, zUp_at, zUp_ne, q_up_at, q_up_ne, w32_of, w64_of, q_le_T, q_le_F, q_lt_T, q_lt_F, q_eq_T, q_eq_F, true_or, or_true, or_false, false_or, false_and, and_false, z_isInY, r4, r5, eg, r6]
  · refine z_face.th (v := zJ 0) (E := eNSE) (n := 1) M ?_ ?_ (by decide) (by decide +kernel)
    · unfold F_Ledger_soldOut J_Ledger_soldOut_9
      by_cases h0 : x < 0
      · simp (disch := omega) only [Int.add_zero, Int.mul_zero, Int.reduceMul, Int.reduceAdd, Int.mul_one, Int.tdiv_eq_ediv_of_nonneg, Int.tmod_eq_emod_of_nonneg, ↓reduceIte, ↓zLet_eq, ↓zRd_ok, ↓zWr_ok, ↓zC_V, ↓zC_I, ↓zC_J, zUp_at, zUp_ne, q_up_at, q_up_ne, w32_of, w64_of, q_le_T, q_le_F, q_lt_T, q_lt_F, q_eq_T, q_eq_F, true_or, or_true, or_false, false_or, false_and, and_false]
      · simp (disch := omega) only [Int.add_zero, Int.mul_zero, Int.reduceMul, Int.reduceAdd, Int.mul_one, Int.tdiv_eq_ediv_of_nonneg, Int.tmod_eq_emod_of_nonneg, ↓reduceIte, ↓zLet_eq, ↓zRd_ok, ↓zWr_ok, ↓zC_V, ↓zC_I, ↓zC_J, zUp_at, zUp_ne, q_up_at, q_up_ne, w32_of, w64_of, q_le_T, q_le_F, q_lt_T, q_lt_F, q_eq_T, q_eq_F, true_or, or_true, or_false, false_or, false_and, and_false]
    · unfold F_Model_soldOut J_Model_soldOut_18
      simp (disch := omega) only [Int.add_zero, Int.mul_zero, Int.reduceMul, Int.reduceAdd, Int.mul_one, Int.tdiv_eq_ediv_of_nonneg, Int.tmod_eq_emod_of_nonneg, ↓reduceIte, ↓zLet_eq, ↓zRd_ok, ↓zWr_ok, ↓zC_V, ↓zC_I, ↓zC_J, zUp_at, zUp_ne, q_up_at, q_up_ne, w32_of, w64_of, q_le_T, q_le_F, q_lt_T, q_lt_F, q_eq_T, q_eq_F, true_or, or_true, or_false, false_or, false_and, and_false, z_isInN]
end FK
