/-! ===== face: would ===== -/
section GG
variable {m dl a : Nat} {x y : Int} {κ μ ν : ZMem} {tm : Int → Int}
theorem c_fr.under {ex pr J : Int → Int} {κ κ' : ZMem} (f : ∀ c, c < 33 ∨ 39 ≤ c → κ' c = κ c) : c_fr κ κ' := ⟨fun c hc => f c (by omega), by rw [f 32 (by decide)]⟩
theorem face_would (h : z_rest m dl a κ μ) (hT : m_top μ) (hx : q_i32 x) (hy : q_i32 y) : z_face [(eNSE, 1), (eIAE, 2)] m dl a κ μ (F_Ledger_would x y κ) (F_Model_would x y μ) := by
  obtain ⟨hf, h6, hdl, ht, ⟨m5, m6, m11, ha⟩, ⟨k3, k4, k11⟩, hi, hq, hs⟩ := h.all
  obtain ⟨M, C⟩ := h
  obtain ⟨x1, x2⟩ := hx
  obtain ⟨y1, y2⟩ := hy
  by_cases gx : 0 ≤ x ∧ x ≤ 5
  · obtain ⟨k, rfl⟩ := Int.eq_ofNat_of_zero_le gx.1
    have tb := zTop_in (k := k) (by omega)
    have t1 : zUp μ 0 0 0 1 k = zTops.getD k 0 := by rw [zUp_ne (by decide)]; exact hT k (by omega)
    have u00 : ∀ v, zUp (zUp μ 0 0 0) 0 0 v = zUp μ 0 0 v := fun v => by
      funext c i
      by_cases hc : c = 0
      · subst hc
        rw [zUp_at, zUp_at, zUp_at]
        by_cases hi' : i = 0
        · rw [hi', q_up_at, q_up_at]
        · rw [q_up_ne hi', q_up_ne hi', q_up_ne hi']
      · rw [zUp_ne hc, zUp_ne hc, zUp_ne hc]
    by_cases gy : 0 ≤ y ∧ y ≤ zTops.getD k 0
    · have ht' := ht.set (k := k) (y := y) (by omega) gy.1 gy.2
      obtain ⟨κ1, c1, b1, f1⟩ := k_under (x := k) (y := y) C hf M.2.2.1 gx.1 (by omega) ht'
      have M0 := M.up0 0
      have w2 : zUp μ 0 0 0 2 = μ 2 := zUp_ne (by decide)
      have w3 : zUp μ 0 0 0 3 = μ 3 := zUp_ne (by decide)
      have w4 : zUp μ 0 0 0 4 = μ 4 := zUp_ne (by decide)
      have w8 : zUp μ 0 0 0 8 = μ 8 := zUp_ne (by decide)
      obtain ⟨μ1, r1, kp1, cf1, h11, hj1, h5, -⟩ := m_under (x := k) (y := y) M0.1 M0.2.1 M0.2.2.1 gx.1 (by omega) (by rw [w2]; exact ht')
      rw [w2, w3, w4, w8] at h5
      obtain ⟨-, t2, t3, t4, t8, -⟩ := kp1.at
      have e2 : μ1 2 = q_up (μ 2) k y := by rw [t2, zUp_at, w2]
      obtain ⟨μ2, r2, kp2, cf2, h112, hj2, h52, at2⟩ := m_under (x := k) (y := μ 2 k) cf1 h11 hj1 gx.1 (by omega) (by rw [e2, q_up_back]; exact ht)
      obtain ⟨-, s2, s3, s4, s8, -⟩ := kp2.at
      have e22 : μ2 2 = μ 2 := by rw [s2, zUp_at, e2, q_up_back]
      have hfr : m_fr μ μ2 := by
        refine ⟨fun c hc => ?_, fun i hi' => ?_⟩
        · by_cases h2 : c = 2
          · rw [h2]; exact e22
          · rw [kp2.1 c (by omega) (by omega) (by omega) (by omega) (by omega) (by omega) (by omega) (by omega) (by omega) (by omega), zUp_ne h2, kp1.1 c (by omega) (by omega) (by omega) (by omega) (by omega) (by omega) (by omega) (by omega) (by omega) (by omega), zUp_ne h2, zUp_ne (by omega)]
        · rw [kp2.2 i (by omega) (by omega) (by omega), zUp_ne (by decide), kp1.2 i (by omega) (by omega) (by omega), zUp_ne (by decide), zUp_at, q_up_ne (by omega)]
      have h00 : μ2 0 0 = 0 := by rw [kp2.2 0 (by decide) (by decide) (by decide), zUp_ne (by decide), kp1.2 0 (by decide) (by decide) (by decide), zUp_ne (by decide), zUp_at, q_up_at]
      refine z_face.ok (v := zJ ((q_run m (q_up (μ 2) k y) (μ 4) (μ 3) (μ 8) a).1 86 - (q_run m (q_up (μ 2) k y) (μ 4) (μ 3) (μ 8) a).1 89)) (κ' := κ1) (μ' := μ2) ?_ ?_ (c_fr.under (ex := μ 4) (pr := μ 3) (J := μ 8) f1) hfr at2 h00
      · unfold F_Ledger_would
        rw [w32_of x1 x2, if_neg (by omega), w32_of (by decide) (by decide), if_pos (by omega), w32_of y1 y2, if_neg (by omega), zTop_ok (by omega), w32_of (by omega) (by omega), if_pos gy.2, c1, zC_Rc, b_netTaken b1, zCm_J, zMg_vw, q_nm_lo (by omega), q_nm_lo (by omega)]
      · unfold F_Model_would J_Model_would_18 J_Model_would_52
        rw [w32_of x1 x2, z_isInY gx.1 gx.2 (by decide) (by decide), zC_I, w32_of (by decide) (by decide), if_neg (by decide), zLet_eq, zUp_at, q_up_at, w32_of (by decide) (by decide), if_pos (by decide), zRd_ok (by omega) (by omega) (by omega), t1, w32_of y1 y2, w32_of (by omega) (by omega), z_isInY gy.1 gy.2 (by decide) (by omega), zC_I, w32_of (by decide) (by decide), if_neg (by decide), zLet_eq, u00, zUp_at, q_up_at, w32_of (by decide) (by decide), if_pos (by decide), zRd_ok (by omega) (by omega) (by omega), w2, zWr_ok (by omega) (by omega) (by omega), r1, zC_V, m_keeps, zC_J, zWr_ok (by omega) (by omega) (by omega), r2, zC_V, h5]
    · refine z_face.th (v := zJ 0) (E := eIAE) (n := 2) M ?_ ?_ (by decide) (by decide +kernel)
      · unfold F_Ledger_would J_Ledger_would_31
        rw [w32_of x1 x2, if_neg (by omega), w32_of (a := 6) (by decide) (by decide), if_pos (by omega), w32_of y1 y2]
        by_cases h0 : y < 0
        · rw [if_pos h0]
        · rw [if_neg h0, zTop_ok (by omega), w32_of (by omega) (by omega), if_neg (by omega)]
      · unfold F_Model_would J_Model_would_18 J_Model_would_52
        rw [w32_of x1 x2, z_isInY gx.1 gx.2 (by decide) (by decide), zC_I, w32_of (by decide) (by decide), if_neg (by decide), zLet_eq, zUp_at, q_up_at, w32_of (by decide) (by decide), if_pos (by decide), zRd_ok (by omega) (by omega) (by omega), t1, w32_of y1 y2, w32_of (by omega) (by omega), z_isInN (by omega) (by omega) (by omega) (by decide) (by decide) (by omega) (by omega), zC_I, w32_of (by decide) (by decide), if_pos rfl, zLet_eq, u00, zUp_at, q_up_at, w32_of (by decide) (by decide), if_neg (by decide)]
  · refine z_face.th (v := zJ 0) (E := eNSE) (n := 1) M ?_ ?_ (by decide) (by decide +kernel)
    · unfold F_Ledger_would J_Ledger_would_10
      by_cases h0 : x < 0
      · simp (disch := omega) only [Int.add_zero, Int.mul_zero, Int.reduceMul, Int.reduceAdd, Int.mul_one, Int.tdiv_eq_ediv_of_nonneg, Int.tmod_eq_emod_of_nonneg, ↓reduceIte, ↓zLet_eq, ↓zRd_ok, ↓zWr_ok, ↓zC_V, ↓zC_I, ↓zC_J, zUp_at, zUp_ne, q_up_at, q_up_ne, w32_of, w64_of, q_le_T, q_le_F, q_lt_T, q_lt_F, q_eq_T, q_eq_F, true_or, or_true, or_false, false_or, false_and, and_false]
      · simp (disch := omega) only [Int.add_zero, Int.mul_zero, Int.reduceMul, Int.reduceAdd, Int.mul_one, Int.tdiv_eq_ediv_of_nonneg, Int.tmod_eq_emod_of_nonneg, ↓reduceIte, ↓zLet_eq, ↓zRd_ok, ↓zWr_ok, ↓zC_V, ↓zC_I, ↓zC_J, zUp_at, zUp_ne, q_up_at, q_up_ne, w32_of, w64_of, q_le_T, q_le_F, q_lt_T, q_lt_F, q_eq_T, q_eq_F, true_or, or_true, or_false, false_or, false_and, and_false]
    · unfold F_Model_would J_Model_would_18
      simp (disch := omega) only [Int.add_zero, Int.mul_zero, Int.reduceMul, Int.reduceAdd, Int.mul_one, Int.tdiv_eq_ediv_of_nonneg, Int.tmod_eq_emod_of_nonneg, ↓reduceIte, ↓zLet_eq, ↓zRd_ok, ↓zWr_ok, ↓zC_V, ↓zC_I, ↓zC_J, zUp_at, zUp_ne, q_up_at, q_up_ne, w32_of, w64_of, q_le_T, q_le_F, q_lt_T, q_lt_F, q_eq_T, q_eq_F, true_or, or_true, or_false, false_or, false_and, and_false, z_isInN]
end GG
