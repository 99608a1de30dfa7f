/-! ===== face: bar ===== -/
section GJ
variable {m dl a : Nat} {x y z : Int} {κ μ ν : ZMem}
theorem face_bar (h : z_rest m dl a κ μ) (hT : m_top μ) (hx : q_i32 x) : z_face [(eIAE, 1)] m dl a κ μ (F_Ledger_bar x κ) (F_Model_bar x μ) := by
  obtain ⟨hf, h6, hdl, ht, ⟨m5, m6, m11, ha⟩, ⟨k3, k4, k11⟩, hi, hq, hs⟩ := h.all
  obtain ⟨M, C⟩ := h
  obtain ⟨x1, x2⟩ := hx
  by_cases gx : 0 ≤ x ∧ x ≤ 99999
  · obtain ⟨r, κ2, ν, c1, e1, fr, R⟩ := z_bar (x := x) hf M.2.2.1 C (fun k10 μ9 => zWr μ9 2 7 0 (μ 2 0) (fun μ11 => zC (F_Model_worksOut μ11) (zkV (fun μ12 => some (.inr (some (zI k10)), μ12))) zX0)) (μ 2 0) 1000 zN zN κ (zUp μ 0 0 0) (zN_gt (by decide)) (zN_gt (by decide)) (Nat.le_refl _) (c_fr.rf κ) (m_tr.start M)
    obtain ⟨ν2, r2, hfr, at2, h00⟩ := R.back (by decide) (by decide) ht
    have e999 : ((1000 : Nat) : Int) - 1 = 999 := by decide
    rw [e999] at c1 e1
    have t1 : zUp μ 0 0 0 1 0 = 999 := by rw [zUp_ne (by decide)]; exact hT 0 (by decide)
    have w2 : zUp μ 0 0 0 2 = μ 2 := zUp_ne (by decide)
    refine z_face.ok (v := zI r) (κ' := κ2) (μ' := ν2) ?_ ?_ fr hfr at2 h00
    · unfold F_Ledger_bar
      rw [w32_of x1 x2, if_neg (by omega), w32_of (by decide) (by decide), if_pos gx.2]
      exact (zTop_ok (k := 0) (by decide)).trans c1
    · unfold F_Model_bar J_Model_bar_18
      rw [w32_of x1 x2, z_isInY gx.1 gx.2 (by decide) (by decide), zC_I, w32_of (by decide) (by decide), if_neg (by decide), zLet_eq, zUp_at, q_up_at, w32_of (by decide) (by decide), if_pos (by decide), zRd_ok (by decide) (by decide) (by decide), w2, zRd_ok (by decide) (by decide) (by decide), t1]
      refine e1.trans ?_
      rw [zWr_ok (by decide) (by decide) (by decide), r2, zC_V]
  · refine z_face.th (v := zI 0) (E := eIAE) (n := 1) M ?_ ?_ (by decide) (by decide +kernel)
    · unfold F_Ledger_bar J_Ledger_bar_10
      by_cases h0 : x < 0
      · simp (disch := omega) only [Int.add_zero, Int.mul_zero, Int.reduceMul, Int.reduceAdd, Int.mul_one, Int.tdiv_eq_ediv_of_nonneg, Int.tmod_eq_emod_of_nonneg, ↓reduceIte, ↓zLet_eq, ↓zRd_ok, ↓zWr_ok, ↓zC_V, ↓zC_I, ↓zC_J, zUp_at, zUp_ne, q_up_at, q_up_ne, w32_of, w64_of, q_le_T, q_le_F, q_lt_T, q_lt_F, q_eq_T, q_eq_F, true_or, or_true, or_false, false_or, false_and, and_false]
      · simp (disch := omega) only [Int.add_zero, Int.mul_zero, Int.reduceMul, Int.reduceAdd, Int.mul_one, Int.tdiv_eq_ediv_of_nonneg, Int.tmod_eq_emod_of_nonneg, ↓reduceIte, ↓zLet_eq, ↓zRd_ok, ↓zWr_ok, ↓zC_V, ↓zC_I, ↓zC_J, zUp_at, zUp_ne, q_up_at, q_up_ne, w32_of, w64_of, q_le_T, q_le_F, q_lt_T, q_lt_F, q_eq_T, q_eq_F, true_or, or_true, or_false, false_or, false_and, and_false]
    · unfold F_Model_bar J_Model_bar_18
      simp (disch := omega) only [Int.add_zero, Int.mul_zero, Int.reduceMul, Int.reduceAdd, Int.mul_one, Int.tdiv_eq_ediv_of_nonneg, Int.tmod_eq_emod_of_nonneg, ↓reduceIte, ↓zLet_eq, ↓zRd_ok, ↓zWr_ok, ↓zC_V, ↓zC_I, ↓zC_J, zUp_at, zUp_ne, q_up_at, q_up_ne, w32_of, w64_of, q_le_T, q_le_F, q_lt_T, q_lt_F, q_eq_T, q_eq_F, true_or, or_true, or_false, false_or, false_and, and_false, z_isInN]
end GJ
