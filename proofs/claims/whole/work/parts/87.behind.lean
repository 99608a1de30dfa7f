/-! ===== faces: behind, most ===== -/
section FT
variable {m dl a : Nat} {B d sum : Int} {tm ex pr J s s' : Int → Int} {σ : QS} {κ μ ν : ZMem} {x y z : Int}
theorem m_kp.fr0 {μ μ' : ZMem} (h : m_kp (zUp μ 0 0 0) μ') : m_fr μ μ' ∧ μ' 0 0 = 0 := by
  refine ⟨(m_fr.up0 μ 0).tr h.fr, ?_⟩
  rw [h.2 0 (by decide) (by decide) (by decide), zUp_at, q_up_at]
theorem face_behind (h : z_rest m dl a κ μ) (hx : q_i32 x) (hy : q_i32 y) : z_face [(eIOB, 1), (eNSE, 2)] m dl a κ μ (F_Ledger_behind x y κ) (F_Model_behind x y μ) := by
  obtain ⟨hf, h6, hdl, ht, ⟨m5, m6, m11, ha⟩, ⟨k3, k4, k11⟩, hi, hq, hs⟩ := h.all
  obtain ⟨M, C⟩ := h
  obtain ⟨x1, x2⟩ := hx
  obtain ⟨y1, y2⟩ := hy
  by_cases gx : 0 ≤ x ∧ x ≤ a
  · by_cases gy : 0 ≤ y ∧ y ≤ 4
    · obtain ⟨n, rfl⟩ := Int.eq_ofNat_of_zero_le gx.1
      have hj := M.2.2.1
      -- the class
      obtain ⟨κ1, c1, s1, f1⟩ := k_open C h6
      have C1 : c_at m dl a (μ 2) (μ 4) (μ 3) (μ 8) κ1 := C.fr (c_fr.trial C s1.2 f1)
      obtain ⟨κ2, c2, s2, f2⟩ := k_behind_loop (y := y) (n := n) C1 hf hj (by omega) s1 (fun μ6 => if w32 y = 0 then (zRd μ6 37 4 0 (fun x8 => some (.inr (some (zJ x8)), μ6))) else (if w32 y = 1 then (some (.inr (some (zJ (μ6 39 10))), μ6)) else (if w32 y = 2 then (zCm plUR μ6 (F_Register_allOf_2 (zVw plUR μ6)) (zkJ (fun x12 μ11 => some (.inr (some (zJ x12)), μ11))) zX0) else (if w32 y = 3 then (zCm plUB μ6 (F_Books_clawDue (zVw plUB μ6)) (zkJ (fun x15 μ14 => some (.inr (some (zJ x15)), μ14))) zX0) else (some (.inr (some (zJ (w32 (μ6 33 6)))), μ6))))))
      have hcf : c_fr κ κ2 := c_fr.trial C s2.2 (fun c hc => (f2 c hc).trans (f1 c hc))
      obtain ⟨hin, hb0, hb1, h90⟩ := q_run_B (k := n) hf hj (by omega)
      have bb : b_bk dl (μ 2) (q_run m (μ 2) (μ 4) (μ 3) (μ 8) n).1 (zVw plUB κ2) := s2.1.1
      have rr : r_rg m (μ 4) (q_run m (μ 2) (μ 4) (μ 3) (μ 8) n).1 (zVw plUR κ2) := s2.1.2
      have e37 : κ2 37 0 = (q_run m (μ 2) (μ 4) (μ 3) (μ 8) n).1 86 := bb.2.2.2.2.1 0 (by decide) (by decide)
      have e39 : κ2 39 10 = q_sm (fun i => (q_run m (μ 2) (μ 4) (μ 3) (μ 8) n).1 (5 * i + 3)) m := rr.2.2.2.2.2
      have e33 : κ2 33 6 = (q_run m (μ 2) (μ 4) (μ 3) (μ 8) n).1 90 := bb.2.2.2.2.2.2.1
      have eal := r_allOf2 rr hin.1 h6
      have ecl := b_clawDue bb hin (by omega) (by omega) ht
      have eC : F_Ledger_behind n y κ = (if w32 y = 0 then (zRd κ2 37 4 0 (fun x8 => some (.inr (some (zJ x8)), κ2))) else (if w32 y = 1 then (some (.inr (some (zJ (κ2 39 10))), κ2)) else (if w32 y = 2 then (zCm plUR κ2 (F_Register_allOf_2 (zVw plUR κ2)) (zkJ (fun x12 μ11 => some (.inr (some (zJ x12)), μ11))) zX0) else (if w32 y = 3 then (zCm plUB κ2 (F_Books_clawDue (zVw plUB κ2)) (zkJ (fun x15 μ14 => some (.inr (some (zJ x15)), μ14))) zX0) else (some (.inr (some (zJ (w32 (κ2 33 6)))), κ2)))))) := by
        refine Eq.trans ?_ c2
        unfold F_Ledger_behind
        rw [w32_of x1 x2, if_neg (by omega), k11, w32_of (by omega) (by omega), if_pos gx.2, w32_of y1 y2, if_neg (by omega), w32_of (a := 4) (by decide) (by decide), if_pos gy.2, c1]
      -- the reference
      have M0 := M.up0 0
      obtain ⟨μ1, r1, kp1, cf1, hσ⟩ := m_worksOutTo (μ := zUp μ 0 0 0) (b := n) M0.1 M0.2.2.1 (by omega)
      have w2 : zUp μ 0 0 0 2 = μ 2 := zUp_ne (by decide)
      have w3 : zUp μ 0 0 0 3 = μ 3 := zUp_ne (by decide)
      have w4 : zUp μ 0 0 0 4 = μ 4 := zUp_ne (by decide)
      have w8 : zUp μ 0 0 0 8 = μ 8 := zUp_ne (by decide)
      rw [w2, w3, w4, w8] at hσ
      obtain ⟨-, p5, -, -⟩ := q_pair hσ
      obtain ⟨-, t2, t3, t4, t8, t05, t06, t11⟩ := kp1.at
      obtain ⟨μ2, r2, kp2, at2⟩ := m_worksOutS (a := a) cf1 (t11.trans M0.2.1) (by rw [t2, t4, t3, t8]; exact M0.2.2.1)
      obtain ⟨hfr, h00⟩ := (kp1.tr kp2).fr0
      have ega := m_gotAll (μ := μ1) (m := m) cf1.1 h6
      have eun := m_uncalled (μ := μ1) (m := m) cf1.1 h6 (d := -1) (by decide) (by decide)
      rw [q_wp_all] at eun
      have ecw := m_claw0 (μ := μ1) (m := m) (dl := dl) (B := 6 * n + 2 * (q_run m (μ 2) (μ 4) (μ 3) (μ 8) n).1 90) (by rw [p5]; exact hin) (by omega) (by omega) (by rw [t2, w2]; exact ht)
      rw [p5] at ega eun ecw
      rw [t2, w2] at ecw
      have eM : F_Model_behind n y μ = (if w32 y = 0 then (zRd μ1 5 92 86 (fun x7 => J_Model_behind_128 x7 μ1)) else (if w32 y = 1 then (zC (F_Model_gotAll μ1) (zkJ (fun x12 μ11 => J_Model_behind_128 x12 μ11)) zX0) else (if w32 y = 2 then (zC (F_Model_uncalled (-1) μ1) (zkJ (fun x15 μ14 => J_Model_behind_128 x15 μ14)) zX0) else (if w32 y = 3 then (zC (F_Model_claw0 μ1) (zkJ (fun x18 μ17 => J_Model_behind_128 x18 μ17)) zX0) else (zRd μ1 5 92 90 (fun x19 => J_Model_behind_128 x19 μ1)))))) := by
        unfold F_Model_behind J_Model_behind_36
        rw [w32_of x1 x2, m11, w32_of (by omega) (by omega), z_isInY gx.1 gx.2 (by decide) (by omega), zC_I, w32_of (by decide) (by decide), if_neg (by decide), w32_of y1 y2, z_isInY gy.1 gy.2 (by decide) (by decide), zC_I, w32_of (by decide) (by decide), if_neg (by decide), zLet_eq, zUp_at, q_up_at, w32_of (by decide) (by decide), if_pos (by decide), r1, zC_V]
      rw [eC, eM]
      have e86 : μ1 5 86 = (q_run m (μ 2) (μ 4) (μ 3) (μ 8) n).1 86 := by rw [p5]
      have e90 : μ1 5 90 = (q_run m (μ 2) (μ 4) (μ 3) (μ 8) n).1 90 := by rw [p5]
      unfold J_Model_behind_128
      by_cases v0 : y = 0
      · subst v0
        exact z_face.ok (v := zJ ((q_run m (μ 2) (μ 4) (μ 3) (μ 8) n).1 86)) (κ' := κ2) (μ' := μ2) (by simp (disch := omega) only [Int.add_zero, Int.mul_zero, Int.reduceMul, Int.reduceAdd, Int.mul_one, Int.tdiv_eq_ediv_of_nonneg, Int.tmod_eq_emod_of_nonneg, ↓reduceIte, ↓zLet_eq, ↓zRd_ok, ↓zWr_ok, ↓zC_V, ↓zC_I, ↓zC_J, zUp_at, zUp_ne, q_up_at, q_up_ne, w32_of, w64_of, q_le_T, q_le_F, q_lt_T, q_lt_F, q_eq_T, q_eq_F, true_or, or_true, or_false, false_or, false_and, and_false, e37]) (by simp (disch := omega) only [Int.add_zero, Int.mul_zero, Int.reduceMul, Int.reduceAdd, Int.mul_one, Int.tdiv_eq_ediv_of_nonneg, Int.tmod_eq_emod_of_nonneg, ↓reduceIte, ↓zLet_eq, ↓zRd_ok, ↓zWr_ok, ↓zC_V, ↓zC_I, ↓zC_J, zUp_at, zUp_ne, q_up_at, q_up_ne, w32_of, w64_of, q_le_T, q_le_F, q_lt_T, q_lt_F, q_eq_T, q_eq_F, true_or, or_true, or_false, false_or, false_and, and_false, e86, r2]) hcf hfr at2 h00
      by_cases v1 : y = 1
      · subst v1
        exact z_face.ok (v := zJ (q_sm (fun i => (q_run m (μ 2) (μ 4) (μ 3) (μ 8) n).1 (5 * i + 3)) m)) (κ' := κ2) (μ' := μ2) (by simp (disch := omega) only [Int.add_zero, Int.mul_zero, Int.reduceMul, Int.reduceAdd, Int.mul_one, Int.tdiv_eq_ediv_of_nonneg, Int.tmod_eq_emod_of_nonneg, ↓reduceIte, ↓zLet_eq, ↓zRd_ok, ↓zWr_ok, ↓zC_V, ↓zC_I, ↓zC_J, zUp_at, zUp_ne, q_up_at, q_up_ne, w32_of, w64_of, q_le_T, q_le_F, q_lt_T, q_lt_F, q_eq_T, q_eq_F, true_or, or_true, or_false, false_or, false_and, and_false, e39]) (by simp (disch := omega) only [Int.add_zero, Int.mul_zero, Int.reduceMul, Int.reduceAdd, Int.mul_one, Int.tdiv_eq_ediv_of_nonneg, Int.tmod_eq_emod_of_nonneg, ↓reduceIte, ↓zLet_eq, ↓zRd_ok, ↓zWr_ok, ↓zC_V, ↓zC_I, ↓zC_J, zUp_at, zUp_ne, q_up_at, q_up_ne, w32_of, w64_of, q_le_T, q_le_F, q_lt_T, q_lt_F, q_eq_T, q_eq_F, true_or, or_true, or_false, false_or, false_and, and_false, ega, r2]) hcf hfr at2 h00
      by_cases v2 : y = 2
      · subst v2
        exact z_face.ok (v := zJ (q_sm (fun i => (q_run m (μ 2) (μ 4) (μ 3) (μ 8) n).1 (5 * i + 1)) m)) (κ' := κ2) (μ' := μ2) (by simp (disch := omega) only [Int.add_zero, Int.mul_zero, Int.reduceMul, Int.reduceAdd, Int.mul_one, Int.tdiv_eq_ediv_of_nonneg, Int.tmod_eq_emod_of_nonneg, ↓reduceIte, ↓zLet_eq, ↓zRd_ok, ↓zWr_ok, ↓zC_V, ↓zC_I, ↓zC_J, zUp_at, zUp_ne, q_up_at, q_up_ne, w32_of, w64_of, q_le_T, q_le_F, q_lt_T, q_lt_F, q_eq_T, q_eq_F, true_or, or_true, or_false, false_or, false_and, and_false, eal, ↓zCm_J, zMg_vw]) (by simp (disch := omega) only [Int.add_zero, Int.mul_zero, Int.reduceMul, Int.reduceAdd, Int.mul_one, Int.tdiv_eq_ediv_of_nonneg, Int.tmod_eq_emod_of_nonneg, ↓reduceIte, ↓zLet_eq, ↓zRd_ok, ↓zWr_ok, ↓zC_V, ↓zC_I, ↓zC_J, zUp_at, zUp_ne, q_up_at, q_up_ne, w32_of, w64_of, q_le_T, q_le_F, q_lt_T, q_lt_F, q_eq_T, q_eq_F, true_or, or_true, or_false, false_or, false_and, and_false, eun, r2]) hcf hfr at2 h00
      by_cases v3 : y = 3
      · subst v3
        exact z_face.ok (v := zJ (q_cw (μ 2) (q_run m (μ 2) (μ 4) (μ 3) (μ 8) n).1)) (κ' := κ2) (μ' := μ2) (by simp (disch := omega) only [Int.add_zero, Int.mul_zero, Int.reduceMul, Int.reduceAdd, Int.mul_one, Int.tdiv_eq_ediv_of_nonneg, Int.tmod_eq_emod_of_nonneg, ↓reduceIte, ↓zLet_eq, ↓zRd_ok, ↓zWr_ok, ↓zC_V, ↓zC_I, ↓zC_J, zUp_at, zUp_ne, q_up_at, q_up_ne, w32_of, w64_of, q_le_T, q_le_F, q_lt_T, q_lt_F, q_eq_T, q_eq_F, true_or, or_true, or_false, false_or, false_and, and_false, ecl, ↓zCm_J, zMg_vw]) (by simp (disch := omega) only [Int.add_zero, Int.mul_zero, Int.reduceMul, Int.reduceAdd, Int.mul_one, Int.tdiv_eq_ediv_of_nonneg, Int.tmod_eq_emod_of_nonneg, ↓reduceIte, ↓zLet_eq, ↓zRd_ok, ↓zWr_ok, ↓zC_V, ↓zC_I, ↓zC_J, zUp_at, zUp_ne, q_up_at, q_up_ne, w32_of, w64_of, q_le_T, q_le_F, q_lt_T, q_lt_F, q_eq_T, q_eq_F, true_or, or_true, or_false, false_or, false_and, and_false, ecw, r2]) hcf hfr at2 h00
      obtain rfl : y = 4 := by omega
      exact z_face.ok (v := zJ ((q_run m (μ 2) (μ 4) (μ 3) (μ 8) n).1 90)) (κ' := κ2) (μ' := μ2) (by simp (disch := omega) only [Int.add_zero, Int.mul_zero, Int.reduceMul, Int.reduceAdd, Int.mul_one, Int.tdiv_eq_ediv_of_nonneg, Int.tmod_eq_emod_of_nonneg, ↓reduceIte, ↓zLet_eq, ↓zRd_ok, ↓zWr_ok, ↓zC_V, ↓zC_I, ↓zC_J, zUp_at, zUp_ne, q_up_at, q_up_ne, w32_of, w64_of, q_le_T, q_le_F, q_lt_T, q_lt_F, q_eq_T, q_eq_F, true_or, or_true, or_false, false_or, false_and, and_false, e33]) (by simp (disch := omega) only [Int.add_zero, Int.mul_zero, Int.reduceMul, Int.reduceAdd, Int.mul_one, Int.tdiv_eq_ediv_of_nonneg, Int.tmod_eq_emod_of_nonneg, ↓reduceIte, ↓zLet_eq, ↓zRd_ok, ↓zWr_ok, ↓zC_V, ↓zC_I, ↓zC_J, zUp_at, zUp_ne, q_up_at, q_up_ne, w32_of, w64_of, q_le_T, q_le_F, q_lt_T, q_lt_F, q_eq_T, q_eq_F, true_or, or_true, or_false, false_or, false_and, and_false, e90, r2]) hcf hfr at2 h00
    · refine z_face.th (v := zJ 0) (E := eNSE) (n := 2) M ?_ ?_ (by decide) (by decide +kernel)
      · unfold F_Ledger_behind J_Ledger_behind_32
        by_cases h0 : y < 0
        · simp (disch := omega) only [Int.add_zero, Int.mul_zero, Int.reduceMul, Int.reduceAdd, Int.mul_one, Int.tdiv_eq_ediv_of_nonneg, Int.tmod_eq_emod_of_nonneg, ↓reduceIte, ↓zLet_eq, ↓zRd_ok, ↓zWr_ok, ↓zC_V, ↓zC_I, ↓zC_J, zUp_at, zUp_ne, q_up_at, q_up_ne, w32_of, w64_of, q_le_T, q_le_F, q_lt_T, q_lt_F, q_eq_T, q_eq_F, true_or, or_true, or_false, false_or, false_and, and_false, k11]
        · simp (disch := omega) only [Int.add_zero, Int.mul_zero, Int.reduceMul, Int.reduceAdd, Int.mul_one, Int.tdiv_eq_ediv_of_nonneg, Int.tmod_eq_emod_of_nonneg, ↓reduceIte, ↓zLet_eq, ↓zRd_ok, ↓zWr_ok, ↓zC_V, ↓zC_I, ↓zC_J, zUp_at, zUp_ne, q_up_at, q_up_ne, w32_of, w64_of, q_le_T, q_le_F, q_lt_T, q_lt_F, q_eq_T, q_eq_F, true_or, or_true, or_false, false_or, false_and, and_false, k11]
      · unfold F_Model_behind J_Model_behind_36
        simp (disch := omega) only [Int.add_zero, Int.mul_zero, Int.reduceMul, Int.reduceAdd, Int.mul_one, Int.tdiv_eq_ediv_of_nonneg, Int.tmod_eq_emod_of_nonneg, ↓reduceIte, ↓zLet_eq, ↓zRd_ok, ↓zWr_ok, ↓zC_V, ↓zC_I, ↓zC_J, zUp_at, zUp_ne, q_up_at, q_up_ne, w32_of, w64_of, q_le_T, q_le_F, q_lt_T, q_lt_F, q_eq_T, q_eq_F, true_or, or_true, or_false, false_or, false_and, and_false, z_isInY, z_isInN]
  · refine z_face.th (v := zJ 0) (E := eIOB) (n := 1) M ?_ ?_ (by decide) (by decide +kernel)
    · unfold F_Ledger_behind J_Ledger_behind_15
      by_cases h0 : x < 0
      · simp (disch := omega) only [Int.add_zero, Int.mul_zero, Int.reduceMul, Int.reduceAdd, Int.mul_one, Int.tdiv_eq_ediv_of_nonneg, Int.tmod_eq_emod_of_nonneg, ↓reduceIte, ↓zLet_eq, ↓zRd_ok, ↓zWr_ok, ↓zC_V, ↓zC_I, ↓zC_J, zUp_at, zUp_ne, q_up_at, q_up_ne, w32_of, w64_of, q_le_T, q_le_F, q_lt_T, q_lt_F, q_eq_T, q_eq_F, true_or, or_true, or_false, false_or, false_and, and_false]
      · simp (disch := omega) only [Int.add_zero, Int.mul_zero, Int.reduceMul, Int.reduceAdd, Int.mul_one, Int.tdiv_eq_ediv_of_nonneg, Int.tmod_eq_emod_of_nonneg, ↓reduceIte, ↓zLet_eq, ↓zRd_ok, ↓zWr_ok, ↓zC_V, ↓zC_I, ↓zC_J, zUp_at, zUp_ne, q_up_at, q_up_ne, w32_of, w64_of, q_le_T, q_le_F, q_lt_T, q_lt_F, q_eq_T, q_eq_F, true_or, or_true, or_false, false_or, false_and, and_false, k11]
    · unfold F_Model_behind J_Model_behind_36
      simp (disch := omega) only [Int.add_zero, Int.mul_zero, Int.reduceMul, Int.reduceAdd, Int.mul_one, Int.tdiv_eq_ediv_of_nonneg, Int.tmod_eq_emod_of_nonneg, ↓reduceIte, ↓zLet_eq, ↓zRd_ok, ↓zWr_ok, ↓zC_V, ↓zC_I, ↓zC_J, zUp_at, zUp_ne, q_up_at, q_up_ne, w32_of, w64_of, q_le_T, q_le_F, q_lt_T, q_lt_F, q_eq_T, q_eq_F, true_or, or_true, or_false, false_or, false_and, and_false, z_isInN]
end FT
