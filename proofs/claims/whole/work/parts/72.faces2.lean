/-! ===== faces: what a sum would fill ===== -/
def q_lo (tm : Int → Int) (d : Int) : Int := if d = -1 then 0 else if tm 3 = 1 then 2 + d else 0
def q_lb (tm : Int → Int) (d : Int) : Int := if d = -1 then 0 else if tm 3 = 1 then 1 else 0
section FC
variable {m dl a : Nat} {B d sum : Int} {tm s : Int → Int} {κ μ : ZMem} {x y z : Int}
theorem q_lo_in (d0 : -1 ≤ d) (d1 : d < 6) : (q_lo tm d = 0 ∧ q_lb tm d = 0) ∨ (q_lo tm d = 2 + d ∧ q_lb tm d = 1 ∧ 0 ≤ d) := by
  unfold q_lo q_lb
  by_cases h : d = -1
  · rw [if_pos h, if_pos h]; exact Or.inl ⟨rfl, rfl⟩
  · rw [if_neg h, if_neg h]
    by_cases h3 : tm 3 = 1
    · rw [if_pos h3, if_pos h3]; exact Or.inr ⟨rfl, rfl, by omega⟩
    · rw [if_neg h3, if_neg h3]; exact Or.inl ⟨rfl, rfl⟩
theorem k_measureAt (hb : b_bk dl tm s (zVw plNB κ)) (hi : q_inv m dl B s) (hdl : dl ≤ 6) (hB0 : 0 ≤ B) (hB1 : B ≤ 900) (ht : q_tm tm) (d0 : -1 ≤ d) (d1 : d < dl) (hs0 : 0 ≤ sum) (hs1 : sum ≤ 99999) :
    ∃ κ', F_Ledger_measureAt d sum κ = some (.inr none, κ') ∧ (∀ c, c ≠ 19 → κ' c = κ c) ∧ κ' 19 0 = q_s0 (q_cc (q_lo tm d) (q_lb tm d) s) sum ∧ κ' 19 1 = q_s1 (q_cc (q_lo tm d) (q_lb tm d) s) (q_cp (q_lo tm d) (q_lb tm d) s) sum ∧ κ' 19 2 = q_s2 tm (q_cc (q_lo tm d) (q_lb tm d) s) (q_cp (q_lo tm d) (q_lb tm d) s) (s (54 + 4 * q_lo tm d + 2)) (s (54 + 4 * q_lo tm d + 3)) sum ∧ κ' 19 3 = q_s3 tm (q_cc (q_lo tm d) (q_lb tm d) s) (q_cp (q_lo tm d) (q_lb tm d) s) (s (54 + 4 * q_lo tm d + 2)) (s (54 + 4 * q_lo tm d + 3)) sum ∧ κ' 19 4 = q_fM tm (q_lo tm d) (q_lb tm d) sum s ∧ κ' 19 5 = sum - q_fM tm (q_lo tm d) (q_lb tm d) sum s := by
  have key : ∀ aa, b_ll aa (q_lo tm d) → ∃ κ', J_Ledger_measureAt_41 sum (q_lb tm d) aa κ = some (.inr none, κ') ∧ (∀ c, c ≠ 19 → κ' c = κ c) ∧ κ' 19 0 = q_s0 (q_cc (q_lo tm d) (q_lb tm d) s) sum ∧ κ' 19 1 = q_s1 (q_cc (q_lo tm d) (q_lb tm d) s) (q_cp (q_lo tm d) (q_lb tm d) s) sum ∧ κ' 19 2 = q_s2 tm (q_cc (q_lo tm d) (q_lb tm d) s) (q_cp (q_lo tm d) (q_lb tm d) s) (s (54 + 4 * q_lo tm d + 2)) (s (54 + 4 * q_lo tm d + 3)) sum ∧ κ' 19 3 = q_s3 tm (q_cc (q_lo tm d) (q_lb tm d) s) (q_cp (q_lo tm d) (q_lb tm d) s) (s (54 + 4 * q_lo tm d + 2)) (s (54 + 4 * q_lo tm d + 3)) sum ∧ κ' 19 4 = q_fM tm (q_lo tm d) (q_lb tm d) sum s ∧ κ' 19 5 = sum - q_fM tm (q_lo tm d) (q_lb tm d) sum s := fun aa hl => by
    have hl0 : 0 ≤ q_lo tm d ∧ q_lo tm d < 8 := by rcases q_lo_in (tm := tm) d0 (show d < 6 by omega) with h | h <;> omega
    obtain ⟨x0, x1, x2, x3⟩ := q_lbd hi hB0 hB1 hl0.1 hl0.2
    obtain ⟨y0, y1⟩ := q_lbd1 hi hB0 hB1
    obtain ⟨ν, r, f, g⟩ := b_measure (b := q_lb tm d) (sum := sum) hb hl (by rcases q_lo_in (tm := tm) d0 (show d < 6 by omega) with h | h <;> omega) ht hs0 hs1 x0 x1 x2 x3 y0 y1
    unfold J_Ledger_measureAt_41
    simp (disch := omega) only [w32_of, r, ↓zCm_V]
    refine ⟨_, rfl, fun c hc => zMg_fr (bad := [5]) (fun j hj => f j (fun e => hj (by simp [e]))) (fun hm => ?_), g⟩
    have : c = 19 := by simpa [zRho] using hm
    exact hc this
  unfold F_Ledger_measureAt J_Ledger_measureAt_22 J_Ledger_measureAt_23
  by_cases hd : d = -1
  · have e1 : q_lb tm d = 0 := if_pos hd
    have e2 : q_lo tm d = 0 := if_pos hd
    have k := key 6 (Or.inl ⟨rfl, e2⟩)
    rw [e1] at k ⊢
    simp (disch := omega) only [w32_of, q_eq_T, ↓reduceIte]
    exact k
  · have ew := b_isDealwise hb ht
    by_cases h3 : tm 3 = 1
    · have e1 : q_lb tm d = 1 := by unfold q_lb; rw [if_neg hd, if_pos h3]
      have e2 : q_lo tm d = 2 + d := by unfold q_lo; rw [if_neg hd, if_pos h3]
      have k := key d (Or.inr ⟨by omega, by omega, e2⟩)
      rw [if_pos h3] at ew
      rw [e1] at k ⊢
      simp (disch := omega) only [w32_of, q_eq_F, ↓reduceIte, ew, ↓zCm_I, zMg_vw]
      exact k
    · have e1 : q_lb tm d = 0 := by unfold q_lb; rw [if_neg hd, if_neg h3]
      have e2 : q_lo tm d = 0 := by unfold q_lo; rw [if_neg hd, if_neg h3]
      have k := key 6 (Or.inl ⟨rfl, e2⟩)
      rw [if_neg h3] at ew
      rw [e1] at k ⊢
      simp (disch := omega) only [w32_of, q_eq_F, q_eq_T, ↓reduceIte, ew, ↓zCm_I, zMg_vw]
      exact k
theorem m_ladderOf (ht : q_tm (μ 2)) (d0 : -1 ≤ d) (d1 : d < 6) : F_Model_ladderOf d μ = some (.inr (some (zI (q_lo (μ 2) d))), μ) := by
  unfold F_Model_ladderOf J_Model_ladderOf_12 q_lo
  have ew := m_isDealwise (μ := μ) ht.2.2.2.1.1 ht.2.2.2.1.2
  by_cases hd : d = -1
  · simp (disch := omega) only [Int.add_zero, Int.mul_zero, Int.reduceMul, Int.reduceAdd, Int.mul_one, Int.tdiv_eq_ediv_of_nonneg, Int.tmod_eq_emod_of_nonneg, ↓reduceIte, ↓zLet_eq, ↓zRd_ok, ↓zWr_ok, ↓zC_V, ↓zC_I, ↓zC_J, zUp_at, zUp_ne, q_up_at, q_up_ne, w32_of, w64_of, q_le_T, q_le_F, q_lt_T, q_lt_F, q_eq_T, q_eq_F, true_or, or_true, or_false, false_or, false_and, and_false]
  · by_cases h3 : μ 2 3 = 1
    · rw [if_pos h3] at ew
      simp (disch := omega) only [Int.add_zero, Int.mul_zero, Int.reduceMul, Int.reduceAdd, Int.mul_one, Int.tdiv_eq_ediv_of_nonneg, Int.tmod_eq_emod_of_nonneg, ↓reduceIte, ↓zLet_eq, ↓zRd_ok, ↓zWr_ok, ↓zC_V, ↓zC_I, ↓zC_J, zUp_at, zUp_ne, q_up_at, q_up_ne, w32_of, w64_of, q_le_T, q_le_F, q_lt_T, q_lt_F, q_eq_T, q_eq_F, true_or, or_true, or_false, false_or, false_and, and_false, ew]
    · rw [if_neg h3] at ew
      simp (disch := omega) only [Int.add_zero, Int.mul_zero, Int.reduceMul, Int.reduceAdd, Int.mul_one, Int.tdiv_eq_ediv_of_nonneg, Int.tmod_eq_emod_of_nonneg, ↓reduceIte, ↓zLet_eq, ↓zRd_ok, ↓zWr_ok, ↓zC_V, ↓zC_I, ↓zC_J, zUp_at, zUp_ne, q_up_at, q_up_ne, w32_of, w64_of, q_le_T, q_le_F, q_lt_T, q_lt_F, q_eq_T, q_eq_F, true_or, or_true, or_false, false_or, false_and, and_false, ew]
theorem face_filling (h : z_rest m dl a κ μ) (hx : q_i32 x) (hy : q_i32 y) (hz : q_i32 z) : z_face [(eIOB, 1), (eIAE, 2), (eNSE, 3)] m dl a κ μ (F_Ledger_filling x y z κ) (F_Model_filling x y z μ) := by
  obtain ⟨hf, h6, hdl, ht, ⟨m5, m6, m11, ha⟩, ⟨k3, k4, k11⟩, hi, hq, hs⟩ := h.all
  obtain ⟨M, C⟩ := h
  have hb : b_bk dl (μ 2) (μ 5) (zVw plNB κ) := hs.1.1
  have hxx := hx
  obtain ⟨x1, x2⟩ := hxx
  obtain ⟨y1, y2⟩ := hy
  obtain ⟨z1, z2⟩ := hz
  by_cases gx : -1 ≤ x ∧ x < dl
  · have eY := kY_don k4 hdl gx.1 gx.2
    by_cases gy : 0 ≤ y ∧ y ≤ 99999
    · by_cases gz : 0 ≤ z ∧ z ≤ 5
      · obtain ⟨κ', rc, fc, g0, g1, g2, g3, g4, g5⟩ := k_measureAt (d := x) (sum := y) hb hi hdl (by omega) (by omega) ht gx.1 gx.2 gy.1 gy.2
        have hcfr : c_fr κ κ' := c_fr.of (fun c hc => fc c (by omega))
        -- the reference
        obtain ⟨μ4, r4, f4, g11, g12⟩ := m_putsAside (zUp μ 0 0 0)
        have e2 : μ4 2 = μ 2 := by rw [f4 2 (by decide) (by decide) (by decide), zUp_ne (by decide)]
        have e5 : μ4 5 = μ 5 := by rw [f4 5 (by decide) (by decide) (by decide), zUp_ne (by decide)]
        have lo := m_ladderOf (μ := μ4) (d := x) (by rw [e2]; exact ht) gx.1 (by omega)
        rw [e2] at lo
        have hl0 : 0 ≤ q_lo (μ 2) x ∧ q_lo (μ 2) x < 8 := by rcases q_lo_in (tm := μ 2) gx.1 (show x < 6 by omega) with h | h <;> omega
        obtain ⟨b0, b1, b2, b3⟩ := q_lbd hi (by omega) (by omega) hl0.1 hl0.2
        obtain ⟨c0, c1⟩ := q_lbd1 hi (by omega) (by omega)
        obtain ⟨μ5, r5, f5, k5, a35, a36, s0, s1, s2, s3, g5'⟩ := m_fills (μ := μ4) (l := q_lo (μ 2) x) (b := q_lb (μ 2) x) (sum := y) hl0.1 hl0.2 (by rcases q_lo_in (tm := μ 2) gx.1 (show x < 6 by omega) with h | h <;> omega) (by rw [e2]; exact ht) gy.1 gy.2 (by rw [e5]; exact b0) (by rw [e5]; exact b1) (by rw [e5]; exact b2) (by rw [e5]; exact b3) (by rw [e5]; exact c0) (by rw [e5]; exact c1)
        rw [e2, e5] at a35 a36 s2 s3
        rw [e5] at s0 s1
        have zr : q_z 92 (μ 5) ∧ q_z 1206 (μ 6) ∧ q_z 1206 (μ 7) := ⟨M.1.2.2.2.1, M.1.2.2.2.2.1, M.1.2.2.2.2.2.1⟩
        have z5 : q_z 92 (μ5 5) := by
          rw [g5', e5, e2]
          intro k hk
          rw [q_fl_at (by omega) hl0.1 hl0.2]
          exact zr.1 k hk
        have e56 : μ5 6 = μ 6 := by rw [f5 6 (by decide) (by decide) (by decide), f4 6 (by decide) (by decide) (by decide), zUp_ne (by decide)]
        have e57 : μ5 7 = μ 7 := by rw [f5 7 (by decide) (by decide) (by decide), f4 7 (by decide) (by decide) (by decide), zUp_ne (by decide)]
        have q11 : ∀ k, 0 ≤ k → k < 92 → μ5 11 k = μ 5 k := fun k k0 k1 => by rw [f5 11 (by decide) (by decide) (by decide), g11 k k0 k1, zUp_ne (by decide)]
        have q12 : ∀ k, 0 ≤ k → k < 1206 → μ5 12 k = μ 6 k ∧ μ5 13 k = μ 7 k := fun k k0 k1 => by
          rw [f5 12 (by decide) (by decide) (by decide), f5 13 (by decide) (by decide) (by decide), (g12 k k0 k1).1, (g12 k k0 k1).2, zUp_ne (by decide), zUp_ne (by decide)]
          exact ⟨rfl, rfl⟩
        obtain ⟨μ6, r6, f6, h5, h6', h7⟩ := m_comesBack (μ := μ5) (s := μ 5) (p := μ 6) (g := μ 7) q11 q12 z5 (by rw [e56]; exact zr.2.1) (by rw [e57]; exact zr.2.2) zr.1 zr.2.1 zr.2.2
        have e60 : ∀ k, k ≠ 35 → k ≠ 36 → μ6 0 k = zUp μ 0 0 0 0 k := fun k a b => by rw [f6 0 (by decide) (by decide) (by decide), k5 k a b, f4 0 (by decide) (by decide) (by decide)]
        have ec : ∀ c, 1 ≤ c → c ≤ 10 → μ6 c = μ c := fun c c0 c1 => by
          by_cases h5c : c = 5
          · rw [h5c]; exact h5
          · by_cases h6c : c = 6
            · rw [h6c]; exact h6'
            · by_cases h7c : c = 7
              · rw [h7c]; exact h7
              · rw [f6 c h5c h6c h7c, f5 c (by omega) h5c (by omega), f4 c (by omega) (by omega) (by omega), zUp_ne (by omega)]
        have hat : m_at m dl a μ6 := M.cong (fun c c0 c1 => ec c (by omega) c1) (fun k hk => by rw [e60 k (by omega) (by omega), zUp_at, q_up_ne (by omega)])
        have hfr : m_fr μ μ6 := ⟨fun c hc => by
          by_cases hle : c ≤ 10
          · exact ec c (by omega) hle
          · rw [f6 c (by omega) (by omega) (by omega), f5 c (by omega) (by omega) (by omega), f4 c (by omega) (by omega) (by omega), zUp_ne (by omega)], fun k hk => by rw [e60 k (by omega) (by omega), zUp_at, q_up_ne (by omega)]⟩
        have h00 : μ6 0 0 = 0 := by rw [e60 0 (by decide) (by decide), zUp_at, q_up_at]
        have i35 : μ6 0 35 = q_fM (μ 2) (q_lo (μ 2) x) (q_lb (μ 2) x) y (μ 5) := by rw [f6 0 (by decide) (by decide) (by decide), a35]
        have i36 : μ6 0 36 = y - q_fM (μ 2) (q_lo (μ 2) x) (q_lb (μ 2) x) y (μ 5) := by rw [f6 0 (by decide) (by decide) (by decide), a36]
        have i22 : μ6 22 = μ5 22 := f6 22 (by decide) (by decide) (by decide)
        have eM : F_Model_filling x y z μ = (if z = 4 then (some (.inr (some (zJ (μ6 0 35))), μ6)) else (if z = 5 then (some (.inr (some (zJ (μ6 0 36))), μ6)) else (zRd μ6 22 4 z (fun x18 => some (.inr (some (zJ x18)), μ6))))) := by
          unfold F_Model_filling J_Model_filling_56 J_Model_filling_91
          rcases q_lo_in (tm := μ 2) gx.1 (show x < 6 by omega) with ⟨l1, l2⟩ | ⟨l1, l2, l3⟩
          · rw [l2] at r5
            simp (disch := omega) only [Int.add_zero, Int.mul_zero, Int.reduceMul, Int.reduceAdd, Int.mul_one, Int.tdiv_eq_ediv_of_nonneg, Int.tmod_eq_emod_of_nonneg, ↓reduceIte, ↓zLet_eq, ↓zRd_ok, ↓zWr_ok, ↓zC_V, ↓zC_I, ↓zC_J, zUp_at, zUp_ne, q_up_at, q_up_ne, w32_of, w64_of, q_le_T, q_le_F, q_lt_T, q_lt_F, q_eq_T, q_eq_F, true_or, or_true, or_false, false_or, false_and, and_false, z_isInY, r4, lo, r5, r6]
          · rw [l2] at r5
            simp (disch := omega) only [Int.add_zero, Int.mul_zero, Int.reduceMul, Int.reduceAdd, Int.mul_one, Int.tdiv_eq_ediv_of_nonneg, Int.tmod_eq_emod_of_nonneg, ↓reduceIte, ↓zLet_eq, ↓zRd_ok, ↓zWr_ok, ↓zC_V, ↓zC_I, ↓zC_J, zUp_at, zUp_ne, q_up_at, q_up_ne, w32_of, w64_of, q_le_T, q_le_F, q_lt_T, q_lt_F, q_eq_T, q_eq_F, true_or, or_true, or_false, false_or, false_and, and_false, z_isInY, r4, lo, r5, r6]
        have eC : F_Ledger_filling x y z κ = some (.inr (some (zJ (κ' 19 z))), κ') := by
          unfold F_Ledger_filling
          simp (disch := omega) only [Int.add_zero, Int.mul_zero, Int.reduceMul, Int.reduceAdd, Int.mul_one, Int.tdiv_eq_ediv_of_nonneg, Int.tmod_eq_emod_of_nonneg, ↓reduceIte, ↓zLet_eq, ↓zRd_ok, ↓zWr_ok, ↓zC_V, ↓zC_I, ↓zC_J, zUp_at, zUp_ne, q_up_at, q_up_ne, w32_of, w64_of, q_le_T, q_le_F, q_lt_T, q_lt_F, q_eq_T, q_eq_F, true_or, or_true, or_false, false_or, false_and, and_false, eY, rc]
        rw [eM, eC]
        have hval : ∀ v, κ' 19 z = v → (if z = 4 then (some (.inr (some (zJ (μ6 0 35))), μ6)) else (if z = 5 then (some (.inr (some (zJ (μ6 0 36))), μ6)) else (zRd μ6 22 4 z (fun x18 => some (.inr (some (zJ x18)), μ6))))) = some (.inr (some (zJ v)), μ6) → z_face [(eIOB, 1), (eIAE, 2), (eNSE, 3)] m dl a κ μ (some (.inr (some (zJ (κ' 19 z))), κ')) (if z = 4 then (some (.inr (some (zJ (μ6 0 35))), μ6)) else (if z = 5 then (some (.inr (some (zJ (μ6 0 36))), μ6)) else (zRd μ6 22 4 z (fun x18 => some (.inr (some (zJ x18)), μ6))))) := fun v e1 e2 => z_face.ok (v := zJ v) (by rw [e1]) e2 hcfr hfr hat h00
        by_cases w0 : z = 0
        · subst w0
          exact hval _ g0 (by simp (disch := omega) only [Int.add_zero, Int.mul_zero, Int.reduceMul, Int.reduceAdd, Int.mul_one, Int.tdiv_eq_ediv_of_nonneg, Int.tmod_eq_emod_of_nonneg, ↓reduceIte, ↓zLet_eq, ↓zRd_ok, ↓zWr_ok, ↓zC_V, ↓zC_I, ↓zC_J, zUp_at, zUp_ne, q_up_at, q_up_ne, w32_of, w64_of, q_le_T, q_le_F, q_lt_T, q_lt_F, q_eq_T, q_eq_F, true_or, or_true, or_false, false_or, false_and, and_false, i22, s0])
        by_cases w1 : z = 1
        · subst w1
          exact hval _ g1 (by simp (disch := omega) only [Int.add_zero, Int.mul_zero, Int.reduceMul, Int.reduceAdd, Int.mul_one, Int.tdiv_eq_ediv_of_nonneg, Int.tmod_eq_emod_of_nonneg, ↓reduceIte, ↓zLet_eq, ↓zRd_ok, ↓zWr_ok, ↓zC_V, ↓zC_I, ↓zC_J, zUp_at, zUp_ne, q_up_at, q_up_ne, w32_of, w64_of, q_le_T, q_le_F, q_lt_T, q_lt_F, q_eq_T, q_eq_F, true_or, or_true, or_false, false_or, false_and, and_false, i22, s1])
        by_cases w2 : z = 2
        · subst w2
          exact hval _ g2 (by simp (disch := omega) only [Int.add_zero, Int.mul_zero, Int.reduceMul, Int.reduceAdd, Int.mul_one, Int.tdiv_eq_ediv_of_nonneg, Int.tmod_eq_emod_of_nonneg, ↓reduceIte, ↓zLet_eq, ↓zRd_ok, ↓zWr_ok, ↓zC_V, ↓zC_I, ↓zC_J, zUp_at, zUp_ne, q_up_at, q_up_ne, w32_of, w64_of, q_le_T, q_le_F, q_lt_T, q_lt_F, q_eq_T, q_eq_F, true_or, or_true, or_false, false_or, false_and, and_false, i22, s2])
        by_cases w3 : z = 3
        · subst w3
          exact hval _ g3 (by simp (disch := omega) only [Int.add_zero, Int.mul_zero, Int.reduceMul, Int.reduceAdd, Int.mul_one, Int.tdiv_eq_ediv_of_nonneg, Int.tmod_eq_emod_of_nonneg, ↓reduceIte, ↓zLet_eq, ↓zRd_ok, ↓zWr_ok, ↓zC_V, ↓zC_I, ↓zC_J, zUp_at, zUp_ne, q_up_at, q_up_ne, w32_of, w64_of, q_le_T, q_le_F, q_lt_T, q_lt_F, q_eq_T, q_eq_F, true_or, or_true, or_false, false_or, false_and, and_false, i22, s3])
        by_cases w4 : z = 4
        · subst w4
          exact hval _ g4 (by simp (disch := omega) only [Int.add_zero, Int.mul_zero, Int.reduceMul, Int.reduceAdd, Int.mul_one, Int.tdiv_eq_ediv_of_nonneg, Int.tmod_eq_emod_of_nonneg, ↓reduceIte, ↓zLet_eq, ↓zRd_ok, ↓zWr_ok, ↓zC_V, ↓zC_I, ↓zC_J, zUp_at, zUp_ne, q_up_at, q_up_ne, w32_of, w64_of, q_le_T, q_le_F, q_lt_T, q_lt_F, q_eq_T, q_eq_F, true_or, or_true, or_false, false_or, false_and, and_false, i35])
        obtain rfl : z = 5 := by omega
        exact hval _ g5 (by simp (disch := omega) only [Int.add_zero, Int.mul_zero, Int.reduceMul, Int.reduceAdd, Int.mul_one, Int.tdiv_eq_ediv_of_nonneg, Int.tmod_eq_emod_of_nonneg, ↓reduceIte, ↓zLet_eq, ↓zRd_ok, ↓zWr_ok, ↓zC_V, ↓zC_I, ↓zC_J, zUp_at, zUp_ne, q_up_at, q_up_ne, w32_of, w64_of, q_le_T, q_le_F, q_lt_T, q_lt_F, q_eq_T, q_eq_F, true_or, or_true, or_false, false_or, false_and, and_false, i36])
      · refine z_face.th (v := zJ 0) (E := eNSE) (n := 3) M ?_ ?_ (by decide) (by decide +kernel)
        · unfold F_Ledger_filling J_Ledger_filling_43
          by_cases h0 : z < 0
          · simp (disch := omega) only [Int.add_zero, Int.mul_zero, Int.reduceMul, Int.reduceAdd, Int.mul_one, Int.tdiv_eq_ediv_of_nonneg, Int.tmod_eq_emod_of_nonneg, ↓reduceIte, ↓zLet_eq, ↓zRd_ok, ↓zWr_ok, ↓zC_V, ↓zC_I, ↓zC_J, zUp_at, zUp_ne, q_up_at, q_up_ne, w32_of, w64_of, q_le_T, q_le_F, q_lt_T, q_lt_F, q_eq_T, q_eq_F, true_or, or_true, or_false, false_or, false_and, and_false, eY]
          · simp (disch := omega) only [Int.add_zero, Int.mul_zero, Int.reduceMul, Int.reduceAdd, Int.mul_one, Int.tdiv_eq_ediv_of_nonneg, Int.tmod_eq_emod_of_nonneg, ↓reduceIte, ↓zLet_eq, ↓zRd_ok, ↓zWr_ok, ↓zC_V, ↓zC_I, ↓zC_J, zUp_at, zUp_ne, q_up_at, q_up_ne, w32_of, w64_of, q_le_T, q_le_F, q_lt_T, q_lt_F, q_eq_T, q_eq_F, true_or, or_true, or_false, false_or, false_and, and_false, eY]
        · unfold F_Model_filling J_Model_filling_56
          simp (disch := omega) only [Int.add_zero, Int.mul_zero, Int.reduceMul, Int.reduceAdd, Int.mul_one, Int.tdiv_eq_ediv_of_nonneg, Int.tmod_eq_emod_of_nonneg, ↓reduceIte, ↓zLet_eq, ↓zRd_ok, ↓zWr_ok, ↓zC_V, ↓zC_I, ↓zC_J, zUp_at, zUp_ne, q_up_at, q_up_ne, w32_of, w64_of, q_le_T, q_le_F, q_lt_T, q_lt_F, q_eq_T, q_eq_F, true_or, or_true, or_false, false_or, false_and, and_false, z_isInY, z_isInN]
    · refine z_face.th (v := zJ 0) (E := eIAE) (n := 2) M ?_ ?_ (by decide) (by decide +kernel)
      · unfold F_Ledger_filling J_Ledger_filling_26
        by_cases h0 : y < 0
        · simp (disch := omega) only [Int.add_zero, Int.mul_zero, Int.reduceMul, Int.reduceAdd, Int.mul_one, Int.tdiv_eq_ediv_of_nonneg, Int.tmod_eq_emod_of_nonneg, ↓reduceIte, ↓zLet_eq, ↓zRd_ok, ↓zWr_ok, ↓zC_V, ↓zC_I, ↓zC_J, zUp_at, zUp_ne, q_up_at, q_up_ne, w32_of, w64_of, q_le_T, q_le_F, q_lt_T, q_lt_F, q_eq_T, q_eq_F, true_or, or_true, or_false, false_or, false_and, and_false, eY]
        · simp (disch := omega) only [Int.add_zero, Int.mul_zero, Int.reduceMul, Int.reduceAdd, Int.mul_one, Int.tdiv_eq_ediv_of_nonneg, Int.tmod_eq_emod_of_nonneg, ↓reduceIte, ↓zLet_eq, ↓zRd_ok, ↓zWr_ok, ↓zC_V, ↓zC_I, ↓zC_J, zUp_at, zUp_ne, q_up_at, q_up_ne, w32_of, w64_of, q_le_T, q_le_F, q_lt_T, q_lt_F, q_eq_T, q_eq_F, true_or, or_true, or_false, false_or, false_and, and_false, eY]
      · unfold F_Model_filling J_Model_filling_56
        simp (disch := omega) only [Int.add_zero, Int.mul_zero, Int.reduceMul, Int.reduceAdd, Int.mul_one, Int.tdiv_eq_ediv_of_nonneg, Int.tmod_eq_emod_of_nonneg, ↓reduceIte, ↓zLet_eq, ↓zRd_ok, ↓zWr_ok, ↓zC_V, ↓zC_I, ↓zC_J, zUp_at, zUp_ne, q_up_at, q_up_ne, w32_of, w64_of, q_le_T, q_le_F, q_lt_T, q_lt_F, q_eq_T, q_eq_F, true_or, or_true, or_false, false_or, false_and, and_false, z_isInY, z_isInN]
  · have eY := kN_don k4 hdl hx (by omega)
    refine z_face.th (v := zJ 0) (E := eIOB) (n := 1) M ?_ ?_ (by decide) (by decide +kernel)
    · unfold F_Ledger_filling
      simp (disch := omega) only [Int.add_zero, Int.mul_zero, Int.reduceMul, Int.reduceAdd, Int.mul_one, Int.tdiv_eq_ediv_of_nonneg, Int.tmod_eq_emod_of_nonneg, ↓reduceIte, ↓zLet_eq, ↓zRd_ok, ↓zWr_ok, ↓zC_V, ↓zC_I, ↓zC_J, zUp_at, zUp_ne, q_up_at, q_up_ne, w32_of, w64_of, q_le_T, q_le_F, q_lt_T, q_lt_F, q_eq_T, q_eq_F, true_or, or_true, or_false, false_or, false_and, and_false, eY]
    · unfold F_Model_filling J_Model_filling_56
      simp (disch := omega) only [Int.add_zero, Int.mul_zero, Int.reduceMul, Int.reduceAdd, Int.mul_one, Int.tdiv_eq_ediv_of_nonneg, Int.tmod_eq_emod_of_nonneg, ↓reduceIte, ↓zLet_eq, ↓zRd_ok, ↓zWr_ok, ↓zC_V, ↓zC_I, ↓zC_J, zUp_at, zUp_ne, q_up_at, q_up_ne, w32_of, w64_of, q_le_T, q_le_F, q_lt_T, q_lt_F, q_eq_T, q_eq_F, true_or, or_true, or_false, false_or, false_and, and_false, z_isInN]
end FC
