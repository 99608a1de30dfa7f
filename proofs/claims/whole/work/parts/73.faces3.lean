/-! ===== faces: needed, reaches ===== -/
section FD
variable {tm : Int → Int} {c p g t sum : Int}
def q_cx (tm : Int → Int) (G T : Int) : Int := if tm 2 < tm 1 then q_cu (tm 1) (tm 2) G T else 0
theorem q_cx_in {G T : Int} : 0 ≤ q_cx tm G T ∧ q_cx tm G T ≤ 1000000000000 := by
  unfold q_cx
  split
  · rename_i h
    exact q_cl_bd h 100
  · omega
theorem q_s_hi (hc : 0 ≤ c) (hp : 0 ≤ p) (hb : c + p < sum) : q_s0 c sum = c ∧ q_s1 c p sum = p ∧ q_s2 tm c p g t sum = q_min (sum - (c + p)) (q_cx tm (g + p) t) ∧ q_s3 tm c p g t sum = sum - (c + p) - q_min (sum - (c + p)) (q_cx tm (g + p) t) := by
  have e0 : q_s0 c sum = c := by unfold q_s0 q_min; rw [if_pos (by omega)]
  have e1 : q_s1 c p sum = p := by unfold q_s1 q_min; rw [e0, if_pos (by omega)]
  have e2 : q_s2 tm c p g t sum = q_min (sum - (c + p)) (q_cx tm (g + p) t) := by
    unfold q_s2 q_f2 q_min q_cx
    rw [e0, e1, show sum - c - p = sum - (c + p) by omega]
    split
    · rfl
    · rw [if_pos (by omega)]
  refine ⟨e0, e1, e2, ?_⟩
  unfold q_s3
  rw [e0, e1, e2]
  omega
theorem q_s_lo (hc : 0 ≤ c) (hp : 0 ≤ p) (hs : 0 ≤ sum) (hb : sum ≤ c + p) : q_s2 tm c p g t sum = 0 ∧ q_s3 tm c p g t sum = 0 := by
  have hl : sum - q_s0 c sum - q_s1 c p sum = 0 := by
    unfold q_s1 q_min
    have : q_s0 c sum = if c ≤ sum then c else sum := rfl
    split <;> split at this <;> omega
  have e2 : q_s2 tm c p g t sum = 0 := by
    unfold q_s2
    rw [hl]
    exact q_f2_zero
  refine ⟨e2, ?_⟩
  unfold q_s3
  rw [hl, e2]
  rfl
/-- how little reaches a step -/
def q_nd (tm : Int → Int) (c p g t k : Int) : Int :=
  if k = 0 then (if 0 < c then 1 else -1) else if k = 1 then (if 0 < p ∧ c + 1 ≤ 99999 then c + 1 else -1)
  else if k = 2 then (if 0 < q_cx tm (g + p) t ∧ c + p + 1 ≤ 99999 then c + p + 1 else -1)
  else (if c + p + q_cx tm (g + p) t + 1 ≤ 99999 then c + p + q_cx tm (g + p) t + 1 else -1)
end FD
section FE
variable {m dl a : Nat} {B d sum : Int} {κ μ : ZMem} {x y z : Int}
theorem face_needed (h : z_rest m dl a κ μ) (hx : q_i32 x) (hy : q_i32 y) : z_face [(eIOB, 1), (eNSE, 2)] m dl a κ μ (F_Ledger_needed x y κ) (F_Model_needed x y μ) := by
  obtain ⟨hf, h6, hdl, ht, ⟨m5, m6, m11, ha⟩, ⟨k3, k4, k11⟩, hi, hq, hs⟩ := h.all
  obtain ⟨M, C⟩ := h
  have hb : b_bk dl (μ 2) (μ 5) (zVw plNB κ) := hs.1.1
  have hxx := hx
  obtain ⟨x1, x2⟩ := hxx
  obtain ⟨y1, y2⟩ := hy
  by_cases gx : -1 ≤ x ∧ x < dl
  · have eY := kY_don k4 hdl gx.1 gx.2
    by_cases gy : 0 ≤ y ∧ y ≤ 3
    · obtain ⟨κ', rc, fc, g0, g1, g2, g3, g4, g5⟩ := k_measureAt (d := x) (sum := 99999) hb hi hdl (by omega) (by omega) ht gx.1 gx.2 (by decide) (by decide)
      have hcfr : c_fr κ κ' := c_fr.of (fun c hc => fc c (by omega))
      have hl0 : 0 ≤ q_lo (μ 2) x ∧ q_lo (μ 2) x < 8 := by rcases q_lo_in (tm := μ 2) gx.1 (show x < 6 by omega) with h | h <;> omega
      obtain ⟨b0, b1, b2, b3⟩ := q_lbd hi (by omega) (by omega) hl0.1 hl0.2
      obtain ⟨c0, c1⟩ := q_lbd1 hi (by omega) (by omega)
      have lo : ∀ v, F_Model_ladderOf x (zUp μ 0 0 v) = some (.inr (some (zI (q_lo (μ 2) x))), zUp μ 0 0 v) := fun v => by
        have e2 : zUp μ 0 0 v 2 = μ 2 := zUp_ne (by decide)
        have := m_ladderOf (μ := zUp μ 0 0 v) (d := x) (by rw [e2]; exact ht) gx.1 (by omega)
        rw [e2] at this
        exact this
      have hcc : 0 ≤ q_cc (q_lo (μ 2) x) (q_lb (μ 2) x) (μ 5) ∧ q_cc (q_lo (μ 2) x) (q_lb (μ 2) x) (μ 5) ≤ 2000000000000 := by unfold q_cc; split <;> omega
      have hcp : 0 ≤ q_cp (q_lo (μ 2) x) (q_lb (μ 2) x) (μ 5) ∧ q_cp (q_lo (μ 2) x) (q_lb (μ 2) x) (μ 5) ≤ 2000000000000 := by unfold q_cp; split <;> omega
      have hcx := q_cx_in (tm := μ 2) (G := μ 5 (54 + 4 * q_lo (μ 2) x + 2) + q_cp (q_lo (μ 2) x) (q_lb (μ 2) x) (μ 5)) (T := μ 5 (54 + 4 * q_lo (μ 2) x + 3))
      have hst := q_st_in (tm := μ 2) (c := q_cc (q_lo (μ 2) x) (q_lb (μ 2) x) (μ 5)) (p := q_cp (q_lo (μ 2) x) (q_lb (μ 2) x) (μ 5)) (g := μ 5 (54 + 4 * q_lo (μ 2) x + 2)) (t := μ 5 (54 + 4 * q_lo (μ 2) x + 3)) (sum := 99999) hcc.1 hcp.1 (by decide)
      have hhi := q_s_hi (tm := μ 2) (c := q_cc (q_lo (μ 2) x) (q_lb (μ 2) x) (μ 5)) (p := q_cp (q_lo (μ 2) x) (q_lb (μ 2) x) (μ 5)) (g := μ 5 (54 + 4 * q_lo (μ 2) x + 2)) (t := μ 5 (54 + 4 * q_lo (μ 2) x + 3)) (sum := 99999) hcc.1 hcp.1
      have hlo := q_s_lo (tm := μ 2) (c := q_cc (q_lo (μ 2) x) (q_lb (μ 2) x) (μ 5)) (p := q_cp (q_lo (μ 2) x) (q_lb (μ 2) x) (μ 5)) (g := μ 5 (54 + 4 * q_lo (μ 2) x + 2)) (t := μ 5 (54 + 4 * q_lo (μ 2) x + 3)) (sum := 99999) hcc.1 hcp.1 (by decide)
      -- the reference's numbers
      have eR : ∀ cx, cx = q_cx (μ 2) (μ 5 (54 + 4 * q_lo (μ 2) x + 2) + q_cp (q_lo (μ 2) x) (q_lb (μ 2) x) (μ 5)) (μ 5 (54 + 4 * q_lo (μ 2) x + 3)) → F_Model_needed x y μ = J_Model_needed_166 y (q_cc (q_lo (μ 2) x) (q_lb (μ 2) x) (μ 5)) (q_cp (q_lo (μ 2) x) (q_lb (μ 2) x) (μ 5)) cx (zUp μ 0 0 0) := fun cx ecx => by
        have tail : ∀ u3, u3 = q_lo (μ 2) x → ∀ y0 y1, y1 + y0 = q_cp (q_lo (μ 2) x) (q_lb (μ 2) x) (μ 5) → ∀ cc, J_Model_needed_117 y u3 cc y0 y1 (zUp μ 0 0 0) = J_Model_needed_166 y cc (q_cp (q_lo (μ 2) x) (q_lb (μ 2) x) (μ 5)) cx (zUp μ 0 0 0) := fun u3 e3 y0 y1 ey cc => by
          subst e3
          have e2 : zUp μ 0 0 0 2 = μ 2 := zUp_ne (by decide)
          have e5 : zUp μ 0 0 0 5 = μ 5 := zUp_ne (by decide)
          have htt := ht
          obtain ⟨-, ⟨t1, t2⟩, ⟨t3, t4⟩, -⟩ := htt
          unfold J_Model_needed_117
          by_cases hk : μ 2 1 ≤ μ 2 2
          · have : cx = 0 := by rw [ecx]; exact if_neg (by omega)
            rw [this]
            simp (disch := omega) only [Int.add_zero, Int.mul_zero, Int.reduceMul, Int.reduceAdd, Int.mul_one, Int.tdiv_eq_ediv_of_nonneg, Int.tmod_eq_emod_of_nonneg, ↓reduceIte, ↓zLet_eq, ↓zRd_ok, ↓zWr_ok, ↓zC_V, ↓zC_I, ↓zC_J, zUp_at, zUp_ne, q_up_at, q_up_ne, w32_of, w64_of, q_le_T, q_le_F, q_lt_T, q_lt_F, q_eq_T, q_eq_F, true_or, or_true, or_false, false_or, false_and, and_false, ey]
          · have hcu : q_cx (μ 2) (μ 5 (54 + 4 * q_lo (μ 2) x + 2) + q_cp (q_lo (μ 2) x) (q_lb (μ 2) x) (μ 5)) (μ 5 (54 + 4 * q_lo (μ 2) x + 3)) = q_cu (μ 2 1) (μ 2 2) (μ 5 (54 + 4 * q_lo (μ 2) x + 2) + q_cp (q_lo (μ 2) x) (q_lb (μ 2) x) (μ 5)) (μ 5 (54 + 4 * q_lo (μ 2) x + 3)) := if_pos (by omega)
            have ec := m_caught (μ := zUp μ 0 0 0) (G := μ 5 (54 + 4 * q_lo (μ 2) x + 2) + q_cp (q_lo (μ 2) x) (q_lb (μ 2) x) (μ 5)) (T := μ 5 (54 + 4 * q_lo (μ 2) x + 3)) (by rw [e2]; exact t3) (by rw [e2]; omega) (by rw [e2]; exact t2) (by omega) (by omega) (by omega) (by omega)
            rw [e2, ← hcu, ← ecx] at ec
            simp (disch := omega) only [Int.add_zero, Int.mul_zero, Int.reduceMul, Int.reduceAdd, Int.mul_one, Int.tdiv_eq_ediv_of_nonneg, Int.tmod_eq_emod_of_nonneg, ↓reduceIte, ↓zLet_eq, ↓zRd_ok, ↓zWr_ok, ↓zC_V, ↓zC_I, ↓zC_J, zUp_at, zUp_ne, q_up_at, q_up_ne, w32_of, w64_of, q_le_T, q_le_F, q_lt_T, q_lt_F, q_eq_T, q_eq_F, true_or, or_true, or_false, false_or, false_and, and_false, m_ladderAt, ey, ec]
        have ecc : q_cc (q_lo (μ 2) x) (q_lb (μ 2) x) (μ 5) = μ 5 (54 + 4 * q_lo (μ 2) x) + (if q_lb (μ 2) x = 0 then 0 else μ 5 58) := rfl
        have ecp : q_cp (q_lo (μ 2) x) (q_lb (μ 2) x) (μ 5) = μ 5 (54 + 4 * q_lo (μ 2) x + 1) + (if q_lb (μ 2) x = 0 then 0 else μ 5 59) := rfl
        unfold F_Model_needed J_Model_needed_40 J_Model_needed_86
        rcases q_lo_in (tm := μ 2) gx.1 (show x < 6 by omega) with ⟨l1, l2⟩ | ⟨l1, l2, l3⟩
        · rw [if_pos l2] at ecc ecp
          simp (disch := omega) only [Int.add_zero, Int.mul_zero, Int.reduceMul, Int.reduceAdd, Int.mul_one, Int.tdiv_eq_ediv_of_nonneg, Int.tmod_eq_emod_of_nonneg, ↓reduceIte, ↓zLet_eq, ↓zRd_ok, ↓zWr_ok, ↓zC_V, ↓zC_I, ↓zC_J, zUp_at, zUp_ne, q_up_at, q_up_ne, w32_of, w64_of, q_le_T, q_le_F, q_lt_T, q_lt_F, q_eq_T, q_eq_F, true_or, or_true, or_false, false_or, false_and, and_false, z_isInY, lo, m_ladderAt]
          rw [tail (q_lo (μ 2) x) rfl 0 (μ 5 (54 + 4 * q_lo (μ 2) x + 1)) (by omega)]
          congr 1
          omega
        · rw [if_neg (show ¬ q_lb (μ 2) x = 0 by omega)] at ecc ecp
          simp (disch := omega) only [Int.add_zero, Int.mul_zero, Int.reduceMul, Int.reduceAdd, Int.mul_one, Int.tdiv_eq_ediv_of_nonneg, Int.tmod_eq_emod_of_nonneg, ↓reduceIte, ↓zLet_eq, ↓zRd_ok, ↓zWr_ok, ↓zC_V, ↓zC_I, ↓zC_J, zUp_at, zUp_ne, q_up_at, q_up_ne, w32_of, w64_of, q_le_T, q_le_F, q_lt_T, q_lt_F, q_eq_T, q_eq_F, true_or, or_true, or_false, false_or, false_and, and_false, z_isInY, lo, m_ladderAt]
          rw [tail (q_lo (μ 2) x) rfl (μ 5 59) (μ 5 (54 + 4 * q_lo (μ 2) x + 1)) (by omega)]
          congr 1
          omega
      rw [eR _ rfl]
      -- the class's loop
      have eL : ∀ K : Int → Option ZRes, ∃ v, L_Ledger_needed_67 y κ' K zN 0 0 = K v ∧ (y = 0 → v = 0) ∧ (y = 1 → v = κ' 19 0) ∧ (y = 2 → v = κ' 19 0 + κ' 19 1) ∧ (y = 3 → v = κ' 19 0 + κ' 19 1 + κ' 19 2) := fun K => by
        obtain ⟨n, hn⟩ : ∃ n, zN = n + 4 := ⟨zN - 4, by have := zN_gt (m := 4) (by omega); omega⟩
        rw [hn]
        by_cases w0 : y = 0
        · subst w0
          refine ⟨0, ?_, fun _ => rfl, by omega, by omega, by omega⟩
          simp (disch := omega) only [L_Ledger_needed_67, Int.add_zero, Int.mul_zero, Int.reduceMul, Int.reduceAdd, Int.mul_one, Int.tdiv_eq_ediv_of_nonneg, Int.tmod_eq_emod_of_nonneg, ↓reduceIte, ↓zLet_eq, ↓zRd_ok, ↓zWr_ok, ↓zC_V, ↓zC_I, ↓zC_J, zUp_at, zUp_ne, q_up_at, q_up_ne, w32_of, w64_of, q_le_T, q_le_F, q_lt_T, q_lt_F, q_eq_T, q_eq_F, true_or, or_true, or_false, false_or, false_and, and_false]
        by_cases w1 : y = 1
        · subst w1
          refine ⟨0 + κ' 19 0, ?_, by omega, by omega, by omega, by omega⟩
          simp (disch := omega) only [L_Ledger_needed_67, Int.add_zero, Int.mul_zero, Int.reduceMul, Int.reduceAdd, Int.mul_one, Int.tdiv_eq_ediv_of_nonneg, Int.tmod_eq_emod_of_nonneg, ↓reduceIte, ↓zLet_eq, ↓zRd_ok, ↓zWr_ok, ↓zC_V, ↓zC_I, ↓zC_J, zUp_at, zUp_ne, q_up_at, q_up_ne, w32_of, w64_of, q_le_T, q_le_F, q_lt_T, q_lt_F, q_eq_T, q_eq_F, true_or, or_true, or_false, false_or, false_and, and_false]
        by_cases w2 : y = 2
        · subst w2
          refine ⟨0 + κ' 19 0 + κ' 19 1, ?_, by omega, by omega, by omega, by omega⟩
          simp (disch := omega) only [L_Ledger_needed_67, Int.add_zero, Int.mul_zero, Int.reduceMul, Int.reduceAdd, Int.mul_one, Int.tdiv_eq_ediv_of_nonneg, Int.tmod_eq_emod_of_nonneg, ↓reduceIte, ↓zLet_eq, ↓zRd_ok, ↓zWr_ok, ↓zC_V, ↓zC_I, ↓zC_J, zUp_at, zUp_ne, q_up_at, q_up_ne, w32_of, w64_of, q_le_T, q_le_F, q_lt_T, q_lt_F, q_eq_T, q_eq_F, true_or, or_true, or_false, false_or, false_and, and_false]
        obtain rfl : y = 3 := by omega
        refine ⟨0 + κ' 19 0 + κ' 19 1 + κ' 19 2, ?_, by omega, by omega, by omega, by omega⟩
        simp (disch := omega) only [L_Ledger_needed_67, Int.add_zero, Int.mul_zero, Int.reduceMul, Int.reduceAdd, Int.mul_one, Int.tdiv_eq_ediv_of_nonneg, Int.tmod_eq_emod_of_nonneg, ↓reduceIte, ↓zLet_eq, ↓zRd_ok, ↓zWr_ok, ↓zC_V, ↓zC_I, ↓zC_J, zUp_at, zUp_ne, q_up_at, q_up_ne, w32_of, w64_of, q_le_T, q_le_F, q_lt_T, q_lt_F, q_eq_T, q_eq_F, true_or, or_true, or_false, false_or, false_and, and_false]
      obtain ⟨v, eLv, v0, v1, v2, v3⟩ := eL (fun k9 => some (.inr (some (zI (k9 + 1))), κ'))
      generalize q_cc (q_lo (μ 2) x) (q_lb (μ 2) x) (μ 5) = cc at *
      generalize q_cp (q_lo (μ 2) x) (q_lb (μ 2) x) (μ 5) = cp at *
      generalize q_cx (μ 2) (μ 5 (54 + 4 * q_lo (μ 2) x + 2) + cp) (μ 5 (54 + 4 * q_lo (μ 2) x + 3)) = cx at *
      generalize q_s2 (μ 2) cc cp (μ 5 (54 + 4 * q_lo (μ 2) x + 2)) (μ 5 (54 + 4 * q_lo (μ 2) x + 3)) 99999 = f2 at *
      generalize q_s3 (μ 2) cc cp (μ 5 (54 + 4 * q_lo (μ 2) x + 2)) (μ 5 (54 + 4 * q_lo (μ 2) x + 3)) 99999 = f3 at *
      have ef0 : q_s0 cc 99999 = q_min 99999 cc := rfl
      have ef1 : q_s1 cc cp 99999 = q_min (99999 - q_s0 cc 99999) cp := rfl
      generalize q_s0 cc 99999 = f0 at *
      generalize q_s1 cc cp 99999 = f1 at *
      have bb : ∀ k, 0 ≤ k → k ≤ 3 → 0 ≤ κ' 19 k ∧ κ' 19 k ≤ 99999 := fun k k0 k1 => by
        by_cases w0 : k = 0
        · subst w0; omega
        by_cases w1 : k = 1
        · subst w1; omega
        by_cases w2 : k = 2
        · subst w2; omega
        obtain rfl : k = 3 := by omega
        omega
      have by' := bb y gy.1 gy.2
      have eC0 : κ' 19 y = 0 → F_Ledger_needed x y κ = some (.inr (some (zI (-1))), κ') := fun hz => by
        unfold F_Ledger_needed
        simp (disch := omega) only [Int.add_zero, Int.mul_zero, Int.reduceMul, Int.reduceAdd, Int.mul_one, Int.tdiv_eq_ediv_of_nonneg, Int.tmod_eq_emod_of_nonneg, ↓reduceIte, ↓zLet_eq, ↓zRd_ok, ↓zWr_ok, ↓zC_V, ↓zC_I, ↓zC_J, zUp_at, zUp_ne, q_up_at, q_up_ne, w32_of, w64_of, q_le_T, q_le_F, q_lt_T, q_lt_F, q_eq_T, q_eq_F, true_or, or_true, or_false, false_or, false_and, and_false, eY, rc]
      have eC1 : κ' 19 y ≠ 0 → F_Ledger_needed x y κ = some (.inr (some (zI (v + 1))), κ') := fun hz => by
        unfold F_Ledger_needed
        simp (disch := omega) only [w32_of, w64_of, eY, ↓zC_I, q_eq_F, q_lt_F, q_lt_T, ↓reduceIte, rc, ↓zC_V, ↓zRd_ok]
        exact eLv
      have fin : ∀ r, F_Ledger_needed x y κ = some (.inr (some (zI r)), κ') → J_Model_needed_166 y cc cp cx (zUp μ 0 0 0) = some (.inr (some (zI r)), zUp μ 0 0 0) → z_face [(eIOB, 1), (eNSE, 2)] m dl a κ μ (F_Ledger_needed x y κ) (J_Model_needed_166 y cc cp cx (zUp μ 0 0 0)) := fun r e1 e2 => z_face.ok0 M e1 e2 hcfr
      have mn : ∀ A Bb : Int, q_min A Bb = if Bb ≤ A then Bb else A := fun _ _ => rfl
      by_cases w0 : y = 0
      · subst w0
        have := v0 rfl
        by_cases hz : 0 < cc
        · refine fin 1 ?_ ?_
          · rw [eC1 (by rw [g0, ef0, mn]; split <;> omega), this]; rfl
          · unfold J_Model_needed_166 J_Model_needed_213 J_Model_needed_271
            simp (disch := omega) only [Int.add_zero, Int.mul_zero, Int.reduceMul, Int.reduceAdd, Int.mul_one, Int.tdiv_eq_ediv_of_nonneg, Int.tmod_eq_emod_of_nonneg, ↓reduceIte, ↓zLet_eq, ↓zRd_ok, ↓zWr_ok, ↓zC_V, ↓zC_I, ↓zC_J, zUp_at, zUp_ne, q_up_at, q_up_ne, w32_of, w64_of, q_le_T, q_le_F, q_lt_T, q_lt_F, q_eq_T, q_eq_F, true_or, or_true, or_false, false_or, false_and, and_false]
        · refine fin (-1) (eC0 (by rw [g0, ef0, mn]; split <;> omega)) ?_
          unfold J_Model_needed_166 J_Model_needed_213 J_Model_needed_271
          simp (disch := omega) only [Int.add_zero, Int.mul_zero, Int.reduceMul, Int.reduceAdd, Int.mul_one, Int.tdiv_eq_ediv_of_nonneg, Int.tmod_eq_emod_of_nonneg, ↓reduceIte, ↓zLet_eq, ↓zRd_ok, ↓zWr_ok, ↓zC_V, ↓zC_I, ↓zC_J, zUp_at, zUp_ne, q_up_at, q_up_ne, w32_of, w64_of, q_le_T, q_le_F, q_lt_T, q_lt_F, q_eq_T, q_eq_F, true_or, or_true, or_false, false_or, false_and, and_false]
      by_cases w1 : y = 1
      · subst w1
        have := v1 rfl
        by_cases hz : 0 < cp ∧ cc < 99999
        · refine fin (cc + 1) ?_ ?_
          · rw [eC1 (by rw [g1, ef1, ef0, mn, mn]; split <;> split <;> omega), this, g0, ef0, mn, if_pos (by omega)]
          · unfold J_Model_needed_166 J_Model_needed_213 J_Model_needed_271
            simp (disch := omega) only [Int.add_zero, Int.mul_zero, Int.reduceMul, Int.reduceAdd, Int.mul_one, Int.tdiv_eq_ediv_of_nonneg, Int.tmod_eq_emod_of_nonneg, ↓reduceIte, ↓zLet_eq, ↓zRd_ok, ↓zWr_ok, ↓zC_V, ↓zC_I, ↓zC_J, zUp_at, zUp_ne, q_up_at, q_up_ne, w32_of, w64_of, q_le_T, q_le_F, q_lt_T, q_lt_F, q_eq_T, q_eq_F, true_or, or_true, or_false, false_or, false_and, and_false]
        · refine fin (-1) (eC0 (by rw [g1, ef1, ef0, mn, mn]; split <;> split <;> omega)) ?_
          unfold J_Model_needed_166 J_Model_needed_213 J_Model_needed_271
          by_cases hz2 : 0 < cp
          · simp (disch := omega) only [Int.add_zero, Int.mul_zero, Int.reduceMul, Int.reduceAdd, Int.mul_one, Int.tdiv_eq_ediv_of_nonneg, Int.tmod_eq_emod_of_nonneg, ↓reduceIte, ↓zLet_eq, ↓zRd_ok, ↓zWr_ok, ↓zC_V, ↓zC_I, ↓zC_J, zUp_at, zUp_ne, q_up_at, q_up_ne, w32_of, w64_of, q_le_T, q_le_F, q_lt_T, q_lt_F, q_eq_T, q_eq_F, true_or, or_true, or_false, false_or, false_and, and_false]
          · simp (disch := omega) only [Int.add_zero, Int.mul_zero, Int.reduceMul, Int.reduceAdd, Int.mul_one, Int.tdiv_eq_ediv_of_nonneg, Int.tmod_eq_emod_of_nonneg, ↓reduceIte, ↓zLet_eq, ↓zRd_ok, ↓zWr_ok, ↓zC_V, ↓zC_I, ↓zC_J, zUp_at, zUp_ne, q_up_at, q_up_ne, w32_of, w64_of, q_le_T, q_le_F, q_lt_T, q_lt_F, q_eq_T, q_eq_F, true_or, or_true, or_false, false_or, false_and, and_false]
      by_cases w2 : y = 2
      · subst w2
        have := v2 rfl
        by_cases hz : cc + cp < 99999
        · obtain ⟨h1, h2, h3, h4⟩ := hhi hz
          by_cases hz2 : 0 < cx
          · refine fin (cc + cp + 1) ?_ ?_
            · rw [eC1 (by rw [g2, h3, mn]; split <;> omega), this, g0, g1, h1, h2]
            · unfold J_Model_needed_166 J_Model_needed_213 J_Model_needed_266 J_Model_needed_271
              simp (disch := omega) only [Int.add_zero, Int.mul_zero, Int.reduceMul, Int.reduceAdd, Int.mul_one, Int.tdiv_eq_ediv_of_nonneg, Int.tmod_eq_emod_of_nonneg, ↓reduceIte, ↓zLet_eq, ↓zRd_ok, ↓zWr_ok, ↓zC_V, ↓zC_I, ↓zC_J, zUp_at, zUp_ne, q_up_at, q_up_ne, w32_of, w64_of, q_le_T, q_le_F, q_lt_T, q_lt_F, q_eq_T, q_eq_F, true_or, or_true, or_false, false_or, false_and, and_false]
          · refine fin (-1) (eC0 (by rw [g2, h3, mn]; split <;> omega)) ?_
            unfold J_Model_needed_166 J_Model_needed_213 J_Model_needed_266 J_Model_needed_271
            simp (disch := omega) only [Int.add_zero, Int.mul_zero, Int.reduceMul, Int.reduceAdd, Int.mul_one, Int.tdiv_eq_ediv_of_nonneg, Int.tmod_eq_emod_of_nonneg, ↓reduceIte, ↓zLet_eq, ↓zRd_ok, ↓zWr_ok, ↓zC_V, ↓zC_I, ↓zC_J, zUp_at, zUp_ne, q_up_at, q_up_ne, w32_of, w64_of, q_le_T, q_le_F, q_lt_T, q_lt_F, q_eq_T, q_eq_F, true_or, or_true, or_false, false_or, false_and, and_false]
        · obtain ⟨h1, h2⟩ := hlo (by omega)
          refine fin (-1) (eC0 (by rw [g2, h1])) ?_
          unfold J_Model_needed_166 J_Model_needed_213 J_Model_needed_266 J_Model_needed_271
          by_cases hz2 : 0 < cx
          · simp (disch := omega) only [Int.add_zero, Int.mul_zero, Int.reduceMul, Int.reduceAdd, Int.mul_one, Int.tdiv_eq_ediv_of_nonneg, Int.tmod_eq_emod_of_nonneg, ↓reduceIte, ↓zLet_eq, ↓zRd_ok, ↓zWr_ok, ↓zC_V, ↓zC_I, ↓zC_J, zUp_at, zUp_ne, q_up_at, q_up_ne, w32_of, w64_of, q_le_T, q_le_F, q_lt_T, q_lt_F, q_eq_T, q_eq_F, true_or, or_true, or_false, false_or, false_and, and_false]
          · simp (disch := omega) only [Int.add_zero, Int.mul_zero, Int.reduceMul, Int.reduceAdd, Int.mul_one, Int.tdiv_eq_ediv_of_nonneg, Int.tmod_eq_emod_of_nonneg, ↓reduceIte, ↓zLet_eq, ↓zRd_ok, ↓zWr_ok, ↓zC_V, ↓zC_I, ↓zC_J, zUp_at, zUp_ne, q_up_at, q_up_ne, w32_of, w64_of, q_le_T, q_le_F, q_lt_T, q_lt_F, q_eq_T, q_eq_F, true_or, or_true, or_false, false_or, false_and, and_false]
      obtain rfl : y = 3 := by omega
      have := v3 rfl
      by_cases hz : cc + cp < 99999
      · obtain ⟨h1, h2, h3, h4⟩ := hhi hz
        by_cases hz2 : cc + cp + cx < 99999
        · refine fin (cc + cp + cx + 1) ?_ ?_
          · rw [eC1 (by rw [g3, h4, mn]; split <;> omega), this, g0, g1, g2, h1, h2, h3, mn, if_pos (by omega)]
          · unfold J_Model_needed_166 J_Model_needed_213 J_Model_needed_266 J_Model_needed_271
            simp (disch := omega) only [Int.add_zero, Int.mul_zero, Int.reduceMul, Int.reduceAdd, Int.mul_one, Int.tdiv_eq_ediv_of_nonneg, Int.tmod_eq_emod_of_nonneg, ↓reduceIte, ↓zLet_eq, ↓zRd_ok, ↓zWr_ok, ↓zC_V, ↓zC_I, ↓zC_J, zUp_at, zUp_ne, q_up_at, q_up_ne, w32_of, w64_of, q_le_T, q_le_F, q_lt_T, q_lt_F, q_eq_T, q_eq_F, true_or, or_true, or_false, false_or, false_and, and_false]
        · refine fin (-1) (eC0 (by rw [g3, h4, mn]; split <;> omega)) ?_
          unfold J_Model_needed_166 J_Model_needed_213 J_Model_needed_266 J_Model_needed_271
          simp (disch := omega) only [Int.add_zero, Int.mul_zero, Int.reduceMul, Int.reduceAdd, Int.mul_one, Int.tdiv_eq_ediv_of_nonneg, Int.tmod_eq_emod_of_nonneg, ↓reduceIte, ↓zLet_eq, ↓zRd_ok, ↓zWr_ok, ↓zC_V, ↓zC_I, ↓zC_J, zUp_at, zUp_ne, q_up_at, q_up_ne, w32_of, w64_of, q_le_T, q_le_F, q_lt_T, q_lt_F, q_eq_T, q_eq_F, true_or, or_true, or_false, false_or, false_and, and_false]
      · obtain ⟨h1, h2⟩ := hlo (by omega)
        refine fin (-1) (eC0 (by rw [g3, h2])) ?_
        unfold J_Model_needed_166 J_Model_needed_213 J_Model_needed_266 J_Model_needed_271
        simp (disch := omega) only [Int.add_zero, Int.mul_zero, Int.reduceMul, Int.reduceAdd, Int.mul_one, Int.tdiv_eq_ediv_of_nonneg, Int.tmod_eq_emod_of_nonneg, ↓reduceIte, ↓zLet_eq, ↓zRd_ok, ↓zWr_ok, ↓zC_V, ↓zC_I, ↓zC_J, zUp_at, zUp_ne, q_up_at, q_up_ne, w32_of, w64_of, q_le_T, q_le_F, q_lt_T, q_lt_F, q_eq_T, q_eq_F, true_or, or_true, or_false, false_or, false_and, and_false]
    · refine z_face.th (v := zI 0) (E := eNSE) (n := 2) M ?_ ?_ (by decide) (by decide +kernel)
      · unfold F_Ledger_needed J_Ledger_needed_25
        by_cases h0 : y < 0
        · simp (disch := omega) only [Int.add_zero, Int.mul_zero, Int.reduceMul, Int.reduceAdd, Int.mul_one, Int.tdiv_eq_ediv_of_nonneg, Int.tmod_eq_emod_of_nonneg, ↓reduceIte, ↓zLet_eq, ↓zRd_ok, ↓zWr_ok, ↓zC_V, ↓zC_I, ↓zC_J, zUp_at, zUp_ne, q_up_at, q_up_ne, w32_of, w64_of, q_le_T, q_le_F, q_lt_T, q_lt_F, q_eq_T, q_eq_F, true_or, or_true, or_false, false_or, false_and, and_false, eY]
        · simp (disch := omega) only [Int.add_zero, Int.mul_zero, Int.reduceMul, Int.reduceAdd, Int.mul_one, Int.tdiv_eq_ediv_of_nonneg, Int.tmod_eq_emod_of_nonneg, ↓reduceIte, ↓zLet_eq, ↓zRd_ok, ↓zWr_ok, ↓zC_V, ↓zC_I, ↓zC_J, zUp_at, zUp_ne, q_up_at, q_up_ne, w32_of, w64_of, q_le_T, q_le_F, q_lt_T, q_lt_F, q_eq_T, q_eq_F, true_or, or_true, or_false, false_or, false_and, and_false, eY]
      · unfold F_Model_needed J_Model_needed_40
        simp (disch := omega) only [Int.add_zero, Int.mul_zero, Int.reduceMul, Int.reduceAdd, Int.mul_one, Int.tdiv_eq_ediv_of_nonneg, Int.tmod_eq_emod_of_nonneg, ↓reduceIte, ↓zLet_eq, ↓zRd_ok, ↓zWr_ok, ↓zC_V, ↓zC_I, ↓zC_J, zUp_at, zUp_ne, q_up_at, q_up_ne, w32_of, w64_of, q_le_T, q_le_F, q_lt_T, q_lt_F, q_eq_T, q_eq_F, true_or, or_true, or_false, false_or, false_and, and_false, z_isInY, z_isInN]
  · have eY := kN_don k4 hdl hx (by omega)
    refine z_face.th (v := zI 0) (E := eIOB) (n := 1) M ?_ ?_ (by decide) (by decide +kernel)
    · unfold F_Ledger_needed
      simp (disch := omega) only [Int.add_zero, Int.mul_zero, Int.reduceMul, Int.reduceAdd, Int.mul_one, Int.tdiv_eq_ediv_of_nonneg, Int.tmod_eq_emod_of_nonneg, ↓reduceIte, ↓zLet_eq, ↓zRd_ok, ↓zWr_ok, ↓zC_V, ↓zC_I, ↓zC_J, zUp_at, zUp_ne, q_up_at, q_up_ne, w32_of, w64_of, q_le_T, q_le_F, q_lt_T, q_lt_F, q_eq_T, q_eq_F, true_or, or_true, or_false, false_or, false_and, and_false, eY]
    · unfold F_Model_needed J_Model_needed_40
      simp (disch := omega) only [Int.add_zero, Int.mul_zero, Int.reduceMul, Int.reduceAdd, Int.mul_one, Int.tdiv_eq_ediv_of_nonneg, Int.tmod_eq_emod_of_nonneg, ↓reduceIte, ↓zLet_eq, ↓zRd_ok, ↓zWr_ok, ↓zC_V, ↓zC_I, ↓zC_J, zUp_at, zUp_ne, q_up_at, q_up_ne, w32_of, w64_of, q_le_T, q_le_F, q_lt_T, q_lt_F, q_eq_T, q_eq_F, true_or, or_true, or_false, false_or, false_and, and_false, z_isInN]
end FE
