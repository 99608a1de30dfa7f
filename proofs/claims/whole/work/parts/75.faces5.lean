/-! ===== faces: share, drift ===== -/
section FH
variable {m dl a : Nat} {B d sum : Int} {ex s : Int → Int} {κ μ : ZMem} {x y z : Int}
theorem k_weigh (h : r_rg m ex s (zVw plNR κ)) (hi : q_iI m B s) (h6 : m ≤ 6) (d0 : -1 ≤ d) (d1 : d < 6) : ∃ κ', (∀ K X, zCm plNR κ (F_Register_weighFor d (zVw plNR κ)) (zkV K) X = K κ') ∧ (∀ c, c ≠ 26 → κ' c = κ c) ∧ ∀ i : Nat, i < m → κ' 26 i = q_wg ex s d i := by
  have e := r_weighFor (d := d) h hi h6 d0 d1
  refine ⟨zMg plNR κ (q_fi (zVw plNR κ) 6 (q_wg ex s d) m), fun K X => by rw [e, zCm_V], fun c hc => zMg_fr (bad := [6]) (fun j hj => q_fi_ne (fun e => hj (by simp [e]))) (fun hm => ?_), fun i hi' => ?_⟩
  · have : c = 26 := by simpa [zRho] using hm
    exact hc this
  · rw [zMg_in (j := 6) (by decide), q_fi_in (by omega) (by omega)]
theorem k_split {w : Int → Int} (hm : κ 20 8 = m) (h6 : m ≤ 6) (hw : ∀ i : Nat, i < m → κ 26 i = w i ∧ 0 ≤ w i ∧ w i ≤ 9999) (hs0 : 0 ≤ sum) (hs1 : sum ≤ 10000000000000) : ∃ κ', (∀ K X, zCm plNR κ (F_Register_split sum (zVw plNR κ)) (zkV K) X = K κ') ∧ (∀ c, c ≠ 27 → c ≠ 28 → κ' c = κ c) ∧ ∀ i : Nat, i < m → κ' 27 i = q_shr m w sum i := by
  obtain ⟨ν, e, f, g⟩ := r_split (ν := zVw plNR κ) (w := w) (sum := sum) hm h6 hw hs0 hs1
  refine ⟨zMg plNR κ ν, fun K X => by rw [e, zCm_V], fun c hc hc' => zMg_fr (bad := [7, 8]) (fun j hj => f j (fun e => hj (by simp [e])) (fun e => hj (by simp [e]))) (fun hm => ?_), fun i hi' => ?_⟩
  · have : c = 27 ∨ c = 28 := by simpa [zRho] using hm
    omega
  · rw [zMg_in (j := 7) (by decide)]
    exact g i hi'
theorem k_shares (h : r_rg m ex s (zVw plNR κ)) (hi : q_iI m B s) (h6 : m ≤ 6) (d0 : -1 ≤ d) (d1 : d < 6) (hs0 : 0 ≤ sum) (hs1 : sum ≤ 10000000000000) : ∃ κ1 κ', (∀ K X, zCm plNR κ (F_Register_weighFor d (zVw plNR κ)) (zkV K) X = K κ1) ∧ (∀ K X, zCm plNR κ1 (F_Register_split sum (zVw plNR κ1)) (zkV K) X = K κ') ∧ κ1 20 = κ 20 ∧ (∀ c, c ≠ 26 → c ≠ 27 → c ≠ 28 → κ' c = κ c) ∧ ∀ i : Nat, i < m → κ' 27 i = q_shr m (q_wg ex s d) sum i := by
  obtain ⟨κ1, e1, f1, g1⟩ := k_weigh (κ := κ) (d := d) h hi h6 d0 d1
  have e20 : κ 20 8 = m := h.2.2.1
  obtain ⟨κ2, e2, f2, g2⟩ := k_split (κ := κ1) (m := m) (w := q_wg ex s d) (sum := sum) (by rw [f1 20 (by decide)]; exact e20) h6 (fun i hi' => ⟨g1 i hi', q_wg_nn hi i hi'⟩) hs0 hs1
  exact ⟨κ1, κ2, e1, e2, f1 20 (by decide), fun c a b d => (f2 c b d).trans (f1 c a), g2⟩
theorem m_gotAll (hm : μ 0 5 = m) (h6 : m ≤ 6) : F_Model_gotAll μ = some (.inr (some (zJ (q_sm (fun i => μ 5 (5 * i + 3)) m))), μ) := by
  unfold F_Model_gotAll
  refine q_acc (L := fun n a j => L_Model_gotAll_4 μ (fun k6 => some (.inr (some (zJ k6)), μ)) n a j) (f := fun i => μ 5 (5 * i + 3)) (K := fun k6 => some (.inr (some (zJ k6)), μ)) (fun n a j hj => ?_) (fun n a => ?_) (zN_gt (by omega))
  · simp (disch := omega) only [L_Model_gotAll_4, Int.add_zero, Int.mul_zero, Int.reduceMul, Int.reduceAdd, Int.mul_one, Int.tdiv_eq_ediv_of_nonneg, Int.tmod_eq_emod_of_nonneg, ↓reduceIte, ↓zLet_eq, ↓zRd_ok, ↓zWr_ok, ↓zC_V, ↓zC_I, ↓zC_J, zUp_at, zUp_ne, q_up_at, q_up_ne, w32_of, w64_of, q_le_T, q_le_F, q_lt_T, q_lt_F, q_eq_T, q_eq_F, true_or, or_true, or_false, false_or, false_and, and_false, m_placeOf, hm]
  · simp (disch := omega) only [L_Model_gotAll_4, Int.add_zero, Int.mul_zero, Int.reduceMul, Int.reduceAdd, Int.mul_one, Int.tdiv_eq_ediv_of_nonneg, Int.tmod_eq_emod_of_nonneg, ↓reduceIte, ↓zLet_eq, ↓zRd_ok, ↓zWr_ok, ↓zC_V, ↓zC_I, ↓zC_J, zUp_at, zUp_ne, q_up_at, q_up_ne, w32_of, w64_of, q_le_T, q_le_F, q_lt_T, q_lt_F, q_eq_T, q_eq_F, true_or, or_true, or_false, false_or, false_and, and_false, hm]
theorem face_share (h : z_rest m dl a κ μ) (hx : q_i32 x) (hy : q_i32 y) (hz : q_i32 z) : z_face [(eIOB, 1), (eIAE, 2)] m dl a κ μ (F_Ledger_share x y z κ) (F_Model_share x y z μ) := by
  obtain ⟨hf, h6, hdl, ht, ⟨m5, m6, m11, ha⟩, ⟨k3, k4, k11⟩, hi, hq, hs⟩ := h.all
  obtain ⟨M, C⟩ := h
  have hr : r_rg m (μ 4) (μ 5) (zVw plNR κ) := hs.1.2
  have hyy := hy
  obtain ⟨x1, x2⟩ := hx
  obtain ⟨y1, y2⟩ := hyy
  obtain ⟨z1, z2⟩ := hz
  by_cases gx : 0 ≤ x ∧ x < m
  · have eX := kY_inv k3 h6 gx.1 gx.2
    have mX := mY_inv m5 h6 gx.1 gx.2
    by_cases gy : -1 ≤ y ∧ y < dl
    · have eY := kY_don k4 hdl gy.1 gy.2
      by_cases gz : 0 ≤ z ∧ z ≤ 99999
      · obtain ⟨κ1, κ2, e1, e2, -, f, g⟩ := k_shares (κ := κ) (d := y) (sum := z) hr hi.1 h6 gy.1 (by omega) gz.1 (by omega)
        have w5 : zUp μ 0 0 0 5 = μ 5 := zUp_ne (by decide)
        have w4 : zUp μ 0 0 0 4 = μ 4 := zUp_ne (by decide)
        obtain ⟨μ', e3, f3, g3⟩ := m_byWeights (μ := zUp μ 0 0 0) (m := m) (sum := z) (d := y) (by rw [zUp_at, q_up_ne (by decide)]; exact m5) h6 gy.1 (by omega) (fun i hi' => by rw [w5]; have := hi.1 i hi'; omega) gz.1 (by omega)
        rw [w4, w5] at g3
        have v1 := g x.toNat (by omega)
        have v2 := g3 x.toNat (by omega)
        rw [Int.toNat_of_nonneg gx.1] at v1 v2
        refine z_face.ok (v := zI (q_shr m (q_wg (μ 4) (μ 5) y) z x)) (κ' := κ2) (μ' := μ') ?_ ?_ (c_fr.of (fun c hc => f c (by omega) (by omega) (by omega))) ((m_fr.up0 μ 0).tr ⟨fun c hc => f3 c (by omega) (by omega) (by omega), fun k hk => by rw [f3 0 (by decide) (by decide) (by decide)]⟩) ((M.up0 0).cong (fun c c0 c1 => f3 c (by omega) (by omega) (by omega)) (fun k hk => by rw [f3 0 (by decide) (by decide) (by decide)])) (by rw [f3 0 (by decide) (by decide) (by decide), zUp_at, q_up_at])
        · unfold F_Ledger_share
          simp (disch := omega) only [Int.add_zero, Int.mul_zero, Int.reduceMul, Int.reduceAdd, Int.mul_one, Int.tdiv_eq_ediv_of_nonneg, Int.tmod_eq_emod_of_nonneg, ↓reduceIte, ↓zLet_eq, ↓zRd_ok, ↓zWr_ok, ↓zC_V, ↓zC_I, ↓zC_J, zUp_at, zUp_ne, q_up_at, q_up_ne, w32_of, w64_of, q_le_T, q_le_F, q_lt_T, q_lt_F, q_eq_T, q_eq_F, true_or, or_true, or_false, false_or, false_and, and_false, eX, eY, e1, e2, v1]
        · unfold F_Model_share J_Model_share_48
          simp (disch := omega) only [Int.add_zero, Int.mul_zero, Int.reduceMul, Int.reduceAdd, Int.mul_one, Int.tdiv_eq_ediv_of_nonneg, Int.tmod_eq_emod_of_nonneg, ↓reduceIte, ↓zLet_eq, ↓zRd_ok, ↓zWr_ok, ↓zC_V, ↓zC_I, ↓zC_J, zUp_at, zUp_ne, q_up_at, q_up_ne, w32_of, w64_of, q_le_T, q_le_F, q_lt_T, q_lt_F, q_eq_T, q_eq_F, true_or, or_true, or_false, false_or, false_and, and_false, mX, z_isInY, e3, v2]
      · refine z_face.th (v := zI 0) (E := eIAE) (n := 2) M ?_ ?_ (by decide) (by decide +kernel)
        · unfold F_Ledger_share J_Ledger_share_34
          by_cases h0 : z < 0
          · simp (disch := omega) only [Int.add_zero, Int.mul_zero, Int.reduceMul, Int.reduceAdd, Int.mul_one, Int.tdiv_eq_ediv_of_nonneg, Int.tmod_eq_emod_of_nonneg, ↓reduceIte, ↓zLet_eq, ↓zRd_ok, ↓zWr_ok, ↓zC_V, ↓zC_I, ↓zC_J, zUp_at, zUp_ne, q_up_at, q_up_ne, w32_of, w64_of, q_le_T, q_le_F, q_lt_T, q_lt_F, q_eq_T, q_eq_F, true_or, or_true, or_false, false_or, false_and, and_false, eX, eY]
          · simp (disch := omega) only [Int.add_zero, Int.mul_zero, Int.reduceMul, Int.reduceAdd, Int.mul_one, Int.tdiv_eq_ediv_of_nonneg, Int.tmod_eq_emod_of_nonneg, ↓reduceIte, ↓zLet_eq, ↓zRd_ok, ↓zWr_ok, ↓zC_V, ↓zC_I, ↓zC_J, zUp_at, zUp_ne, q_up_at, q_up_ne, w32_of, w64_of, q_le_T, q_le_F, q_lt_T, q_lt_F, q_eq_T, q_eq_F, true_or, or_true, or_false, false_or, false_and, and_false, eX, eY]
        · unfold F_Model_share J_Model_share_48
          simp (disch := omega) only [Int.add_zero, Int.mul_zero, Int.reduceMul, Int.reduceAdd, Int.mul_one, Int.tdiv_eq_ediv_of_nonneg, Int.tmod_eq_emod_of_nonneg, ↓reduceIte, ↓zLet_eq, ↓zRd_ok, ↓zWr_ok, ↓zC_V, ↓zC_I, ↓zC_J, zUp_at, zUp_ne, q_up_at, q_up_ne, w32_of, w64_of, q_le_T, q_le_F, q_lt_T, q_lt_F, q_eq_T, q_eq_F, true_or, or_true, or_false, false_or, false_and, and_false, mX, z_isInY, z_isInN]
    · have eY := kN_don k4 hdl hy (by omega)
      refine z_face.th (v := zI 0) (E := eIOB) (n := 1) M ?_ ?_ (by decide) (by decide +kernel)
      · unfold F_Ledger_share J_Ledger_share_16
        simp (disch := omega) only [Int.add_zero, Int.mul_zero, Int.reduceMul, Int.reduceAdd, Int.mul_one, Int.tdiv_eq_ediv_of_nonneg, Int.tmod_eq_emod_of_nonneg, ↓reduceIte, ↓zLet_eq, ↓zRd_ok, ↓zWr_ok, ↓zC_V, ↓zC_I, ↓zC_J, zUp_at, zUp_ne, q_up_at, q_up_ne, w32_of, w64_of, q_le_T, q_le_F, q_lt_T, q_lt_F, q_eq_T, q_eq_F, true_or, or_true, or_false, false_or, false_and, and_false, eX, eY]
      · unfold F_Model_share J_Model_share_27 J_Model_share_48
        simp (disch := omega) only [Int.add_zero, Int.mul_zero, Int.reduceMul, Int.reduceAdd, Int.mul_one, Int.tdiv_eq_ediv_of_nonneg, Int.tmod_eq_emod_of_nonneg, ↓reduceIte, ↓zLet_eq, ↓zRd_ok, ↓zWr_ok, ↓zC_V, ↓zC_I, ↓zC_J, zUp_at, zUp_ne, q_up_at, q_up_ne, w32_of, w64_of, q_le_T, q_le_F, q_lt_T, q_lt_F, q_eq_T, q_eq_F, true_or, or_true, or_false, false_or, false_and, and_false, mX, z_isInN]
  · have eX := kN_inv k3 h6 ⟨x1, x2⟩ (by omega)
    have mX := mN_inv m5 h6 ⟨x1, x2⟩ (by omega)
    refine z_face.th (v := zI 0) (E := eIOB) (n := 1) M ?_ ?_ (by decide) (by decide +kernel)
    · unfold F_Ledger_share J_Ledger_share_16
      simp (disch := omega) only [Int.add_zero, Int.mul_zero, Int.reduceMul, Int.reduceAdd, Int.mul_one, Int.tdiv_eq_ediv_of_nonneg, Int.tmod_eq_emod_of_nonneg, ↓reduceIte, ↓zLet_eq, ↓zRd_ok, ↓zWr_ok, ↓zC_V, ↓zC_I, ↓zC_J, zUp_at, zUp_ne, q_up_at, q_up_ne, w32_of, w64_of, q_le_T, q_le_F, q_lt_T, q_lt_F, q_eq_T, q_eq_F, true_or, or_true, or_false, false_or, false_and, and_false, eX]
    · unfold F_Model_share J_Model_share_27 J_Model_share_48
      simp (disch := omega) only [Int.add_zero, Int.mul_zero, Int.reduceMul, Int.reduceAdd, Int.mul_one, Int.tdiv_eq_ediv_of_nonneg, Int.tmod_eq_emod_of_nonneg, ↓reduceIte, ↓zLet_eq, ↓zRd_ok, ↓zWr_ok, ↓zC_V, ↓zC_I, ↓zC_J, zUp_at, zUp_ne, q_up_at, q_up_ne, w32_of, w64_of, q_le_T, q_le_F, q_lt_T, q_lt_F, q_eq_T, q_eq_F, true_or, or_true, or_false, false_or, false_and, and_false, mX]
theorem face_drift (h : z_rest m dl a κ μ) (hx : q_i32 x) : z_face [(eIOB, 1)] m dl a κ μ (F_Ledger_drift x κ) (F_Model_drift x μ) := by
  obtain ⟨hf, h6, hdl, ht, ⟨m5, m6, m11, ha⟩, ⟨k3, k4, k11⟩, hi, hq, hs⟩ := h.all
  obtain ⟨M, C⟩ := h
  have hr : r_rg m (μ 4) (μ 5) (zVw plNR κ) := hs.1.2
  have hgot : ∀ i : Int, 0 ≤ i → i < m → κ 24 i = μ 5 (5 * i + 3) := hs.2.2.1
  have hten : κ 20 10 = q_sm (fun i => μ 5 (5 * i + 3)) m := hr.2.2.2.2.2
  obtain ⟨x1, x2⟩ := hx
  by_cases gx : 0 ≤ x ∧ x < m
  · have eX := kY_inv k3 h6 gx.1 gx.2
    have mX := mY_inv m5 h6 gx.1 gx.2
    have hs0 : 0 ≤ q_sm (fun i => μ 5 (5 * i + 3)) m := q_sm_nonneg (fun i hi' => (hi.1 i hi').2.2.2.1.1)
    have hs1 : q_sm (fun i => μ 5 (5 * i + 3)) m ≤ 6 * (1000000000 * (6 * a + 2 * μ 5 90)) := q_sm_bd6 h6 (by omega) (fun i hi' => (hi.1 i hi').2.2.2.1.2)
    obtain ⟨κ1, κ2, e1, e2, e20, f, g⟩ := k_shares (κ := κ) (d := -1) (sum := q_sm (fun i => μ 5 (5 * i + 3)) m) hr hi.1 h6 (by decide) (by decide) hs0 (by omega)
    have w5 : zUp μ 0 0 0 5 = μ 5 := zUp_ne (by decide)
    have w4 : zUp μ 0 0 0 4 = μ 4 := zUp_ne (by decide)
    have eg := m_gotAll (μ := zUp μ 0 0 0) (m := m) (by rw [zUp_at, q_up_ne (by decide)]; exact m5) h6
    rw [w5] at eg
    obtain ⟨μ', e3, f3, g3⟩ := m_byWeights (μ := zUp μ 0 0 0) (m := m) (sum := q_sm (fun i => μ 5 (5 * i + 3)) m) (d := -1) (by rw [zUp_at, q_up_ne (by decide)]; exact m5) h6 (by decide) (by decide) (fun i hi' => by rw [w5]; have := hi.1 i hi'; omega) hs0 (by omega)
    rw [w4, w5] at g3
    have v1 := g x.toNat (by omega)
    have v2 := g3 x.toNat (by omega)
    have v3 := hgot x gx.1 gx.2
    rw [Int.toNat_of_nonneg gx.1] at v1 v2
    have k24 : κ2 24 = κ 24 := f 24 (by decide) (by decide) (by decide)
    have m5' : μ' 5 = μ 5 := (f3 5 (by decide) (by decide) (by decide)).trans w5
    generalize hS : q_sm (fun i => μ 5 (5 * i + 3)) m = S at *
    have e20' : κ1 20 10 = S := by rw [e20]; exact hten
    refine z_face.ok (v := zJ (μ 5 (5 * x + 3) - q_shr m (q_wg (μ 4) (μ 5) (-1)) S x)) (κ' := κ2) (μ' := μ') ?_ ?_ (c_fr.of (fun c hc => f c (by omega) (by omega) (by omega))) ((m_fr.up0 μ 0).tr ⟨fun c hc => f3 c (by omega) (by omega) (by omega), fun k hk => by rw [f3 0 (by decide) (by decide) (by decide)]⟩) ((M.up0 0).cong (fun c c0 c1 => f3 c (by omega) (by omega) (by omega)) (fun k hk => by rw [f3 0 (by decide) (by decide) (by decide)])) (by rw [f3 0 (by decide) (by decide) (by decide), zUp_at, q_up_at])
    · unfold F_Ledger_drift
      simp (disch := omega) only [Int.add_zero, Int.mul_zero, Int.reduceMul, Int.reduceAdd, Int.mul_one, Int.tdiv_eq_ediv_of_nonneg, Int.tmod_eq_emod_of_nonneg, ↓reduceIte, ↓zLet_eq, ↓zRd_ok, ↓zWr_ok, ↓zC_V, ↓zC_I, ↓zC_J, zUp_at, zUp_ne, q_up_at, q_up_ne, w32_of, w64_of, q_le_T, q_le_F, q_lt_T, q_lt_F, q_eq_T, q_eq_F, true_or, or_true, or_false, false_or, false_and, and_false, eX, e1, e20', e2, v1, k24, v3]
    · unfold F_Model_drift J_Model_drift_14
      simp (disch := omega) only [Int.add_zero, Int.mul_zero, Int.reduceMul, Int.reduceAdd, Int.mul_one, Int.tdiv_eq_ediv_of_nonneg, Int.tmod_eq_emod_of_nonneg, ↓reduceIte, ↓zLet_eq, ↓zRd_ok, ↓zWr_ok, ↓zC_V, ↓zC_I, ↓zC_J, zUp_at, zUp_ne, q_up_at, q_up_ne, w32_of, w64_of, q_le_T, q_le_F, q_lt_T, q_lt_F, q_eq_T, q_eq_F, true_or, or_true, or_false, false_or, false_and, and_false, mX, eg, e3, m_placeOf, m5', v2]
  · have eX := kN_inv k3 h6 ⟨x1, x2⟩ (by omega)
    have mX := mN_inv m5 h6 ⟨x1, x2⟩ (by omega)
    refine z_face.th (v := zJ 0) (E := eIOB) (n := 1) M ?_ ?_ (by decide) (by decide +kernel)
    · unfold F_Ledger_drift
      simp (disch := omega) only [Int.add_zero, Int.mul_zero, Int.reduceMul, Int.reduceAdd, Int.mul_one, Int.tdiv_eq_ediv_of_nonneg, Int.tmod_eq_emod_of_nonneg, ↓reduceIte, ↓zLet_eq, ↓zRd_ok, ↓zWr_ok, ↓zC_V, ↓zC_I, ↓zC_J, zUp_at, zUp_ne, q_up_at, q_up_ne, w32_of, w64_of, q_le_T, q_le_F, q_lt_T, q_lt_F, q_eq_T, q_eq_F, true_or, or_true, or_false, false_or, false_and, and_false, eX]
    · unfold F_Model_drift J_Model_drift_14
      simp (disch := omega) only [Int.add_zero, Int.mul_zero, Int.reduceMul, Int.reduceAdd, Int.mul_one, Int.tdiv_eq_ediv_of_nonneg, Int.tmod_eq_emod_of_nonneg, ↓reduceIte, ↓zLet_eq, ↓zRd_ok, ↓zWr_ok, ↓zC_V, ↓zC_I, ↓zC_J, zUp_at, zUp_ne, q_up_at, q_up_ne, w32_of, w64_of, q_le_T, q_le_F, q_lt_T, q_lt_F, q_eq_T, q_eq_F, true_or, or_true, or_false, false_or, false_and, and_false, mX]
end FH
