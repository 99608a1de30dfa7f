/-! ===== the reference: a sale ===== -/
def m_kp (μ μ' : ZMem) : Prop := (∀ c, c ≠ 0 → c ≠ 5 → c ≠ 6 → c ≠ 7 → c ≠ 9 → c ≠ 10 → c ≠ 19 → c ≠ 20 → c ≠ 21 → c ≠ 22 → μ' c = μ c) ∧ (∀ k, k ≠ 14 → k ≠ 35 → k ≠ 36 → μ' 0 k = μ 0 k)
theorem m_kp.rf (μ : ZMem) : m_kp μ μ := ⟨fun _ _ _ _ _ _ _ _ _ _ _ => rfl, fun _ _ _ _ => rfl⟩
theorem m_kp.tr {a b c : ZMem} (h1 : m_kp a b) (h2 : m_kp b c) : m_kp a c :=
  ⟨fun x e0 e5 e6 e7 e9 e10 e19 e20 e21 e22 => (h2.1 x e0 e5 e6 e7 e9 e10 e19 e20 e21 e22).trans (h1.1 x e0 e5 e6 e7 e9 e10 e19 e20 e21 e22), fun k a b c => (h2.2 k a b c).trans (h1.2 k a b c)⟩
theorem m_kp.of {μ μ' : ZMem} (h : ∀ c, c ≠ 5 → c ≠ 6 → c ≠ 7 → c ≠ 9 → c ≠ 10 → c ≠ 19 → c ≠ 20 → c ≠ 21 → c ≠ 22 → μ' c = μ c) : m_kp μ μ' :=
  ⟨fun c _ e5 e6 e7 e9 e10 e19 e20 e21 e22 => h c e5 e6 e7 e9 e10 e19 e20 e21 e22, fun k _ _ _ => by rw [h 0 (by decide) (by decide) (by decide) (by decide) (by decide) (by decide) (by decide) (by decide) (by decide)]⟩
theorem m_kp.at {μ μ' : ZMem} (h : m_kp μ μ') : μ' 1 = μ 1 ∧ μ' 2 = μ 2 ∧ μ' 3 = μ 3 ∧ μ' 4 = μ 4 ∧ μ' 8 = μ 8 ∧ μ' 0 5 = μ 0 5 ∧ μ' 0 6 = μ 0 6 ∧ μ' 0 11 = μ 0 11 :=
  ⟨h.1 1 (by decide) (by decide) (by decide) (by decide) (by decide) (by decide) (by decide) (by decide) (by decide) (by decide), h.1 2 (by decide) (by decide) (by decide) (by decide) (by decide) (by decide) (by decide) (by decide) (by decide) (by decide), h.1 3 (by decide) (by decide) (by decide) (by decide) (by decide) (by decide) (by decide) (by decide) (by decide) (by decide), h.1 4 (by decide) (by decide) (by decide) (by decide) (by decide) (by decide) (by decide) (by decide) (by decide) (by decide), h.1 8 (by decide) (by decide) (by decide) (by decide) (by decide) (by decide) (by decide) (by decide) (by decide) (by decide), h.2 5 (by decide) (by decide) (by decide), h.2 6 (by decide) (by decide) (by decide), h.2 11 (by decide) (by decide) (by decide)⟩
theorem q_gt_congr {m : Nat} {pt pt' s : Int → Int} (h : ∀ i : Nat, i < m → pt i = pt' i) : q_gt m pt s = q_gt m pt' s := by
  funext k
  unfold q_gt
  split
  · have := h (k / 5).toNat (by omega)
    rw [Int.toNat_of_nonneg (by omega)] at this
    rw [this]
  · rfl
theorem q_py_congr {m : Nat} {pt pt' s : Int → Int} (h : ∀ i : Nat, i < m → pt i = pt' i) : q_py m pt s = q_py m pt' s := by
  funext k
  unfold q_py
  split
  · have := h (k / 5).toNat (by omega)
    rw [Int.toNat_of_nonneg (by omega)] at this
    rw [this]
  · rfl
theorem q_tr_congr {m : Nat} {q : Int} {pt pt' p : Int → Int} (h : ∀ i : Nat, i < m → pt i = pt' i) : q_tr m q pt p = q_tr m q pt' p := by
  funext k
  unfold q_tr
  split
  · have := h (k / 201).toNat (by omega)
    rw [Int.toNat_of_nonneg (by omega)] at this
    rw [this]
  · rfl
theorem q_sl3_at {tm s : Int → Int} {M k : Int} (h : k < 86 ∨ 89 ≤ k) : q_sl3 tm M s k = s k := by
  unfold q_sl3
  simp (disch := omega) only [Int.add_zero, Int.mul_zero, Int.reduceMul, Int.reduceAdd, Int.mul_one, Int.tdiv_eq_ediv_of_nonneg, Int.tmod_eq_emod_of_nonneg, ↓reduceIte, ↓zLet_eq, ↓zRd_ok, ↓zWr_ok, ↓zC_V, ↓zC_I, ↓zC_J, zUp_at, zUp_ne, q_up_at, q_up_ne, w32_of, w64_of, q_le_T, q_le_F, q_lt_T, q_lt_F, q_eq_T, q_eq_F, true_or, or_true, or_false, false_or, false_and, and_false]
theorem q_sl4_at {s : Int → Int} {d k : Int} (hd0 : 0 ≤ d) (hd1 : d < 6) (h : k < 30 ∨ 86 ≤ k) : q_sl4 d s k = s k := by
  unfold q_sl4
  simp (disch := omega) only [Int.add_zero, Int.mul_zero, Int.reduceMul, Int.reduceAdd, Int.mul_one, Int.tdiv_eq_ediv_of_nonneg, Int.tmod_eq_emod_of_nonneg, ↓reduceIte, ↓zLet_eq, ↓zRd_ok, ↓zWr_ok, ↓zC_V, ↓zC_I, ↓zC_J, zUp_at, zUp_ne, q_up_at, q_up_ne, w32_of, w64_of, q_le_T, q_le_F, q_lt_T, q_lt_F, q_eq_T, q_eq_F, true_or, or_true, or_false, false_or, false_and, and_false]
theorem q_sl3_gt {m : Nat} (h6 : m ≤ 6) {tm s pt : Int → Int} {M : Int} : q_sl3 tm M (q_gt m pt s) = q_gt m pt (q_sl3 tm M s) := by
  funext k
  by_cases hk : k < 30
  · rw [q_sl3_at (by omega)]
    unfold q_gt
    rw [q_sl3_at (by omega)]
  · rw [q_gt_ne (by omega)]
    unfold q_sl3
    rw [q_gt_ne (by omega)]
theorem q_sl4_gt {m : Nat} (h6 : m ≤ 6) {s pt : Int → Int} {d : Int} (hd0 : 0 ≤ d) (hd1 : d < 6) : q_sl4 d (q_gt m pt s) = q_gt m pt (q_sl4 d s) := by
  funext k
  by_cases hk : k < 30
  · rw [q_sl4_at hd0 hd1 (by omega)]
    unfold q_gt
    rw [q_sl4_at hd0 hd1 (by omega)]
  · rw [q_gt_ne (by omega)]
    unfold q_sl4
    rw [q_gt_ne (by omega), q_gt_ne (by omega), q_gt_ne (by omega)]
theorem q_sl2_at {tm s : Int → Int} {d sum k : Int} (hd0 : 0 ≤ d) (hd1 : d < 6) (h : k < 30 ∨ 86 ≤ k) : q_sl2 tm d sum s k = s k := by
  unfold q_sl2
  split
  · rw [q_fl_at (by omega) (by omega) (by omega), q_fl_at (by omega) (by omega) (by omega)]
    exact q_up_ne (by omega)
  · rw [q_fl_at (by omega) (by omega) (by omega)]
    exact q_up_ne (by omega)
theorem q_sb_at {tm s : Int → Int} {d sum last k : Int} (hd0 : 0 ≤ d) (hd1 : d < 6) (h : k < 30 ∨ 89 ≤ k) : q_sb tm d sum last s k = s k := by
  unfold q_sb
  split
  · rw [q_sl3_at (by omega), q_sl2_at hd0 hd1 (by omega)]
  · rw [q_sl4_at hd0 hd1 (by omega), q_sl3_at (by omega), q_sl2_at hd0 hd1 (by omega)]
/-- the row behind a sale, in the order in which the reference does it -/
theorem q_sell_eq {m : Nat} (h6 : m ≤ 6) {tm ex s p g fe pt : Int → Int} {d sum last : Int} (hd0 : 0 ≤ d) (hd1 : d < 6) (hpt : ∀ i : Nat, i < m → pt i = q_shr m (q_wg ex (q_sl2 tm d sum s) d) (sum - q_slM tm d sum s) i) :
    q_sell m tm ex d sum last (s, p, g, fe) = ((if last = 0 then q_sl3 tm (q_slM tm d sum s) (q_gt m pt (q_sl2 tm d sum s)) else q_sl4 d (q_sl3 tm (q_slM tm d sum s) (q_gt m pt (q_sl2 tm d sum s)))), p, q_tr m (s 90) pt g, fe) := by
  have e1 : ∀ i : Nat, i < m → q_shr m (q_wg ex (q_sb tm d sum last s) d) (sum - q_slM tm d sum s) i = pt i := fun i hi => by
    rw [hpt i hi]
    exact q_shr_congr (fun j hj => q_wg_congr (by rw [q_sb_at hd0 hd1 (by omega), q_sl2_at hd0 hd1 (by omega)]) (by rw [q_sb_at hd0 hd1 (by omega), q_sl2_at hd0 hd1 (by omega)])) i hi
  unfold q_sell q_get
  simp only []
  rw [q_gt_congr e1, q_tr_congr e1, q_sb_at hd0 hd1 (by omega)]
  congr 1
  unfold q_sb
  split
  · exact (q_sl3_gt h6).symm
  · rw [q_sl3_gt h6, q_sl4_gt h6 hd0 hd1]
theorem m_sells_37 {μ μ0 : ZMem} {m dl : Nat} {B d sum last M : Int} (hm : μ 0 5 = m) (h6 : m ≤ 6) (hdl : dl ≤ 6) (hd0 : 0 ≤ d) (hd1 : d < 6) (hi : q_inv m dl B (μ 5)) (hB0 : 0 ≤ B) (hB1 : B ≤ 900) (ht : q_tm (μ 2)) (hM : μ 0 35 = M) (hM0 : 0 ≤ M) (hM1 : M ≤ sum) (hs1 : sum ≤ 9999) (h36 : μ 0 36 = sum - M) (hdo0 : 0 ≤ μ 0 14) (hdo1 : μ 0 14 ≤ 60) (hl : last = 0 ∨ last = 1) :
    ∃ μ', J_Model_sells_37 d last μ = some (.inr none, μ') ∧ m_kp μ μ' ∧ μ' 0 14 = μ 0 14 ∧
      μ' 5 = (if last = 0 then q_sl3 (μ 2) M (q_gt m (q_shr m (q_wg (μ 4) (μ 5) d) (sum - M)) (μ 5)) else q_sl4 d (q_sl3 (μ 2) M (q_gt m (q_shr m (q_wg (μ 4) (μ 5) d) (sum - M)) (μ 5)))) ∧
      μ' 6 = μ 6 ∧ μ' 7 = q_tr m (μ 5 90) (q_shr m (q_wg (μ 4) (μ 5) d) (sum - M)) (μ 7) ∧ μ' 9 = q_up (μ 9) (μ 0 14) (sum - M) ∧ μ' 10 = q_up (μ 10) (μ 0 14) M := by
  have h5 := hi.2.2.2.1
  have hq := h5.2.2.2.2.1
  obtain ⟨μ1, e1, f1, g1, g7⟩ := m_getsAll (μ := zUp (zUp μ 9 (μ 0 14) (sum - M)) 10 (μ 0 14) M) (m := m) (sum := sum - M) (d := d) (by simp (disch := omega) only [zUp_ne]; exact hm) h6 (by omega) hd1 (fun i hii => by simp (disch := omega) only [zUp_ne]; have := hi.1 i hii; omega) (by omega) (by omega) (by simp (disch := omega) only [zUp_ne]; exact hq.1) (by simp (disch := omega) only [zUp_ne]; exact hq.2)
  simp (disch := omega) only [zUp_ne, zUp_at] at f1 g1 g7
  generalize hpt : q_shr m (q_wg (μ 4) (μ 5) d) (sum - M) = pt at g1 g7 ⊢
  have eT : μ1 2 = μ 2 := by rw [f1 2 (by decide) (by decide) (by decide) (by decide) (by decide)]; simp (disch := omega) only [zUp_ne]
  have e0 : μ1 0 = μ 0 := by rw [f1 0 (by decide) (by decide) (by decide) (by decide) (by decide)]; simp (disch := omega) only [zUp_ne]
  obtain ⟨-, -, -, -, -, ⟨c1, c2⟩, -⟩ := ht
  have hp := q_mb hM0 (show M ≤ 9999 by omega) c1 c2
  have g86 : μ1 5 86 = μ 5 86 := by rw [g1]; exact q_gt_ne (by omega)
  have g87 : μ1 5 87 = μ 5 87 := by rw [g1]; exact q_gt_ne (by omega)
  have g88 : μ1 5 88 = μ 5 88 := by rw [g1]; exact q_gt_ne (by omega)
  have e3 : ∀ s : Int → Int, q_up (q_up (q_up s 86 (s 86 + M)) 88 (s 88 + M * μ 2 5 / 100)) 87 (s 87 + (M - M * μ 2 5 / 100)) = q_sl3 (μ 2) M s := fun s => by
    funext k
    unfold q_sl3
    by_cases k86 : k = 86
    · subst k86; simp (disch := omega) only [Int.add_zero, Int.mul_zero, Int.reduceMul, Int.reduceAdd, Int.mul_one, Int.tdiv_eq_ediv_of_nonneg, Int.tmod_eq_emod_of_nonneg, ↓reduceIte, ↓zLet_eq, ↓zRd_ok, ↓zWr_ok, ↓zC_V, ↓zC_I, ↓zC_J, zUp_at, zUp_ne, q_up_at, q_up_ne, w32_of, w64_of, q_le_T, q_le_F, q_lt_T, q_lt_F, q_eq_T, q_eq_F, true_or, or_true, or_false, false_or, false_and, and_false]
    · by_cases k87 : k = 87
      · subst k87; simp (disch := omega) only [Int.add_zero, Int.mul_zero, Int.reduceMul, Int.reduceAdd, Int.mul_one, Int.tdiv_eq_ediv_of_nonneg, Int.tmod_eq_emod_of_nonneg, ↓reduceIte, ↓zLet_eq, ↓zRd_ok, ↓zWr_ok, ↓zC_V, ↓zC_I, ↓zC_J, zUp_at, zUp_ne, q_up_at, q_up_ne, w32_of, w64_of, q_le_T, q_le_F, q_lt_T, q_lt_F, q_eq_T, q_eq_F, true_or, or_true, or_false, false_or, false_and, and_false]
      · by_cases k88 : k = 88
        · subst k88; simp (disch := omega) only [Int.add_zero, Int.mul_zero, Int.reduceMul, Int.reduceAdd, Int.mul_one, Int.tdiv_eq_ediv_of_nonneg, Int.tmod_eq_emod_of_nonneg, ↓reduceIte, ↓zLet_eq, ↓zRd_ok, ↓zWr_ok, ↓zC_V, ↓zC_I, ↓zC_J, zUp_at, zUp_ne, q_up_at, q_up_ne, w32_of, w64_of, q_le_T, q_le_F, q_lt_T, q_lt_F, q_eq_T, q_eq_F, true_or, or_true, or_false, false_or, false_and, and_false]
        · simp (disch := omega) only [Int.add_zero, Int.mul_zero, Int.reduceMul, Int.reduceAdd, Int.mul_one, Int.tdiv_eq_ediv_of_nonneg, Int.tmod_eq_emod_of_nonneg, ↓reduceIte, ↓zLet_eq, ↓zRd_ok, ↓zWr_ok, ↓zC_V, ↓zC_I, ↓zC_J, zUp_at, zUp_ne, q_up_at, q_up_ne, w32_of, w64_of, q_le_T, q_le_F, q_lt_T, q_lt_F, q_eq_T, q_eq_F, true_or, or_true, or_false, false_or, false_and, and_false]
  have kp : ∀ μ' : ZMem, (∀ c, c ≠ 5 → μ' c = μ1 c) → m_kp μ μ' ∧ μ' 0 14 = μ 0 14 ∧ μ' 6 = μ 6 ∧ μ' 7 = q_tr m (μ 5 90) pt (μ 7) ∧ μ' 9 = q_up (μ 9) (μ 0 14) (sum - M) ∧ μ' 10 = q_up (μ 10) (μ 0 14) M := fun μ' hf => by
    refine ⟨m_kp.of (fun c c5 c6 c7 c9 c10 c19 c20 c21 c22 => ?_), by rw [hf 0 (by decide), e0], ?_, by rw [hf 7 (by decide), g7], ?_, ?_⟩
    · rw [hf c c5, f1 c c5 c7 c19 c20 c21, zUp_ne c10, zUp_ne c9]
    · rw [hf 6 (by decide), f1 6 (by decide) (by decide) (by decide) (by decide) (by decide), zUp_ne (by decide), zUp_ne (by decide)]
    · rw [hf 9 (by decide), f1 9 (by decide) (by decide) (by decide) (by decide) (by decide), zUp_ne (by decide), zUp_at]
    · rw [hf 10 (by decide), f1 10 (by decide) (by decide) (by decide) (by decide) (by decide), zUp_at, zUp_ne (by decide)]
  unfold J_Model_sells_37
  simp (disch := omega) only [Int.add_zero, Int.mul_zero, Int.reduceMul, Int.reduceAdd, Int.mul_one, Int.tdiv_eq_ediv_of_nonneg, Int.tmod_eq_emod_of_nonneg, ↓reduceIte, ↓zLet_eq, ↓zRd_ok, ↓zWr_ok, ↓zC_V, ↓zC_I, ↓zC_J, zUp_at, zUp_ne, q_up_at, q_up_ne, w32_of, w64_of, q_le_T, q_le_F, q_lt_T, q_lt_F, q_eq_T, q_eq_F, true_or, or_true, or_false, false_or, false_and, and_false, h36, hM]
  rw [e1]
  simp (disch := omega) only [Int.add_zero, Int.mul_zero, Int.reduceMul, Int.reduceAdd, Int.mul_one, Int.tdiv_eq_ediv_of_nonneg, Int.tmod_eq_emod_of_nonneg, ↓reduceIte, ↓zLet_eq, ↓zRd_ok, ↓zWr_ok, ↓zC_V, ↓zC_I, ↓zC_J, zUp_at, zUp_ne, q_up_at, q_up_ne, w32_of, w64_of, q_le_T, q_le_F, q_lt_T, q_lt_F, q_eq_T, q_eq_F, true_or, or_true, or_false, false_or, false_and, and_false, eT]
  rcases hl with rfl | rfl
  · simp (disch := omega) only [Int.add_zero, Int.mul_zero, Int.reduceMul, Int.reduceAdd, Int.mul_one, Int.tdiv_eq_ediv_of_nonneg, Int.tmod_eq_emod_of_nonneg, ↓reduceIte, ↓zLet_eq, ↓zRd_ok, ↓zWr_ok, ↓zC_V, ↓zC_I, ↓zC_J, zUp_at, zUp_ne, q_up_at, q_up_ne, w32_of, w64_of, q_le_T, q_le_F, q_lt_T, q_lt_F, q_eq_T, q_eq_F, true_or, or_true, or_false, false_or, false_and, and_false]
    obtain ⟨q1, q2, q3, q4, q5, q6⟩ := kp (zUp (zUp (zUp μ1 5 86 (μ1 5 86 + M)) 5 88 (μ1 5 88 + M * μ 2 5 / 100)) 5 87 (μ1 5 87 + (M - M * μ 2 5 / 100))) (fun c hc => by rw [zUp_ne hc, zUp_ne hc, zUp_ne hc])
    refine ⟨_, rfl, q1, q2, ?_, q3, q4, q5, q6⟩
    simp (disch := omega) only [zUp_at]
    rw [e3, g1]
  · obtain ⟨n, hn⟩ : ∃ n, zN = n + 3 := ⟨zN - 3, by have := zN_gt (m := 3) (by omega); omega⟩
    rw [hn]
    have hr := hi.2.2.1.1 1 (by decide)
    simp (disch := omega) only [Int.add_zero, Int.mul_zero, Int.reduceMul, Int.reduceAdd, Int.mul_one, Int.tdiv_eq_ediv_of_nonneg, Int.tmod_eq_emod_of_nonneg, ↓reduceIte, ↓zLet_eq, ↓zRd_ok, ↓zWr_ok, ↓zC_V, ↓zC_I, ↓zC_J, zUp_at, zUp_ne, q_up_at, q_up_ne, w32_of, w64_of, q_le_T, q_le_F, q_lt_T, q_lt_F, q_eq_T, q_eq_F, true_or, or_true, or_false, false_or, false_and, and_false, m_dealAt, L_Model_sells_151, m_ladderAt]
    refine ⟨_, rfl, ?_⟩
    refine (fun h => ⟨(kp _ h).1, (kp _ h).2.1, ?_, (kp _ h).2.2⟩) (fun c hc => by simp (disch := omega) only [zUp_ne])
    simp (disch := omega) only [zUp_at, zUp_ne]
    rw [e3, g1]
    have hsl : ∀ k, k < 86 → q_gt m pt (μ 5) k = q_sl3 (μ 2) M (q_gt m pt (μ 5)) k := fun k hk => (q_sl3_at (Or.inl hk)).symm
    rw [hsl 58 (by decide), hsl 59 (by decide), hsl (54 + 4 * (2 + d)) (by omega), hsl (54 + 4 * (2 + d) + 1) (by omega)]
    generalize q_sl3 (μ 2) M (q_gt m pt (μ 5)) = s
    funext k
    unfold q_sl4
    by_cases k1 : k = 30 + 4 * d + 3
    · subst k1; simp (disch := omega) only [Int.add_zero, Int.mul_zero, Int.reduceMul, Int.reduceAdd, Int.mul_one, Int.tdiv_eq_ediv_of_nonneg, Int.tmod_eq_emod_of_nonneg, ↓reduceIte, ↓zLet_eq, ↓zRd_ok, ↓zWr_ok, ↓zC_V, ↓zC_I, ↓zC_J, zUp_at, zUp_ne, q_up_at, q_up_ne, w32_of, w64_of, q_le_T, q_le_F, q_lt_T, q_lt_F, q_eq_T, q_eq_F, true_or, or_true, or_false, false_or, false_and, and_false]
    · by_cases k2 : k = 58
      · subst k2; simp (disch := omega) only [Int.add_zero, Int.mul_zero, Int.reduceMul, Int.reduceAdd, Int.mul_one, Int.tdiv_eq_ediv_of_nonneg, Int.tmod_eq_emod_of_nonneg, ↓reduceIte, ↓zLet_eq, ↓zRd_ok, ↓zWr_ok, ↓zC_V, ↓zC_I, ↓zC_J, zUp_at, zUp_ne, q_up_at, q_up_ne, w32_of, w64_of, q_le_T, q_le_F, q_lt_T, q_lt_F, q_eq_T, q_eq_F, true_or, or_true, or_false, false_or, false_and, and_false]
      · by_cases k3 : k = 59
        · subst k3; simp (disch := omega) only [Int.add_zero, Int.mul_zero, Int.reduceMul, Int.reduceAdd, Int.mul_one, Int.tdiv_eq_ediv_of_nonneg, Int.tmod_eq_emod_of_nonneg, ↓reduceIte, ↓zLet_eq, ↓zRd_ok, ↓zWr_ok, ↓zC_V, ↓zC_I, ↓zC_J, zUp_at, zUp_ne, q_up_at, q_up_ne, w32_of, w64_of, q_le_T, q_le_F, q_lt_T, q_lt_F, q_eq_T, q_eq_F, true_or, or_true, or_false, false_or, false_and, and_false]
        · by_cases k4 : k = 54 + 4 * (2 + d)
          · subst k4; simp (disch := omega) only [Int.add_zero, Int.mul_zero, Int.reduceMul, Int.reduceAdd, Int.mul_one, Int.tdiv_eq_ediv_of_nonneg, Int.tmod_eq_emod_of_nonneg, ↓reduceIte, ↓zLet_eq, ↓zRd_ok, ↓zWr_ok, ↓zC_V, ↓zC_I, ↓zC_J, zUp_at, zUp_ne, q_up_at, q_up_ne, w32_of, w64_of, q_le_T, q_le_F, q_lt_T, q_lt_F, q_eq_T, q_eq_F, true_or, or_true, or_false, false_or, false_and, and_false]
          · by_cases k5 : k = 54 + 4 * (2 + d) + 1
            · subst k5; simp (disch := omega) only [Int.add_zero, Int.mul_zero, Int.reduceMul, Int.reduceAdd, Int.mul_one, Int.tdiv_eq_ediv_of_nonneg, Int.tmod_eq_emod_of_nonneg, ↓reduceIte, ↓zLet_eq, ↓zRd_ok, ↓zWr_ok, ↓zC_V, ↓zC_I, ↓zC_J, zUp_at, zUp_ne, q_up_at, q_up_ne, w32_of, w64_of, q_le_T, q_le_F, q_lt_T, q_lt_F, q_eq_T, q_eq_F, true_or, or_true, or_false, false_or, false_and, and_false]
            · simp (disch := omega) only [Int.add_zero, Int.mul_zero, Int.reduceMul, Int.reduceAdd, Int.mul_one, Int.tdiv_eq_ediv_of_nonneg, Int.tmod_eq_emod_of_nonneg, ↓reduceIte, ↓zLet_eq, ↓zRd_ok, ↓zWr_ok, ↓zC_V, ↓zC_I, ↓zC_J, zUp_at, zUp_ne, q_up_at, q_up_ne, w32_of, w64_of, q_le_T, q_le_F, q_lt_T, q_lt_F, q_eq_T, q_eq_F, true_or, or_true, or_false, false_or, false_and, and_false]
theorem m_sells {μ : ZMem} {m dl : Nat} {B d sum last : Int} (fe : Int → Int) (hm : μ 0 5 = m) (h6 : m ≤ 6) (hdl : dl ≤ 6) (hd0 : 0 ≤ d) (hd1 : d < dl) (hi : q_inv m dl B (μ 5)) (hB0 : 0 ≤ B) (hB1 : B ≤ 800) (ht : q_tm (μ 2)) (hs0 : 0 ≤ sum) (hs1 : sum ≤ 9999) (hdo0 : 0 ≤ μ 0 14) (hdo1 : μ 0 14 ≤ 60) (hl : last = 0 ∨ last = 1) :
    ∃ μ', F_Model_sells d sum last μ = some (.inr none, μ') ∧ m_kp μ μ' ∧ μ' 0 14 = μ 0 14 ∧ (μ' 5, μ' 6, μ' 7, fe) = q_sell m (μ 2) (μ 4) d sum last (μ 5, μ 6, μ 7, fe) ∧ μ' 9 = q_up (μ 9) (μ 0 14) (sum - q_slM (μ 2) d sum (μ 5)) ∧ μ' 10 = q_up (μ 10) (μ 0 14) (q_slM (μ 2) d sum (μ 5)) := by
  have hM := q_slM_in hi h6 hdl ht hB0 hd0 hd1 hs0 hs1
  have i1 := hi.sl1 h6 hd0 (show d < 6 by omega) hs0 hs1
  have i2 := i1.fl h6 ht (by omega) (Or.inl ⟨rfl, rfl⟩) hdl hs0 hs1
  have i3 := hi.sl2 h6 hdl ht hB0 hd0 hd1 hs0 hs1
  have hbd : ∀ (s : Int → Int) (B' : Int) (l : Int), q_inv m dl B' s → B' ≤ 900 → 0 ≤ B' → 0 ≤ l → l < 8 → (0 ≤ s (54 + 4 * l) ∧ s (54 + 4 * l) ≤ 1000000000000) ∧ (0 ≤ s (54 + 4 * l + 1) ∧ s (54 + 4 * l + 1) ≤ 1000000000000) ∧ (0 ≤ s (54 + 4 * l + 2) ∧ s (54 + 4 * l + 2) ≤ 1000000000000) ∧ (0 ≤ s (54 + 4 * l + 3) ∧ s (54 + 4 * l + 3) ≤ 1000000000000) := fun s B' l h a b c e => by
    have := h.2.2.1.1 l.toNat (by omega)
    rw [Int.toNat_of_nonneg c] at this
    omega
  have e1 : zUp μ 5 (30 + 4 * d + 1) (μ 5 (30 + 4 * d + 1) + sum) 5 = q_sl1 d sum (μ 5) := zUp_at _ _ _ _
  obtain ⟨x0, x1, x2, x3⟩ := hbd _ _ 0 i1 (by omega) (by omega) (by omega) (by omega)
  obtain ⟨y0, y1, -, -⟩ := hbd _ _ 1 i1 (by omega) (by omega) (by omega) (by omega)
  obtain ⟨μ1, r1, f1, k1, a35, a36, -, -, -, -, g1⟩ := m_fills (μ := zUp μ 5 (30 + 4 * d + 1) (μ 5 (30 + 4 * d + 1) + sum)) (l := 0) (b := 0) (sum := sum) (by omega) (by omega) (Or.inl ⟨rfl, by decide⟩) (by rw [zUp_ne (by decide)]; exact ht) hs0 (by omega) (by rw [e1]; exact x0) (by rw [e1]; exact x1) (by rw [e1]; exact x2) (by rw [e1]; exact x3) (by rw [e1]; exact y0) (by rw [e1]; exact y1)
  have z2 : zUp μ 5 (30 + 4 * d + 1) (μ 5 (30 + 4 * d + 1) + sum) 2 = μ 2 := zUp_ne (by decide)
  have z0 : zUp μ 5 (30 + 4 * d + 1) (μ 5 (30 + 4 * d + 1) + sum) 0 = μ 0 := zUp_ne (by decide)
  rw [z2, e1] at a35 a36 g1
  rw [z0] at k1
  have f1' : ∀ c, c ≠ 0 → c ≠ 5 → c ≠ 22 → μ1 c = μ c := fun c c0 c5 c22 => by rw [f1 c c0 c5 c22, zUp_ne c5]
  have t1 : μ1 2 = μ 2 := f1' 2 (by decide) (by decide) (by decide)
  unfold F_Model_sells
  simp (disch := omega) only [Int.add_zero, Int.mul_zero, Int.reduceMul, Int.reduceAdd, Int.mul_one, Int.tdiv_eq_ediv_of_nonneg, Int.tmod_eq_emod_of_nonneg, ↓reduceIte, ↓zLet_eq, ↓zRd_ok, ↓zWr_ok, ↓zC_V, ↓zC_I, ↓zC_J, zUp_at, zUp_ne, q_up_at, q_up_ne, w32_of, w64_of, q_le_T, q_le_F, q_lt_T, q_lt_F, q_eq_T, q_eq_F, true_or, or_true, or_false, false_or, false_and, and_false, m_dealAt]
  rw [r1]
  simp only [↓zC_V]
  have htm := ht.2.2.2.1
  rw [m_isDealwise (by rw [t1]; exact htm.1) (by rw [t1]; exact htm.2), t1]
  by_cases h3 : μ 2 3 = 1
  · rw [if_pos h3]
    simp (disch := omega) only [Int.add_zero, Int.mul_zero, Int.reduceMul, Int.reduceAdd, Int.mul_one, Int.tdiv_eq_ediv_of_nonneg, Int.tmod_eq_emod_of_nonneg, ↓reduceIte, ↓zLet_eq, ↓zRd_ok, ↓zWr_ok, ↓zC_V, ↓zC_I, ↓zC_J, zUp_at, zUp_ne, q_up_at, q_up_ne, w32_of, w64_of, q_le_T, q_le_F, q_lt_T, q_lt_F, q_eq_T, q_eq_F, true_or, or_true, or_false, false_or, false_and, and_false]
    obtain ⟨x0, x1, x2, x3⟩ := hbd _ _ (2 + d) i2 (by omega) (by omega) (by omega) (by omega)
    obtain ⟨y0, y1, -, -⟩ := hbd _ _ 1 i2 (by omega) (by omega) (by omega) (by omega)
    obtain ⟨μ2, r2, f2, k2, b35, b36, -, -, -, -, g2⟩ := m_fills (μ := μ1) (l := 2 + d) (b := 1) (sum := sum) (by omega) (by omega) (Or.inr ⟨rfl, by omega⟩) (by rw [t1]; exact ht) hs0 (by omega) (by rw [g1]; exact x0) (by rw [g1]; exact x1) (by rw [g1]; exact x2) (by rw [g1]; exact x3) (by rw [g1]; exact y0) (by rw [g1]; exact y1)
    rw [t1, g1] at b35 b36 g2
    have eM : q_fM (μ 2) (2 + d) 1 sum (q_fl (μ 2) 0 0 sum (q_sl1 d sum (μ 5))) = q_slM (μ 2) d sum (μ 5) := (if_pos h3).symm
    have e2 : q_fl (μ 2) (2 + d) 1 sum (q_fl (μ 2) 0 0 sum (q_sl1 d sum (μ 5))) = q_sl2 (μ 2) d sum (μ 5) := (if_pos h3).symm
    rw [eM] at b35 b36
    rw [e2] at g2
    rw [r2]
    simp only [↓zC_V]
    have f2' : ∀ c, c ≠ 0 → c ≠ 5 → c ≠ 22 → μ2 c = μ c := fun c c0 c5 c22 => by rw [f2 c c0 c5 c22, f1' c c0 c5 c22]
    have k2' : ∀ k, k ≠ 35 → k ≠ 36 → μ2 0 k = μ 0 k := fun k a b => by rw [k2 k a b, k1 k a b]
    obtain ⟨μ3, r3, kp, h14, h5, h6', h7, h9, h10⟩ := m_sells_37 (μ := μ2) (μ0 := μ) (sum := sum) (last := last) (by rw [k2' 5 (by decide) (by decide)]; exact hm) h6 hdl hd0 (by omega) (by rw [g2]; exact i3) (by omega) (by omega) (by rw [f2' 2 (by decide) (by decide) (by decide)]; exact ht) b35 hM.1 hM.2 hs1 b36 (by rw [k2' 14 (by decide) (by decide)]; exact hdo0) (by rw [k2' 14 (by decide) (by decide)]; exact hdo1) hl
    rw [f2' 2 (by decide) (by decide) (by decide), f2' 4 (by decide) (by decide) (by decide), g2] at h5
    rw [f2' 4 (by decide) (by decide) (by decide), f2' 7 (by decide) (by decide) (by decide), g2, q_sl2_at hd0 (by omega) (by omega)] at h7
    rw [f2' 9 (by decide) (by decide) (by decide), k2' 14 (by decide) (by decide)] at h9
    rw [f2' 10 (by decide) (by decide) (by decide), k2' 14 (by decide) (by decide)] at h10
    refine ⟨μ3, r3, m_kp.tr ⟨fun c c0 c5 _ _ _ _ _ _ _ c22 => f2' c c0 c5 c22, fun k _ a b => k2' k a b⟩ kp, by rw [h14, k2' 14 (by decide) (by decide)], ?_, h9, h10⟩
    rw [q_sell_eq h6 hd0 (by omega) (fun i hi => rfl), h5, h6', h7, f2' 6 (by decide) (by decide) (by decide)]
  · rw [if_neg h3]
    simp (disch := omega) only [Int.add_zero, Int.mul_zero, Int.reduceMul, Int.reduceAdd, Int.mul_one, Int.tdiv_eq_ediv_of_nonneg, Int.tmod_eq_emod_of_nonneg, ↓reduceIte, ↓zLet_eq, ↓zRd_ok, ↓zWr_ok, ↓zC_V, ↓zC_I, ↓zC_J, zUp_at, zUp_ne, q_up_at, q_up_ne, w32_of, w64_of, q_le_T, q_le_F, q_lt_T, q_lt_F, q_eq_T, q_eq_F, true_or, or_true, or_false, false_or, false_and, and_false]
    have eM : q_fM (μ 2) 0 0 sum (q_sl1 d sum (μ 5)) = q_slM (μ 2) d sum (μ 5) := (if_neg h3).symm
    have e2 : q_fl (μ 2) 0 0 sum (q_sl1 d sum (μ 5)) = q_sl2 (μ 2) d sum (μ 5) := (if_neg h3).symm
    rw [eM] at a35 a36
    rw [e2] at g1
    obtain ⟨μ3, r3, kp, h14, h5, h6', h7, h9, h10⟩ := m_sells_37 (μ := μ1) (μ0 := μ) (sum := sum) (last := last) (by rw [k1 5 (by decide) (by decide)]; exact hm) h6 hdl hd0 (by omega) (by rw [g1]; exact i3) (by omega) (by omega) (by rw [t1]; exact ht) a35 hM.1 hM.2 hs1 a36 (by rw [k1 14 (by decide) (by decide)]; exact hdo0) (by rw [k1 14 (by decide) (by decide)]; exact hdo1) hl
    rw [t1, f1' 4 (by decide) (by decide) (by decide), g1] at h5
    rw [f1' 4 (by decide) (by decide) (by decide), f1' 7 (by decide) (by decide) (by decide), g1, q_sl2_at hd0 (by omega) (by omega)] at h7
    rw [f1' 9 (by decide) (by decide) (by decide), k1 14 (by decide) (by decide)] at h9
    rw [f1' 10 (by decide) (by decide) (by decide), k1 14 (by decide) (by decide)] at h10
    refine ⟨μ3, r3, m_kp.tr ⟨fun c c0 c5 _ _ _ _ _ _ _ c22 => f1' c c0 c5 c22, fun k _ a b => k1 k a b⟩ kp, by rw [h14, k1 14 (by decide) (by decide)], ?_, h9, h10⟩
    rw [q_sell_eq h6 hd0 (by omega) (fun i hi => rfl), h5, h6', h7, f1' 6 (by decide) (by decide) (by decide)]
