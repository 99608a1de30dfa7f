/-! ===== the reference: aside and back; all sold ===== -/
theorem q_map2 {R : Type} {L : Nat → Int → ZMem → R} {c d : Nat} {g h : Int → Int} {m : Nat} {K : ZMem → R} {μ : ZMem} (hcd : c ≠ d) (hs : ∀ (n j : Nat), j < m → L (n + 1) j (q_fi (q_fi μ c g j) d h j) = L n (j + 1) (zUp (zUp (q_fi (q_fi μ c g j) d h j) c j (g j)) d j (h j))) (hd : ∀ n : Nat, L (n + 1) m (q_fi (q_fi μ c g m) d h m) = K (q_fi (q_fi μ c g m) d h m)) {n : Nat} (hn : m < n) : L n 0 μ = K (q_fi (q_fi μ c g m) d h m) := by
  have key : ∀ (k n j : Nat), j + k = m → k < n → L n j (q_fi (q_fi μ c g j) d h j) = K (q_fi (q_fi μ c g m) d h m) := by
    intro k
    induction k with
    | zero =>
      intro n j hj hn
      obtain ⟨n, rfl⟩ : ∃ i, n = i + 1 := ⟨n - 1, by omega⟩
      obtain rfl : j = m := by omega
      exact hd n
    | succ k ih =>
      intro n j hj hn
      obtain ⟨n, rfl⟩ : ∃ i, n = i + 1 := ⟨n - 1, by omega⟩
      have e : zUp (zUp (q_fi (q_fi μ c g j) d h j) c j (g j)) d j (h j) = q_fi (q_fi μ c g (j + 1)) d h (j + 1) := by
        rw [← q_fi_succ (q_fi μ c g (j + 1)) d h j, ← q_fi_succ μ c g j]
        funext x i
        unfold zUp q_fi
        by_cases xd : x = d
        · subst xd
          simp [Ne.symm hcd]
        · simp [xd]
      rw [hs n j (by omega), e]
      exact ih n (j + 1) (by omega) (by omega)
  have h0 := key m n 0 (by omega) hn
  have e : q_fi (q_fi μ c g ((0 : Nat) : Int)) d h ((0 : Nat) : Int) = μ := (q_fi_zero (q_fi μ c g 0) d h).trans (q_fi_zero μ c g)
  rw [e] at h0
  exact h0
theorem m_putsAside (μ : ZMem) : ∃ μ', F_Model_putsAside μ = some (.inr none, μ') ∧ (∀ c, c ≠ 11 → c ≠ 12 → c ≠ 13 → μ' c = μ c) ∧ (∀ k, 0 ≤ k → k < 92 → μ' 11 k = μ 5 k) ∧ (∀ k, 0 ≤ k → k < 1206 → μ' 12 k = μ 6 k ∧ μ' 13 k = μ 7 k) := by
  have s1 : ∀ K : ZMem → Option ZRes, L_Model_putsAside_2 K zN 0 μ = K (q_fi μ 11 (μ 5) (92 : Nat)) := fun K => by
    refine q_map (L := fun n j ν => L_Model_putsAside_2 K n j ν) (fun n j hj => ?_) (fun n => ?_) (zN_gt (by omega))
    · have e : q_fi μ 11 (μ 5) j 5 = μ 5 := q_fi_ne (by decide)
      simp (disch := omega) only [L_Model_putsAside_2, Int.add_zero, Int.mul_zero, Int.reduceMul, Int.reduceAdd, Int.mul_one, Int.tdiv_eq_ediv_of_nonneg, Int.tmod_eq_emod_of_nonneg, ↓reduceIte, ↓zLet_eq, ↓zRd_ok, ↓zWr_ok, ↓zC_V, ↓zC_I, ↓zC_J, zUp_at, zUp_ne, q_up_at, q_up_ne, w32_of, w64_of, q_le_T, q_le_F, q_lt_T, q_lt_F, q_eq_T, q_eq_F, true_or, or_true, or_false, false_or, false_and, and_false, e]
    · simp (disch := omega) only [L_Model_putsAside_2, Int.add_zero, Int.mul_zero, Int.reduceMul, Int.reduceAdd, Int.mul_one, Int.tdiv_eq_ediv_of_nonneg, Int.tmod_eq_emod_of_nonneg, ↓reduceIte, ↓zLet_eq, ↓zRd_ok, ↓zWr_ok, ↓zC_V, ↓zC_I, ↓zC_J, zUp_at, zUp_ne, q_up_at, q_up_ne, w32_of, w64_of, q_le_T, q_le_F, q_lt_T, q_lt_F, q_eq_T, q_eq_F, true_or, or_true, or_false, false_or, false_and, and_false]
  have s2 : ∀ (μ1 : ZMem) (K : ZMem → Option ZRes), L_Model_putsAside_28 K zN 0 μ1 = K (q_fi (q_fi μ1 12 (μ1 6) (1206 : Nat)) 13 (μ1 7) (1206 : Nat)) := fun μ1 K => by
    refine q_map2 (L := fun n j ν => L_Model_putsAside_28 K n j ν) (by decide) (fun n j hj => ?_) (fun n => ?_) (zN_gt (by omega))
    · have e6 : q_fi (q_fi μ1 12 (μ1 6) j) 13 (μ1 7) j 6 = μ1 6 := by rw [q_fi_ne (by decide), q_fi_ne (by decide)]
      have e7 : q_fi (q_fi μ1 12 (μ1 6) j) 13 (μ1 7) j 7 = μ1 7 := by rw [q_fi_ne (by decide), q_fi_ne (by decide)]
      simp (disch := omega) only [L_Model_putsAside_28, Int.add_zero, Int.mul_zero, Int.reduceMul, Int.reduceAdd, Int.mul_one, Int.tdiv_eq_ediv_of_nonneg, Int.tmod_eq_emod_of_nonneg, ↓reduceIte, ↓zLet_eq, ↓zRd_ok, ↓zWr_ok, ↓zC_V, ↓zC_I, ↓zC_J, zUp_at, zUp_ne, q_up_at, q_up_ne, w32_of, w64_of, q_le_T, q_le_F, q_lt_T, q_lt_F, q_eq_T, q_eq_F, true_or, or_true, or_false, false_or, false_and, and_false, e6, e7]
    · simp (disch := omega) only [L_Model_putsAside_28, Int.add_zero, Int.mul_zero, Int.reduceMul, Int.reduceAdd, Int.mul_one, Int.tdiv_eq_ediv_of_nonneg, Int.tmod_eq_emod_of_nonneg, ↓reduceIte, ↓zLet_eq, ↓zRd_ok, ↓zWr_ok, ↓zC_V, ↓zC_I, ↓zC_J, zUp_at, zUp_ne, q_up_at, q_up_ne, w32_of, w64_of, q_le_T, q_le_F, q_lt_T, q_lt_F, q_eq_T, q_eq_F, true_or, or_true, or_false, false_or, false_and, and_false]
  unfold F_Model_putsAside
  rw [s1, s2]
  refine ⟨_, rfl, fun c c11 c12 c13 => by rw [q_fi_ne c13, q_fi_ne c12, q_fi_ne c11], fun k k0 k1 => ?_, fun k k0 k1 => ⟨?_, ?_⟩⟩
  · rw [q_fi_ne (by decide), q_fi_ne (by decide), q_fi_in (by omega) (by omega)]
  · rw [q_fi_ne (by decide), q_fi_in (by omega) (by omega), q_fi_ne (by decide)]
  · rw [q_fi_in (by omega) (by omega), q_fi_ne (by decide)]
theorem m_comesBack {μ : ZMem} {s p g : Int → Int} (h11 : ∀ k, 0 ≤ k → k < 92 → μ 11 k = s k) (h12 : ∀ k, 0 ≤ k → k < 1206 → μ 12 k = p k ∧ μ 13 k = g k) (z5 : q_z 92 (μ 5)) (z6 : q_z 1206 (μ 6)) (z7 : q_z 1206 (μ 7)) (zs : q_z 92 s) (zp : q_z 1206 p) (zg : q_z 1206 g) :
    ∃ μ', F_Model_comesBack μ = some (.inr none, μ') ∧ (∀ c, c ≠ 5 → c ≠ 6 → c ≠ 7 → μ' c = μ c) ∧ μ' 5 = s ∧ μ' 6 = p ∧ μ' 7 = g := by
  have s1 : ∀ K : ZMem → Option ZRes, L_Model_comesBack_2 K zN 0 μ = K (q_fi μ 5 (μ 11) (92 : Nat)) := fun K => by
    refine q_map (L := fun n j ν => L_Model_comesBack_2 K n j ν) (fun n j hj => ?_) (fun n => ?_) (zN_gt (by omega))
    · have e : q_fi μ 5 (μ 11) j 11 = μ 11 := q_fi_ne (by decide)
      simp (disch := omega) only [L_Model_comesBack_2, Int.add_zero, Int.mul_zero, Int.reduceMul, Int.reduceAdd, Int.mul_one, Int.tdiv_eq_ediv_of_nonneg, Int.tmod_eq_emod_of_nonneg, ↓reduceIte, ↓zLet_eq, ↓zRd_ok, ↓zWr_ok, ↓zC_V, ↓zC_I, ↓zC_J, zUp_at, zUp_ne, q_up_at, q_up_ne, w32_of, w64_of, q_le_T, q_le_F, q_lt_T, q_lt_F, q_eq_T, q_eq_F, true_or, or_true, or_false, false_or, false_and, and_false, e]
    · simp (disch := omega) only [L_Model_comesBack_2, Int.add_zero, Int.mul_zero, Int.reduceMul, Int.reduceAdd, Int.mul_one, Int.tdiv_eq_ediv_of_nonneg, Int.tmod_eq_emod_of_nonneg, ↓reduceIte, ↓zLet_eq, ↓zRd_ok, ↓zWr_ok, ↓zC_V, ↓zC_I, ↓zC_J, zUp_at, zUp_ne, q_up_at, q_up_ne, w32_of, w64_of, q_le_T, q_le_F, q_lt_T, q_lt_F, q_eq_T, q_eq_F, true_or, or_true, or_false, false_or, false_and, and_false]
  have s2 : ∀ (μ1 : ZMem) (K : ZMem → Option ZRes), L_Model_comesBack_28 K zN 0 μ1 = K (q_fi (q_fi μ1 6 (μ1 12) (1206 : Nat)) 7 (μ1 13) (1206 : Nat)) := fun μ1 K => by
    refine q_map2 (L := fun n j ν => L_Model_comesBack_28 K n j ν) (by decide) (fun n j hj => ?_) (fun n => ?_) (zN_gt (by omega))
    · have e6 : q_fi (q_fi μ1 6 (μ1 12) j) 7 (μ1 13) j 12 = μ1 12 := by rw [q_fi_ne (by decide), q_fi_ne (by decide)]
      have e7 : q_fi (q_fi μ1 6 (μ1 12) j) 7 (μ1 13) j 13 = μ1 13 := by rw [q_fi_ne (by decide), q_fi_ne (by decide)]
      simp (disch := omega) only [L_Model_comesBack_28, Int.add_zero, Int.mul_zero, Int.reduceMul, Int.reduceAdd, Int.mul_one, Int.tdiv_eq_ediv_of_nonneg, Int.tmod_eq_emod_of_nonneg, ↓reduceIte, ↓zLet_eq, ↓zRd_ok, ↓zWr_ok, ↓zC_V, ↓zC_I, ↓zC_J, zUp_at, zUp_ne, q_up_at, q_up_ne, w32_of, w64_of, q_le_T, q_le_F, q_lt_T, q_lt_F, q_eq_T, q_eq_F, true_or, or_true, or_false, false_or, false_and, and_false, e6, e7]
    · simp (disch := omega) only [L_Model_comesBack_28, Int.add_zero, Int.mul_zero, Int.reduceMul, Int.reduceAdd, Int.mul_one, Int.tdiv_eq_ediv_of_nonneg, Int.tmod_eq_emod_of_nonneg, ↓reduceIte, ↓zLet_eq, ↓zRd_ok, ↓zWr_ok, ↓zC_V, ↓zC_I, ↓zC_J, zUp_at, zUp_ne, q_up_at, q_up_ne, w32_of, w64_of, q_le_T, q_le_F, q_lt_T, q_lt_F, q_eq_T, q_eq_F, true_or, or_true, or_false, false_or, false_and, and_false]
  unfold F_Model_comesBack
  rw [s1, s2]
  refine ⟨_, rfl, fun c c5 c6 c7 => by rw [q_fi_ne c7, q_fi_ne c6, q_fi_ne c5], ?_, ?_, ?_⟩
  · rw [q_fi_ne (by decide), q_fi_ne (by decide)]
    funext k
    by_cases hk : 0 ≤ k ∧ k < 92
    · rw [q_fi_in (by omega) (by omega), h11 k hk.1 hk.2]
    · rw [q_fi_out (by omega), z5 k (by omega), zs k (by omega)]
  · rw [q_fi_ne (by decide)]
    funext k
    by_cases hk : 0 ≤ k ∧ k < 1206
    · rw [q_fi_in (by omega) (by omega), q_fi_ne (by decide), (h12 k hk.1 hk.2).1]
    · rw [q_fi_out (by omega), q_fi_ne (by decide), z6 k (by omega), zp k (by omega)]
  · funext k
    by_cases hk : 0 ≤ k ∧ k < 1206
    · rw [q_fi_in (by omega) (by omega), q_fi_ne (by decide), (h12 k hk.1 hk.2).2]
    · rw [q_fi_out (by omega), q_fi_ne (by decide), q_fi_ne (by decide), z7 k (by omega), zg k (by omega)]
/-- what is open is sold for its mark -/
def q_so (m : Nat) (tm ex : Int → Int) : Nat → QS → QS
  | 0, σ => σ
  | d + 1, σ => if (q_so m tm ex d σ).1 (30 + 4 * d + 3) = 0 then q_sell m tm ex d ((q_so m tm ex d σ).1 (30 + 4 * d + 2)) 1 (q_so m tm ex d σ) else q_so m tm ex d σ
theorem q_inv.sell {m dl : Nat} {B d sum last : Int} {tm ex : Int → Int} {σ : QS} (h : q_inv m dl B σ.1) (h6 : m ≤ 6) (hdl : dl ≤ 6) (ht : q_tm tm) (hB0 : 0 ≤ B) (hB1 : B ≤ 800) (hd0 : 0 ≤ d) (hd1 : d < dl) (hs0 : 0 ≤ sum) (hs1 : sum ≤ 9999) : q_inv m dl (B + 6) (q_sell m tm ex d sum last σ).1 ∧ (q_sell m tm ex d sum last σ).1 90 = σ.1 90 := by
  have hM := q_slM_in h h6 hdl ht hB0 hd0 hd1 hs0 hs1
  have h1 : q_inv m dl (B + 5) (q_sb tm d sum last σ.1, σ.2).1 := h.sb h6 hdl ht hB0 hB1 hd0 hd1 hs0 hs1
  have h2 := h1.getS (ex := ex) (d := d) (sum := sum - q_slM tm d sum σ.1) h6 (by omega) (by omega)
  refine ⟨h2.mono h6 (by omega), ?_⟩
  show q_gt m _ (q_sb tm d sum last σ.1) 90 = _
  rw [q_gt_ne (by omega)]
  exact q_sb_at hd0 (by omega) (by omega)
theorem q_so_ok {m dl : Nat} {B : Int} {tm ex : Int → Int} {σ : QS} (h : q_inv m dl B σ.1) (hz : q_zz σ) (h6 : m ≤ 6) (hdl : dl ≤ 6) (ht : q_tm tm) (hB0 : 0 ≤ B) (hB1 : B ≤ 764) : ∀ d : Nat, d ≤ dl → q_inv m dl (B + 6 * d) (q_so m tm ex d σ).1 ∧ q_zz (q_so m tm ex d σ)
  | 0, _ => ⟨h.mono h6 (by omega), hz⟩
  | d + 1, hd => by
    obtain ⟨i1, i2⟩ := q_so_ok (ex := ex) h hz h6 hdl ht hB0 hB1 d (by omega)
    have hD := i1.2.1 d (by omega)
    rw [q_so]
    split
    · obtain ⟨j1, j2⟩ := i1.sell (ex := ex) (d := d) (last := 1) (sum := (q_so m tm ex d σ).1 (30 + 4 * d + 2)) h6 hdl ht (by omega) (by omega) (by omega) (by omega) (by omega) (by omega)
      exact ⟨j1.mono h6 (by omega), q_zz.get (σ := (q_sb tm d _ 1 (q_so m tm ex d σ).1, (q_so m tm ex d σ).2)) i2 h6⟩
    · exact ⟨i1.mono h6 (by omega), i2⟩
theorem m_sellsOut {m dl : Nat} {B : Int} {μ : ZMem} (fe : Int → Int) (hm : μ 0 5 = m) (h6 : m ≤ 6) (hdd : μ 0 6 = dl) (hdl : dl ≤ 6) (hi : q_inv m dl B (μ 5)) (hz : q_zz (μ 5, μ 6, μ 7, fe)) (hB0 : 0 ≤ B) (hB1 : B ≤ 764) (ht : q_tm (μ 2)) (h14 : μ 0 14 = 60) :
    ∃ μ', F_Model_sellsOut μ = some (.inr none, μ') ∧ m_kp μ μ' ∧ μ' 0 14 = 60 ∧ (μ' 5, μ' 6, μ' 7, (q_so m (μ 2) (μ 4) dl (μ 5, μ 6, μ 7, fe)).2.2.2) = q_so m (μ 2) (μ 4) dl (μ 5, μ 6, μ 7, fe) ∧ (∀ k, k ≠ 60 → μ' 9 k = μ 9 k ∧ μ' 10 k = μ 10 k) := by
  unfold F_Model_sellsOut
  obtain ⟨⟨v, ν⟩, e, j, rfl, hjj, kp, h14', hs, h9⟩ := q_loop (L := fun n (b : Int × ZMem) => L_Model_sellsOut_2 (fun μ10 => some (.inr none, μ10)) n b.1 b.2) (P := fun i b => ∃ j : Nat, b.1 = j ∧ j + i = dl ∧ m_kp μ b.2 ∧ b.2 0 14 = 60 ∧ (b.2 5, b.2 6, b.2 7, (q_so m (μ 2) (μ 4) j (μ 5, μ 6, μ 7, fe)).2.2.2) = q_so m (μ 2) (μ 4) j (μ 5, μ 6, μ 7, fe) ∧ (∀ k, k ≠ 60 → b.2 9 k = μ 9 k ∧ b.2 10 k = μ 10 k)) (fun n i b hb => by
      obtain ⟨v, ν⟩ := b
      obtain ⟨j, rfl, hjj, kp, h14', hs, h9⟩ := hb
      simp only [] at kp h14' hs h9 ⊢
      obtain ⟨-, e2, e3, e4, e8, e5, e6, e11⟩ := kp.at
      have e6' : ν 0 6 = dl := e6.trans hdd
      obtain ⟨q1, q2, q3, q4⟩ := q_pair hs
      obtain ⟨i1, i2⟩ := q_so_ok (σ := (μ 5, μ 6, μ 7, fe)) (tm := μ 2) (ex := μ 4) hi hz h6 hdl ht hB0 hB1 j (by omega)
      have hD := i1.2.1 j (by omega)
      rw [← q2] at hD i1
      by_cases hc : ν 5 (30 + 4 * j + 3) = 0
      · obtain ⟨ν', r, kp', h14'', hs', g9, g10⟩ := m_sells (μ := ν) (d := j) (sum := ν 5 (30 + 4 * j + 2)) (last := 1) (q_so m (μ 2) (μ 4) j (μ 5, μ 6, μ 7, fe)).2.2.2 (e5.trans hm) h6 hdl (by omega) (by omega) i1 (by omega) (by omega) (by rw [e2]; exact ht) (by omega) (by omega) (by omega) (by omega) (Or.inr rfl)
        refine ⟨(j + 1, ν'), ?_, j + 1, rfl, by omega, kp.tr kp', h14''.trans h14', ?_, fun k hk => ?_⟩
        · simp (disch := omega) only [L_Model_sellsOut_2, J_Model_sellsOut_41, Int.add_zero, Int.mul_zero, Int.reduceMul, Int.reduceAdd, Int.mul_one, Int.tdiv_eq_ediv_of_nonneg, Int.tmod_eq_emod_of_nonneg, ↓reduceIte, ↓zLet_eq, ↓zRd_ok, ↓zWr_ok, ↓zC_V, ↓zC_I, ↓zC_J, zUp_at, zUp_ne, q_up_at, q_up_ne, w32_of, w64_of, q_le_T, q_le_F, q_lt_T, q_lt_F, q_eq_T, q_eq_F, true_or, or_true, or_false, false_or, false_and, and_false, m_dealAt, r]
        · simp only []
          rw [e2, e4, ← q1] at hs'
          have eq : q_so m (μ 2) (μ 4) (j + 1) (μ 5, μ 6, μ 7, fe) = q_sell m (μ 2) (μ 4) j (ν 5 (30 + 4 * j + 2)) 1 (q_so m (μ 2) (μ 4) j (μ 5, μ 6, μ 7, fe)) := by
            rw [q_so, ← q2, if_pos hc]
          rw [eq]
          exact hs'
        · simp only []
          rw [g9, g10, h14', q_up_ne hk, q_up_ne hk]
          exact h9 k hk
      · refine ⟨(j + 1, ν), ?_, j + 1, rfl, by omega, kp, h14', ?_, h9⟩
        · simp (disch := omega) only [L_Model_sellsOut_2, J_Model_sellsOut_41, Int.add_zero, Int.mul_zero, Int.reduceMul, Int.reduceAdd, Int.mul_one, Int.tdiv_eq_ediv_of_nonneg, Int.tmod_eq_emod_of_nonneg, ↓reduceIte, ↓zLet_eq, ↓zRd_ok, ↓zWr_ok, ↓zC_V, ↓zC_I, ↓zC_J, zUp_at, zUp_ne, q_up_at, q_up_ne, w32_of, w64_of, q_le_T, q_le_F, q_lt_T, q_lt_F, q_eq_T, q_eq_F, true_or, or_true, or_false, false_or, false_and, and_false, m_dealAt]
        · simp only []
          have eq : q_so m (μ 2) (μ 4) (j + 1) (μ 5, μ 6, μ 7, fe) = q_so m (μ 2) (μ 4) j (μ 5, μ 6, μ 7, fe) := by
            rw [q_so, ← q2, if_neg hc]
          rw [eq]
          exact hs) dl zN (0, μ) ⟨0, rfl, by omega, m_kp.rf μ, h14, rfl, fun _ _ => ⟨rfl, rfl⟩⟩ (Nat.le_of_lt (zN_gt (by omega)))
  simp only [] at e kp h14' hs h9
  obtain rfl : j = dl := by omega
  refine ⟨ν, ?_, kp, h14', hs, h9⟩
  rw [e]
  obtain ⟨n, hn⟩ : ∃ n, zN - j = n + 1 := ⟨zN - j - 1, by have := zN_gt (m := j) (by omega); omega⟩
  rw [hn]
  have e6' : ν 0 6 = j := kp.at.2.2.2.2.2.2.1.trans hdd
  simp (disch := omega) only [L_Model_sellsOut_2, Int.add_zero, Int.mul_zero, Int.reduceMul, Int.reduceAdd, Int.mul_one, Int.tdiv_eq_ediv_of_nonneg, Int.tmod_eq_emod_of_nonneg, ↓reduceIte, ↓zLet_eq, ↓zRd_ok, ↓zWr_ok, ↓zC_V, ↓zC_I, ↓zC_J, zUp_at, zUp_ne, q_up_at, q_up_ne, w32_of, w64_of, q_le_T, q_le_F, q_lt_T, q_lt_F, q_eq_T, q_eq_F, true_or, or_true, or_false, false_or, false_and, and_false]
