/-! ===== the reference: a sum by weights ===== -/
theorem q_arg {R : Type} {L : Nat → Int → Int → R} {r : Int → Int} {m : Nat} {K : Int → R} (hs : ∀ (n : Nat) (b : Int) (j : Nat), j < m → 0 ≤ b → b < j → L (n + 1) b j = L n (if r b < r j then (j : Int) else b) (j + 1)) (hd : ∀ (n : Nat) (b : Int), L (n + 1) b m = K b) (hm : 0 < m) {n : Nat} (hn : m < n) : L n 0 1 = K (q_bst r m) := by
  have key : ∀ (k n j : Nat), 0 < j → j + k = m → k < n → L n (q_bst r j) j = K (q_bst r m) := by
    intro k
    induction k with
    | zero =>
      intro n j h0 hj hn
      obtain ⟨n, rfl⟩ : ∃ i, n = i + 1 := ⟨n - 1, by omega⟩
      obtain rfl : j = m := by omega
      exact hd n _
    | succ k ih =>
      intro n j h0 hj hn
      obtain ⟨n, rfl⟩ : ∃ i, n = i + 1 := ⟨n - 1, by omega⟩
      have hb := q_bst_in r j h0
      rw [hs n _ j (by omega) hb.1 hb.2]
      exact ih n (j + 1) (by omega) (by omega) (by omega)
  have h := key (m - 1) n 1 (by omega) (by omega) (by omega)
  have e : q_bst r 1 = 0 := by simp [q_bst]
  rw [e] at h
  exact h
theorem m_arg {μ : ZMem} {m : Nat} {c3 c5 : Int} {K : Int → Option ZRes} (hm : μ 0 5 = m) (h6 : m ≤ 6) (h0 : 0 < m) (hr : ∀ i : Nat, i < m → -1 ≤ μ 21 i ∧ μ 21 i < 1000000000) : L_Model_shares_138 c3 c5 μ K zN 0 1 = K (q_bst (μ 21) m) := by
  refine q_arg (L := fun n b j => L_Model_shares_138 c3 c5 μ K n b j) (fun n b j hj hb hbj => ?_) (fun n b => ?_) h0 (zN_gt (by omega))
  · have h1 := hr j hj
    have h2 := hr b.toNat (by omega)
    rw [Int.toNat_of_nonneg hb] at h2
    simp (disch := omega) only [L_Model_shares_138, J_Model_shares_169, Int.add_zero, Int.mul_zero, Int.reduceMul, Int.reduceAdd, Int.mul_one, Int.tdiv_eq_ediv_of_nonneg, Int.tmod_eq_emod_of_nonneg, ↓reduceIte, ↓zLet_eq, ↓zRd_ok, ↓zWr_ok, ↓zC_V, ↓zC_I, ↓zC_J, zUp_at, zUp_ne, q_up_at, q_up_ne, w32_of, w64_of, q_le_T, q_le_F, q_lt_T, q_lt_F, q_eq_T, q_eq_F, true_or, or_true, or_false, false_or]
    by_cases h : μ 21 b < μ 21 j
    · simp (disch := omega) only [Int.add_zero, Int.mul_zero, Int.reduceMul, Int.reduceAdd, Int.mul_one, Int.tdiv_eq_ediv_of_nonneg, Int.tmod_eq_emod_of_nonneg, ↓reduceIte, ↓zLet_eq, ↓zRd_ok, ↓zWr_ok, ↓zC_V, ↓zC_I, ↓zC_J, zUp_at, zUp_ne, q_up_at, q_up_ne, w32_of, w64_of, q_le_T, q_le_F, q_lt_T, q_lt_F, q_eq_T, q_eq_F, true_or, or_true, or_false, false_or]
    · simp (disch := omega) only [Int.add_zero, Int.mul_zero, Int.reduceMul, Int.reduceAdd, Int.mul_one, Int.tdiv_eq_ediv_of_nonneg, Int.tmod_eq_emod_of_nonneg, ↓reduceIte, ↓zLet_eq, ↓zRd_ok, ↓zWr_ok, ↓zC_V, ↓zC_I, ↓zC_J, zUp_at, zUp_ne, q_up_at, q_up_ne, w32_of, w64_of, q_le_T, q_le_F, q_lt_T, q_lt_F, q_eq_T, q_eq_F, true_or, or_true, or_false, false_or]
  · simp (disch := omega) only [L_Model_shares_138, Int.add_zero, Int.mul_zero, Int.reduceMul, Int.reduceAdd, Int.mul_one, Int.tdiv_eq_ediv_of_nonneg, Int.tmod_eq_emod_of_nonneg, ↓reduceIte, ↓zLet_eq, ↓zRd_ok, ↓zWr_ok, ↓zC_V, ↓zC_I, ↓zC_J, zUp_at, zUp_ne, q_up_at, q_up_ne, w32_of, w64_of, q_le_T, q_le_F, q_lt_T, q_lt_F, q_eq_T, q_eq_F, true_or, or_true, or_false, false_or]
theorem m_coins {m : Nat} {A : Int} {K : ZMem → Option ZRes} (h6 : m ≤ 6) (hA : 0 < A) (hA1 : A < 1000000000) : ∀ (k n : Nat) (μ : ZMem) (p r : Int → Int), μ 0 5 = m → (∀ i : Nat, i < m → μ 20 i = p i ∧ μ 21 i = r i) → q_ok m A k r → k < n → k ≤ 1000 → ∃ μ', L_Model_shares_119 A K n k μ = K μ' ∧ (∀ c, c ≠ 20 → c ≠ 21 → μ' c = μ c) ∧ ∀ i : Nat, i < m → μ' 20 i = q_cn m k p r i := by
  intro k
  induction k with
  | zero =>
    intro n μ p r hm hp ho hn hk
    obtain ⟨n, rfl⟩ : ∃ i, n = i + 1 := ⟨n - 1, by omega⟩
    refine ⟨μ, ?_, fun _ _ _ => rfl, fun i hi => (hp i hi).1⟩
    simp (disch := omega) only [L_Model_shares_119, Int.add_zero, Int.mul_zero, Int.reduceMul, Int.reduceAdd, Int.mul_one, Int.tdiv_eq_ediv_of_nonneg, Int.tmod_eq_emod_of_nonneg, ↓reduceIte, ↓zLet_eq, ↓zRd_ok, ↓zWr_ok, ↓zC_V, ↓zC_I, ↓zC_J, zUp_at, zUp_ne, q_up_at, q_up_ne, w32_of, w64_of, q_le_T, q_le_F, q_lt_T, q_lt_F, q_eq_T, q_eq_F, true_or, or_true, or_false, false_or]
  | succ k ih =>
    intro n μ p r hm hp ho hn hk
    obtain ⟨n, rfl⟩ : ∃ i, n = i + 1 := ⟨n - 1, by omega⟩
    obtain ⟨h0, hb⟩ := ho.best hA
    have hin := q_bst_in r m h0
    have hr : ∀ i : Nat, i < m → -1 ≤ μ 21 i ∧ μ 21 i < 1000000000 := fun i hi => by
      rw [(hp i hi).2]
      have := ho.1 i hi
      omega
    have e := q_bst_congr (fun i hi => (hp i hi).2)
    have hpb := (hp (q_bst r m).toNat (by omega)).1
    rw [Int.toNat_of_nonneg hin.1] at hpb
    obtain ⟨μ', e1, f1, g1⟩ := ih n (zUp (zUp μ 20 (q_bst r m) (μ 20 (q_bst r m) + 1)) 21 (q_bst r m) (-1)) (q_up p (q_bst r m) (p (q_bst r m) + 1)) (q_up r (q_bst r m) (-1))
      (by simp (disch := omega) only [zUp_ne]; exact hm) (fun i hi => by
        simp (disch := omega) only [zUp_ne, zUp_at]
        unfold q_up
        rw [hpb, (hp i hi).1, (hp i hi).2]
        exact ⟨rfl, rfl⟩) (ho.step hA) (by omega) (by omega)
    refine ⟨μ', ?_, fun c h20 h21 => ?_, g1⟩
    · rw [← e1]
      simp (disch := omega) only [L_Model_shares_119, Int.add_zero, Int.mul_zero, Int.reduceMul, Int.reduceAdd, Int.mul_one, Int.tdiv_eq_ediv_of_nonneg, Int.tmod_eq_emod_of_nonneg, ↓reduceIte, ↓zLet_eq, ↓zRd_ok, ↓zWr_ok, ↓zC_V, ↓zC_I, ↓zC_J, zUp_at, zUp_ne, q_up_at, q_up_ne, w32_of, w64_of, q_le_T, q_le_F, q_lt_T, q_lt_F, q_eq_T, q_eq_F, true_or, or_true, or_false, false_or, m_arg hm h6 h0 hr, e]
      rw [show ((k + 1 : Nat) : Int) - 1 = (k : Int) by omega]
    · rw [f1 c h20 h21, zUp_ne h21, zUp_ne h20]
theorem m_shares {μ : ZMem} {m : Nat} {w : Int → Int} {sum : Int} (hm : μ 0 5 = m) (h6 : m ≤ 6) (hw : ∀ i : Nat, i < m → μ 19 i = w i ∧ 0 ≤ w i ∧ w i ≤ 9999) (hs0 : 0 ≤ sum) (hs1 : sum ≤ 10000000000000) :
    ∃ μ', F_Model_shares sum μ = some (.inr none, μ') ∧ (∀ c, c ≠ 20 → c ≠ 21 → μ' c = μ c) ∧ ∀ i : Nat, i < m → μ' 20 i = q_shr m w sum i := by
  have eA : q_sm (μ 19) m = q_sm w m := q_sm_congr (fun i hi => (hw i hi).1)
  have hA0 : 0 ≤ q_sm w m := q_sm_nonneg (fun i hi => (hw i hi).2.1)
  have hA1 : q_sm w m ≤ 6 * 9999 := q_sm_bd6 h6 (by decide) (fun i hi => (hw i hi).2.2)
  have s1 : ∀ K : Int → Option ZRes, L_Model_shares_5 sum μ K zN 0 0 = K (q_sm (μ 19) m) := fun K => by
    refine q_acc (L := fun n a j => L_Model_shares_5 sum μ K n a j) (fun n a j hj => ?_) (fun n a => ?_) (zN_gt (by omega))
    · simp (disch := omega) only [L_Model_shares_5, Int.add_zero, Int.mul_zero, Int.reduceMul, Int.reduceAdd, Int.mul_one, Int.tdiv_eq_ediv_of_nonneg, Int.tmod_eq_emod_of_nonneg, ↓reduceIte, ↓zLet_eq, ↓zRd_ok, ↓zWr_ok, ↓zC_V, ↓zC_I, ↓zC_J, zUp_at, zUp_ne, q_up_at, q_up_ne, w32_of, w64_of, q_le_T, q_le_F, q_lt_T, q_lt_F, q_eq_T, q_eq_F, true_or, or_true, or_false, false_or]
    · simp (disch := omega) only [L_Model_shares_5, Int.add_zero, Int.mul_zero, Int.reduceMul, Int.reduceAdd, Int.mul_one, Int.tdiv_eq_ediv_of_nonneg, Int.tmod_eq_emod_of_nonneg, ↓reduceIte, ↓zLet_eq, ↓zRd_ok, ↓zWr_ok, ↓zC_V, ↓zC_I, ↓zC_J, zUp_at, zUp_ne, q_up_at, q_up_ne, w32_of, w64_of, q_le_T, q_le_F, q_lt_T, q_lt_F, q_eq_T, q_eq_F, true_or, or_true, or_false, false_or]
  have s2 : ∀ K : Int → ZMem → Option ZRes, ∃ μ', L_Model_shares_36 sum (q_sm w m) K zN sum 0 μ = K (q_lf m w sum) μ' ∧ (∀ c, c ≠ 20 → c ≠ 21 → μ' c = μ c) ∧ ∀ i : Nat, i < m → μ' 20 i = q_b0 w (q_sm w m) sum i ∧ μ' 21 i = q_r0 w (q_sm w m) sum i := fun K => by
    obtain ⟨⟨l, v, ν⟩, e, j, rfl, hj, hl, hf, hv⟩ := q_loop (L := fun n (a : Int × Int × ZMem) => L_Model_shares_36 sum (q_sm w m) K n a.1 a.2.1 a.2.2) (P := fun k a => ∃ j : Nat, a.2.1 = j ∧ j + k = m ∧ a.1 = sum - q_sm (q_b0 w (q_sm w m) sum) j ∧ (∀ c, c ≠ 20 → c ≠ 21 → a.2.2 c = μ c) ∧ ∀ i : Nat, i < j → a.2.2 20 i = q_b0 w (q_sm w m) sum i ∧ a.2.2 21 i = q_r0 w (q_sm w m) sum i) (fun n k a h => by
        obtain ⟨l, v, ν⟩ := a
        obtain ⟨j, rfl, hj, rfl, hf, hv⟩ := h
        simp only [] at hf hv
        have e05 : ν 0 5 = m := by rw [hf 0 (by decide) (by decide)]; exact hm
        have e19 : ν 19 j = w j := by rw [hf 19 (by decide) (by decide)]; exact (hw j (by omega)).1
        have hwj := (hw j (by omega)).2
        have hp := q_mb hs0 hs1 hwj.1 hwj.2
        refine ⟨(sum - q_sm (q_b0 w (q_sm w m) sum) j - q_b0 w (q_sm w m) sum j, j + 1, zUp (zUp ν 20 j (q_b0 w (q_sm w m) sum j)) 21 j (q_r0 w (q_sm w m) sum j)), ?_, j + 1, rfl, by omega, ?_, ?_, ?_⟩
        · by_cases hz : q_sm w m = 0
          · simp (disch := omega) only [L_Model_shares_36, J_Model_shares_72, J_Model_shares_100, Int.add_zero, Int.mul_zero, Int.reduceMul, Int.reduceAdd, Int.mul_one, Int.tdiv_eq_ediv_of_nonneg, Int.tmod_eq_emod_of_nonneg, ↓reduceIte, ↓zLet_eq, ↓zRd_ok, ↓zWr_ok, ↓zC_V, ↓zC_I, ↓zC_J, zUp_at, zUp_ne, q_up_at, q_up_ne, w32_of, w64_of, q_le_T, q_le_F, q_lt_T, q_lt_F, q_eq_T, q_eq_F, true_or, or_true, or_false, false_or, q_b0, q_r0]
          · simp (disch := omega) only [L_Model_shares_36, J_Model_shares_72, J_Model_shares_100, Int.add_zero, Int.mul_zero, Int.reduceMul, Int.reduceAdd, Int.mul_one, Int.tdiv_eq_ediv_of_nonneg, Int.tmod_eq_emod_of_nonneg, ↓reduceIte, ↓zLet_eq, ↓zRd_ok, ↓zWr_ok, ↓zC_V, ↓zC_I, ↓zC_J, zUp_at, zUp_ne, q_up_at, q_up_ne, w32_of, w64_of, q_le_T, q_le_F, q_lt_T, q_lt_F, q_eq_T, q_eq_F, true_or, or_true, or_false, false_or, q_b0, q_r0, e19]
        · simp only [q_sm]
          omega
        · intro c h20 h21
          simp only []
          rw [zUp_ne h21, zUp_ne h20, hf c h20 h21]
        · intro i hi
          simp (disch := omega) only [zUp_ne, zUp_at]
          by_cases ei : i = j
          · subst ei
            simp only [q_up_at, and_self]
          · simp (disch := omega) only [q_up_ne]
            exact hv i (by omega)) m zN (sum, 0, μ) ⟨0, rfl, by omega, by simp [q_sm], fun _ _ _ => rfl, fun i hi => by omega⟩ (Nat.le_of_lt (zN_gt (by omega)))
    obtain rfl : j = m := by omega
    refine ⟨ν, ?_, hf, hv⟩
    simp only [] at e hl hf hv
    rw [e]
    obtain ⟨n, hn⟩ : ∃ n, zN - j = n + 1 := ⟨zN - j - 1, by have := zN_gt (m := j) (by omega); omega⟩
    have e05 : ν 0 5 = j := by rw [hf 0 (by decide) (by decide)]; exact hm
    rw [hn, hl]
    simp (disch := omega) only [L_Model_shares_36, Int.add_zero, Int.mul_zero, Int.reduceMul, Int.reduceAdd, Int.mul_one, Int.tdiv_eq_ediv_of_nonneg, Int.tmod_eq_emod_of_nonneg, ↓reduceIte, ↓zLet_eq, ↓zRd_ok, ↓zWr_ok, ↓zC_V, ↓zC_I, ↓zC_J, zUp_at, zUp_ne, q_up_at, q_up_ne, w32_of, w64_of, q_le_T, q_le_F, q_lt_T, q_lt_F, q_eq_T, q_eq_F, true_or, or_true, or_false, false_or, q_lf]
  unfold F_Model_shares
  rw [s1, eA]
  obtain ⟨μ1, e1, f1, g1⟩ := s2 (fun k13 μ12 => L_Model_shares_119 (q_sm w m) (fun μ22 => some (.inr none, μ22)) zN k13 μ12)
  rw [e1]
  have hm1 : μ1 0 5 = m := by rw [f1 0 (by decide) (by decide)]; exact hm
  rcases Int.lt_or_le 0 (q_sm w m) with hp | hp
  · have hl := q_lf_in (sum := sum) hp
    obtain ⟨μ2, e2, f2, g2⟩ := m_coins (K := fun μ22 => some (.inr none, μ22)) h6 hp (by omega) (q_lf m w sum).toNat zN μ1 _ _ hm1 g1 (q_ok_zero hp) (zN_gt (by omega)) (by omega)
    rw [Int.toNat_of_nonneg hl.1] at e2
    refine ⟨μ2, e2, fun c h20 h21 => by rw [f2 c h20 h21, f1 c h20 h21], fun i hi => ?_⟩
    rw [g2 i hi, q_shr_eq hp]
  · refine ⟨μ1, ?_, f1, fun i hi => ?_⟩
    · obtain ⟨n, hn⟩ : ∃ n, zN = n + 1 := ⟨999999, rfl⟩
      rw [hn]
      simp (disch := omega) only [L_Model_shares_119, Int.add_zero, Int.mul_zero, Int.reduceMul, Int.reduceAdd, Int.mul_one, Int.tdiv_eq_ediv_of_nonneg, Int.tmod_eq_emod_of_nonneg, ↓reduceIte, ↓zLet_eq, ↓zRd_ok, ↓zWr_ok, ↓zC_V, ↓zC_I, ↓zC_J, zUp_at, zUp_ne, q_up_at, q_up_ne, w32_of, w64_of, q_le_T, q_le_F, q_lt_T, q_lt_F, q_eq_T, q_eq_F, true_or, or_true, or_false, false_or]
    · rw [(g1 i hi).1]
      unfold q_shr
      rw [if_pos hp]
