/-! ===== the class's way to share ===== -/
theorem r_arg {m : Nat} {ν : ZMem} {c5 c7 : Int} {K : Int → Option ZRes} (hm : ν 0 8 = m) (h6 : m ≤ 6) (h0 : 0 < m) (hr : ∀ i : Nat, i < m → 0 ≤ ν 8 i ∧ ν 8 i < 1000000000) : L_Register_split_143 c5 c7 ν K zN 0 1 = K (q_bst (ν 8) m) := by
  refine q_arg (L := fun n b j => L_Register_split_143 c5 c7 ν K n b j) (fun n b j hj hb hbj => ?_) (fun n b => ?_) h0 (zN_gt (by omega))
  · have h1 := hr j hj
    have h2 := hr b.toNat (by omega)
    rw [Int.toNat_of_nonneg hb] at h2
    simp (disch := omega) only [L_Register_split_143, J_Register_split_174, Int.add_zero, Int.mul_zero, Int.reduceMul, Int.reduceAdd, Int.mul_one, Int.tdiv_eq_ediv_of_nonneg, Int.tmod_eq_emod_of_nonneg, ↓reduceIte, ↓zLet_eq, ↓zRd_ok, ↓zWr_ok, ↓zC_V, ↓zC_I, ↓zC_J, zUp_at, zUp_ne, q_up_at, q_up_ne, w32_of, w64_of, q_le_T, q_le_F, q_lt_T, q_lt_F, q_eq_T, q_eq_F, true_or, or_true, or_false, false_or, false_and, and_false]
    by_cases h : ν 8 b < ν 8 j
    · simp (disch := omega) only [Int.add_zero, Int.mul_zero, Int.reduceMul, Int.reduceAdd, Int.mul_one, Int.tdiv_eq_ediv_of_nonneg, Int.tmod_eq_emod_of_nonneg, ↓reduceIte, ↓zLet_eq, ↓zRd_ok, ↓zWr_ok, ↓zC_V, ↓zC_I, ↓zC_J, zUp_at, zUp_ne, q_up_at, q_up_ne, w32_of, w64_of, q_le_T, q_le_F, q_lt_T, q_lt_F, q_eq_T, q_eq_F, true_or, or_true, or_false, false_or, false_and, and_false]
    · simp (disch := omega) only [Int.add_zero, Int.mul_zero, Int.reduceMul, Int.reduceAdd, Int.mul_one, Int.tdiv_eq_ediv_of_nonneg, Int.tmod_eq_emod_of_nonneg, ↓reduceIte, ↓zLet_eq, ↓zRd_ok, ↓zWr_ok, ↓zC_V, ↓zC_I, ↓zC_J, zUp_at, zUp_ne, q_up_at, q_up_ne, w32_of, w64_of, q_le_T, q_le_F, q_lt_T, q_lt_F, q_eq_T, q_eq_F, true_or, or_true, or_false, false_or, false_and, and_false]
  · simp (disch := omega) only [L_Register_split_143, Int.add_zero, Int.mul_zero, Int.reduceMul, Int.reduceAdd, Int.mul_one, Int.tdiv_eq_ediv_of_nonneg, Int.tmod_eq_emod_of_nonneg, ↓reduceIte, ↓zLet_eq, ↓zRd_ok, ↓zWr_ok, ↓zC_V, ↓zC_I, ↓zC_J, zUp_at, zUp_ne, q_up_at, q_up_ne, w32_of, w64_of, q_le_T, q_le_F, q_lt_T, q_lt_F, q_eq_T, q_eq_F, true_or, or_true, or_false, false_or, false_and, and_false]
theorem r_coins {m : Nat} {A left : Int} {K : ZMem → Option ZRes} (h6 : m ≤ 6) (hA : 0 < A) (hA1 : A < 1000000000) (hl : left < m) : ∀ (k n : Nat) (v : Int) (ν : ZMem) (p r : Int → Int), v + k = left → 0 ≤ v → ν 0 8 = m → (∀ i : Nat, i < m → ν 7 i = p i ∧ ν 8 i = if 0 < r i then r i else 0) → q_ok m A k r → k < n → ∃ ν', L_Register_split_119 left K n v ν = K ν' ∧ (∀ c, c ≠ 7 → c ≠ 8 → ν' c = ν c) ∧ ∀ i : Nat, i < m → ν' 7 i = q_cn m k p r i := by
  intro k
  induction k with
  | zero =>
    intro n v ν p r hv hv0 hm hp ho hn
    obtain ⟨n, rfl⟩ : ∃ i, n = i + 1 := ⟨n - 1, by omega⟩
    refine ⟨ν, ?_, fun _ _ _ => rfl, fun i hi => (hp i hi).1⟩
    simp (disch := omega) only [L_Register_split_119, Int.add_zero, Int.mul_zero, Int.reduceMul, Int.reduceAdd, Int.mul_one, Int.tdiv_eq_ediv_of_nonneg, Int.tmod_eq_emod_of_nonneg, ↓reduceIte, ↓zLet_eq, ↓zRd_ok, ↓zWr_ok, ↓zC_V, ↓zC_I, ↓zC_J, zUp_at, zUp_ne, q_up_at, q_up_ne, w32_of, w64_of, q_le_T, q_le_F, q_lt_T, q_lt_F, q_eq_T, q_eq_F, true_or, or_true, or_false, false_or, false_and, and_false]
  | succ k ih =>
    intro n v ν p r hv hv0 hm hp ho hn
    obtain ⟨n, rfl⟩ : ∃ i, n = i + 1 := ⟨n - 1, by omega⟩
    obtain ⟨h0, hb⟩ := ho.best hA
    have hin := q_bst_in r m h0
    have hr : ∀ i : Nat, i < m → 0 ≤ ν 8 i ∧ ν 8 i < 1000000000 := fun i hi => by
      rw [(hp i hi).2]
      have := ho.1 i hi
      split <;> omega
    have e : q_bst (ν 8) m = q_bst r m := q_bst_pos (fun i hi => (hp i hi).2) h0 hb
    have hpb := hp (q_bst r m).toNat (by omega)
    rw [Int.toNat_of_nonneg hin.1, if_pos hb] at hpb
    have hrb := ho.1 (q_bst r m).toNat (by omega)
    rw [Int.toNat_of_nonneg hin.1] at hrb
    obtain ⟨ν', e1, f1, g1⟩ := ih n (v + 1) (zUp (zUp ν 7 (q_bst r m) (p (q_bst r m) + 1)) 8 (q_bst r m) 0) (q_up p (q_bst r m) (p (q_bst r m) + 1)) (q_up r (q_bst r m) (-1)) (by omega) (by omega)
      (by simp (disch := omega) only [zUp_ne]; exact hm) (fun i hi => by
        simp (disch := omega) only [zUp_ne, zUp_at]
        unfold q_up
        by_cases ei : (i : Int) = q_bst r m
        · simp only [if_pos ei]
          exact ⟨trivial, rfl⟩
        · simp only [if_neg ei]
          exact hp i hi) (ho.step hA) (by omega)
    refine ⟨ν', ?_, fun c h7 h8 => ?_, g1⟩
    · rw [← e1]
      simp (disch := omega) only [L_Register_split_119, J_Register_split_211, Int.add_zero, Int.mul_zero, Int.reduceMul, Int.reduceAdd, Int.mul_one, Int.tdiv_eq_ediv_of_nonneg, Int.tmod_eq_emod_of_nonneg, ↓reduceIte, ↓zLet_eq, ↓zRd_ok, ↓zWr_ok, ↓zC_V, ↓zC_I, ↓zC_J, zUp_at, zUp_ne, q_up_at, q_up_ne, w32_of, w64_of, q_le_T, q_le_F, q_lt_T, q_lt_F, q_eq_T, q_eq_F, true_or, or_true, or_false, false_or, false_and, and_false, r_arg hm h6 h0 hr, e, hpb.1, hpb.2]
    · rw [f1 c h7 h8, zUp_ne h8, zUp_ne h7]
theorem r_split {m : Nat} {ν : ZMem} {w : Int → Int} {sum : Int} (hm : ν 0 8 = m) (h6 : m ≤ 6) (hw : ∀ i : Nat, i < m → ν 6 i = w i ∧ 0 ≤ w i ∧ w i ≤ 9999) (hs0 : 0 ≤ sum) (hs1 : sum ≤ 10000000000000) :
    ∃ ν', F_Register_split sum ν = some (.inr none, ν') ∧ (∀ c, c ≠ 7 → c ≠ 8 → ν' c = ν c) ∧ ∀ i : Nat, i < m → ν' 7 i = q_shr m w sum i := by
  have eA : q_sm (ν 6) m = q_sm w m := q_sm_congr (fun i hi => (hw i hi).1)
  have hA0 : 0 ≤ q_sm w m := q_sm_nonneg (fun i hi => (hw i hi).2.1)
  have hA1 : q_sm w m ≤ 6 * 9999 := q_sm_bd6 h6 (by decide) (fun i hi => (hw i hi).2.2)
  have s1 : ∀ K : Int → Option ZRes, L_Register_split_5 sum ν K zN 0 0 = K (q_sm (ν 6) m) := fun K => by
    refine q_acc (L := fun n a j => L_Register_split_5 sum ν K n a j) (fun n a j hj => ?_) (fun n a => ?_) (zN_gt (by omega))
    · simp (disch := omega) only [L_Register_split_5, Int.add_zero, Int.mul_zero, Int.reduceMul, Int.reduceAdd, Int.mul_one, Int.tdiv_eq_ediv_of_nonneg, Int.tmod_eq_emod_of_nonneg, ↓reduceIte, ↓zLet_eq, ↓zRd_ok, ↓zWr_ok, ↓zC_V, ↓zC_I, ↓zC_J, zUp_at, zUp_ne, q_up_at, q_up_ne, w32_of, w64_of, q_le_T, q_le_F, q_lt_T, q_lt_F, q_eq_T, q_eq_F, true_or, or_true, or_false, false_or, false_and, and_false]
    · simp (disch := omega) only [L_Register_split_5, Int.add_zero, Int.mul_zero, Int.reduceMul, Int.reduceAdd, Int.mul_one, Int.tdiv_eq_ediv_of_nonneg, Int.tmod_eq_emod_of_nonneg, ↓reduceIte, ↓zLet_eq, ↓zRd_ok, ↓zWr_ok, ↓zC_V, ↓zC_I, ↓zC_J, zUp_at, zUp_ne, q_up_at, q_up_ne, w32_of, w64_of, q_le_T, q_le_F, q_lt_T, q_lt_F, q_eq_T, q_eq_F, true_or, or_true, or_false, false_or, false_and, and_false]
  have s2 : ∀ K : Int → ZMem → Option ZRes, ∃ ν', L_Register_split_36 sum (q_sm w m) K zN sum 0 ν = K (q_lf m w sum) ν' ∧ (∀ c, c ≠ 7 → c ≠ 8 → ν' c = ν c) ∧ ∀ i : Nat, i < m → ν' 7 i = q_b0 w (q_sm w m) sum i ∧ ν' 8 i = q_r0 w (q_sm w m) sum i := fun K => by
    obtain ⟨⟨l, v, ν1⟩, e, j, rfl, hj, hl, hf, hv⟩ := q_loop (L := fun n (a : Int × Int × ZMem) => L_Register_split_36 sum (q_sm w m) K n a.1 a.2.1 a.2.2) (P := fun k a => ∃ j : Nat, a.2.1 = j ∧ j + k = m ∧ a.1 = sum - q_sm (q_b0 w (q_sm w m) sum) j ∧ (∀ c, c ≠ 7 → c ≠ 8 → a.2.2 c = ν c) ∧ ∀ i : Nat, i < j → a.2.2 7 i = q_b0 w (q_sm w m) sum i ∧ a.2.2 8 i = q_r0 w (q_sm w m) sum i) (fun n k a h => by
        obtain ⟨l, v, ν1⟩ := a
        obtain ⟨j, rfl, hj, rfl, hf, hv⟩ := h
        simp only [] at hf hv
        have e08 : ν1 0 8 = m := by rw [hf 0 (by decide) (by decide)]; exact hm
        have e6 : ν1 6 j = w j := by rw [hf 6 (by decide) (by decide)]; exact (hw j (by omega)).1
        have hwj := (hw j (by omega)).2
        have hp := q_mb hs0 hs1 hwj.1 hwj.2
        refine ⟨(sum - q_sm (q_b0 w (q_sm w m) sum) j - q_b0 w (q_sm w m) sum j, j + 1, zUp (zUp ν1 7 j (q_b0 w (q_sm w m) sum j)) 8 j (q_r0 w (q_sm w m) sum j)), ?_, j + 1, rfl, by omega, ?_, ?_, ?_⟩
        · by_cases hz : q_sm w m = 0
          · simp (disch := omega) only [L_Register_split_36, J_Register_split_76, J_Register_split_97, Int.add_zero, Int.mul_zero, Int.reduceMul, Int.reduceAdd, Int.mul_one, Int.tdiv_eq_ediv_of_nonneg, Int.tmod_eq_emod_of_nonneg, ↓reduceIte, ↓zLet_eq, ↓zRd_ok, ↓zWr_ok, ↓zC_V, ↓zC_I, ↓zC_J, zUp_at, zUp_ne, q_up_at, q_up_ne, w32_of, w64_of, q_le_T, q_le_F, q_lt_T, q_lt_F, q_eq_T, q_eq_F, true_or, or_true, or_false, false_or, false_and, and_false, q_b0, q_r0]
          · simp (disch := omega) only [L_Register_split_36, J_Register_split_76, J_Register_split_97, Int.add_zero, Int.mul_zero, Int.reduceMul, Int.reduceAdd, Int.mul_one, Int.tdiv_eq_ediv_of_nonneg, Int.tmod_eq_emod_of_nonneg, ↓reduceIte, ↓zLet_eq, ↓zRd_ok, ↓zWr_ok, ↓zC_V, ↓zC_I, ↓zC_J, zUp_at, zUp_ne, q_up_at, q_up_ne, w32_of, w64_of, q_le_T, q_le_F, q_lt_T, q_lt_F, q_eq_T, q_eq_F, true_or, or_true, or_false, false_or, false_and, and_false, q_b0, q_r0, e6]
        · simp only [q_sm]
          omega
        · intro c h7 h8
          simp only []
          rw [zUp_ne h8, zUp_ne h7, hf c h7 h8]
        · intro i hi
          simp (disch := omega) only [zUp_ne, zUp_at]
          by_cases ei : i = j
          · subst ei
            simp only [q_up_at, and_self]
          · simp (disch := omega) only [q_up_ne]
            exact hv i (by omega)) m zN (sum, 0, ν) ⟨0, rfl, by omega, by simp [q_sm], fun _ _ _ => rfl, fun i hi => by omega⟩ (Nat.le_of_lt (zN_gt (by omega)))
    obtain rfl : j = m := by omega
    refine ⟨ν1, ?_, hf, hv⟩
    simp only [] at e hl hf hv
    rw [e]
    obtain ⟨n, hn⟩ : ∃ n, zN - j = n + 1 := ⟨zN - j - 1, by have := zN_gt (m := j) (by omega); omega⟩
    have e08 : ν1 0 8 = j := by rw [hf 0 (by decide) (by decide)]; exact hm
    rw [hn, hl]
    simp (disch := omega) only [L_Register_split_36, Int.add_zero, Int.mul_zero, Int.reduceMul, Int.reduceAdd, Int.mul_one, Int.tdiv_eq_ediv_of_nonneg, Int.tmod_eq_emod_of_nonneg, ↓reduceIte, ↓zLet_eq, ↓zRd_ok, ↓zWr_ok, ↓zC_V, ↓zC_I, ↓zC_J, zUp_at, zUp_ne, q_up_at, q_up_ne, w32_of, w64_of, q_le_T, q_le_F, q_lt_T, q_lt_F, q_eq_T, q_eq_F, true_or, or_true, or_false, false_or, false_and, and_false, q_lf]
  unfold F_Register_split
  rw [s1, eA]
  obtain ⟨ν1, e1, f1, g1⟩ := s2 (fun k13 μ12 => L_Register_split_119 k13 (fun μ23 => some (.inr none, μ23)) zN 0 μ12)
  rw [e1]
  have hm1 : ν1 0 8 = m := by rw [f1 0 (by decide) (by decide)]; exact hm
  rcases Int.lt_or_le 0 (q_sm w m) with hp | hp
  · have hl := q_lf_in (sum := sum) hp
    obtain ⟨ν2, e2, f2, g2⟩ := r_coins (K := fun μ23 => some (.inr none, μ23)) h6 hp (by omega) hl.2 (q_lf m w sum).toNat zN 0 ν1 (q_b0 w (q_sm w m) sum) (q_r0 w (q_sm w m) sum) (by omega) (by omega) hm1 (fun i hi => ⟨(g1 i hi).1, by
      rw [(g1 i hi).2]
      have := (q_r0_lo (sum := sum) hp i).1
      split <;> omega⟩) (q_ok_zero hp) (zN_gt (by omega))
    refine ⟨ν2, e2, fun c h7 h8 => by rw [f2 c h7 h8, f1 c h7 h8], fun i hi => ?_⟩
    rw [g2 i hi, q_shr_eq hp]
  · have hz : q_sm w m = 0 := by omega
    have hb0 : ∀ i : Int, q_b0 w (q_sm w m) sum i = 0 := fun i => if_pos hz
    have hr0 : ∀ i : Int, q_r0 w (q_sm w m) sum i = 0 := fun i => if_pos hz
    have hlf : q_lf m w sum = sum := by
      unfold q_lf
      rw [q_sm_zero (fun i _ => hb0 i)]
      omega
    have key : ∀ (k n j : Nat), j + k = m → k < n → L_Register_split_119 sum (fun μ23 => some (.inr none, μ23)) n j ν1 = some (.inr none, ν1) := by
      intro k
      induction k with
      | zero =>
        intro n j hj hn
        obtain ⟨n, rfl⟩ : ∃ i, n = i + 1 := ⟨n - 1, by omega⟩
        simp (disch := omega) only [L_Register_split_119, Int.add_zero, Int.mul_zero, Int.reduceMul, Int.reduceAdd, Int.mul_one, Int.tdiv_eq_ediv_of_nonneg, Int.tmod_eq_emod_of_nonneg, ↓reduceIte, ↓zLet_eq, ↓zRd_ok, ↓zWr_ok, ↓zC_V, ↓zC_I, ↓zC_J, zUp_at, zUp_ne, q_up_at, q_up_ne, w32_of, w64_of, q_le_T, q_le_F, q_lt_T, q_lt_F, q_eq_T, q_eq_F, true_or, or_true, or_false, false_or, false_and, and_false]
      | succ k ih =>
        intro n j hj hn
        obtain ⟨n, rfl⟩ : ∃ i, n = i + 1 := ⟨n - 1, by omega⟩
        by_cases hle : sum ≤ j
        · simp (disch := omega) only [L_Register_split_119, Int.add_zero, Int.mul_zero, Int.reduceMul, Int.reduceAdd, Int.mul_one, Int.tdiv_eq_ediv_of_nonneg, Int.tmod_eq_emod_of_nonneg, ↓reduceIte, ↓zLet_eq, ↓zRd_ok, ↓zWr_ok, ↓zC_V, ↓zC_I, ↓zC_J, zUp_at, zUp_ne, q_up_at, q_up_ne, w32_of, w64_of, q_le_T, q_le_F, q_lt_T, q_lt_F, q_eq_T, q_eq_F, true_or, or_true, or_false, false_or, false_and, and_false]
        · have hr : ∀ i : Nat, i < m → 0 ≤ ν1 8 i ∧ ν1 8 i < 1000000000 := fun i hi => by
            rw [(g1 i hi).2, hr0]
            omega
          have hin := q_bst_in (ν1 8) m (by omega)
          have hz8 := (g1 (q_bst (ν1 8) m).toNat (by omega)).2
          rw [Int.toNat_of_nonneg hin.1, hr0] at hz8
          rw [← ih n (j + 1) (by omega) (by omega)]
          simp (disch := omega) only [L_Register_split_119, J_Register_split_211, Int.add_zero, Int.mul_zero, Int.reduceMul, Int.reduceAdd, Int.mul_one, Int.tdiv_eq_ediv_of_nonneg, Int.tmod_eq_emod_of_nonneg, ↓reduceIte, ↓zLet_eq, ↓zRd_ok, ↓zWr_ok, ↓zC_V, ↓zC_I, ↓zC_J, zUp_at, zUp_ne, q_up_at, q_up_ne, w32_of, w64_of, q_le_T, q_le_F, q_lt_T, q_lt_F, q_eq_T, q_eq_F, true_or, or_true, or_false, false_or, false_and, and_false, r_arg hm1 h6 (show 0 < m by omega) hr, hz8]
          rfl
    rw [hlf]
    refine ⟨ν1, key m zN 0 (by omega) (zN_gt (by omega)), f1, fun i hi => ?_⟩
    rw [(g1 i hi).1]
    unfold q_shr
    rw [if_pos hp]
