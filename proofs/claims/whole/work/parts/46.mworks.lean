/-! ===== the reference works all out anew ===== -/
def q_z (n : Int) (f : Int → Int) : Prop := ∀ k, k < 0 ∨ n ≤ k → f k = 0
theorem q_z.tr {m : Nat} {q : Int} {pt p : Int → Int} (h : q_z 1206 p) (h6 : m ≤ 6) : q_z 1206 (q_tr m q pt p) := fun k hk => by
  rw [q_tr_at (by omega)]
  exact h k hk
def q_zz (σ : QS) : Prop := q_z 1206 σ.2.1 ∧ q_z 1206 σ.2.2.1
theorem q_zz.get {m : Nat} {ex : Int → Int} {d sum : Int} {σ : QS} (h : q_zz σ) (h6 : m ≤ 6) : q_zz (q_get m ex d sum σ) := ⟨h.1, h.2.tr h6⟩
theorem q_zz.pay {m : Nat} {ex : Int → Int} {d sum : Int} {σ : QS} (h : q_zz σ) (h6 : m ≤ 6) : q_zz (q_pay m ex d sum σ) := ⟨h.1.tr h6, h.2⟩
theorem q_zz.wn {m : Nat} {tm ex : Int → Int} {σ : QS} (h : q_zz σ) (h6 : m ≤ 6) : ∀ n : Nat, q_zz (q_wn m tm ex n σ)
  | 0 => h
  | n + 1 => ⟨(q_zz.wn h h6 n).1.tr h6, (q_zz.wn h h6 n).2⟩
theorem q_zz.act {m : Nat} {tm ex : Int → Int} {kd who sum ot : Int} {σ : QS} (h : q_zz σ) (h6 : m ≤ 6) : q_zz (q_do m tm ex kd who sum ot σ) := by
  unfold q_do
  split
  · exact h.pay h6
  split
  · exact q_zz.get (σ := (q_sb tm who sum 0 σ.1, σ.2)) h h6
  split
  · exact q_zz.get (σ := (q_sb tm who sum 1 σ.1, σ.2)) h h6
  split
  · exact h
  split
  · exact h.wn h6 _
  split
  · exact h
  split
  · exact h
  · exact q_zz.get (σ := (q_en tm σ.1, σ.2)) h h6
/-- an act of the journal -/
def q_jd (m : Nat) (tm ex J : Int → Int) (k : Int) (σ : QS) : QS := q_do m tm ex (J (5 * k)) (J (5 * k + 1)) (J (5 * k + 2)) (J (5 * k + 4)) σ
def q_ja (m dl : Nat) (J : Int → Int) (k : Int) : Prop := q_ac m dl (J (5 * k)) (J (5 * k + 1)) (J (5 * k + 2)) (J (5 * k + 4))
def q_jc (m dl : Nat) (ex J : Int → Int) (k : Int) (s : Int → Int) : Int := q_can m dl ex (J (5 * k)) (J (5 * k + 1)) (J (5 * k + 2)) (J (5 * k + 4)) s
theorem m_anew {μ : ZMem} {m : Nat} (hm : μ 0 5 = m) (h6 : m ≤ 6) (hp : ∀ i : Nat, i < m → 1 ≤ μ 3 i ∧ μ 3 i ≤ 9999) (h5 : q_z 92 (μ 5)) (hz6 : q_z 1206 (μ 6)) (hz7 : q_z 1206 (μ 7)) :
    ∃ μ', F_Model_anew μ = some (.inr none, μ') ∧ (∀ c, c ≠ 5 → c ≠ 6 → c ≠ 7 → μ' c = μ c) ∧ μ' 5 = q_s00 m (μ 3) ∧ (μ' 6 = fun _ => 0) ∧ (μ' 7 = fun _ => 0) := by
  have s1 : ∀ K : ZMem → Option ZRes, L_Model_anew_2 K zN 0 μ = K (q_fi μ 5 (fun _ => 0) (92 : Nat)) := fun K => by
    refine q_map (L := fun n j ν => L_Model_anew_2 K n j ν) (fun n j hj => ?_) (fun n => ?_) (zN_gt (by omega))
    · simp (disch := omega) only [L_Model_anew_2, Int.add_zero, Int.mul_zero, Int.reduceMul, Int.reduceAdd, Int.mul_one, Int.tdiv_eq_ediv_of_nonneg, Int.tmod_eq_emod_of_nonneg, ↓reduceIte, ↓zLet_eq, ↓zRd_ok, ↓zWr_ok, ↓zC_V, ↓zC_I, ↓zC_J, zUp_at, zUp_ne, q_up_at, q_up_ne, w32_of, w64_of, q_le_T, q_le_F, q_lt_T, q_lt_F, q_eq_T, q_eq_F, true_or, or_true, or_false, false_or, false_and, and_false]
    · simp (disch := omega) only [L_Model_anew_2, Int.add_zero, Int.mul_zero, Int.reduceMul, Int.reduceAdd, Int.mul_one, Int.tdiv_eq_ediv_of_nonneg, Int.tmod_eq_emod_of_nonneg, ↓reduceIte, ↓zLet_eq, ↓zRd_ok, ↓zWr_ok, ↓zC_V, ↓zC_I, ↓zC_J, zUp_at, zUp_ne, q_up_at, q_up_ne, w32_of, w64_of, q_le_T, q_le_F, q_lt_T, q_lt_F, q_eq_T, q_eq_F, true_or, or_true, or_false, false_or, false_and, and_false]
  have s2 : ∀ (μ1 : ZMem) (K : ZMem → Option ZRes), L_Model_anew_23 K zN 0 μ1 = K (q_fi (q_fi μ1 6 (fun _ => 0) (1206 : Nat)) 7 (fun _ => 0) (1206 : Nat)) := fun μ1 K => by
    have key : ∀ (k n j : Nat), j + k = 1206 → k < n → L_Model_anew_23 K n j (q_fi (q_fi μ1 6 (fun _ => 0) j) 7 (fun _ => 0) j) = K (q_fi (q_fi μ1 6 (fun _ => 0) (1206 : Nat)) 7 (fun _ => 0) (1206 : Nat)) := by
      intro k
      induction k with
      | zero =>
        intro n j hj hn
        obtain ⟨n, rfl⟩ : ∃ i, n = i + 1 := ⟨n - 1, by omega⟩
        obtain rfl : j = 1206 := by omega
        simp (disch := omega) only [L_Model_anew_23, Int.add_zero, Int.mul_zero, Int.reduceMul, Int.reduceAdd, Int.mul_one, Int.tdiv_eq_ediv_of_nonneg, Int.tmod_eq_emod_of_nonneg, ↓reduceIte, ↓zLet_eq, ↓zRd_ok, ↓zWr_ok, ↓zC_V, ↓zC_I, ↓zC_J, zUp_at, zUp_ne, q_up_at, q_up_ne, w32_of, w64_of, q_le_T, q_le_F, q_lt_T, q_lt_F, q_eq_T, q_eq_F, true_or, or_true, or_false, false_or, false_and, and_false]
      | succ k ih =>
        intro n j hj hn
        obtain ⟨n, rfl⟩ : ∃ i, n = i + 1 := ⟨n - 1, by omega⟩
        rw [← ih n (j + 1) (by omega) (by omega)]
        simp (disch := omega) only [L_Model_anew_23, Int.add_zero, Int.mul_zero, Int.reduceMul, Int.reduceAdd, Int.mul_one, Int.tdiv_eq_ediv_of_nonneg, Int.tmod_eq_emod_of_nonneg, ↓reduceIte, ↓zLet_eq, ↓zRd_ok, ↓zWr_ok, ↓zC_V, ↓zC_I, ↓zC_J, zUp_at, zUp_ne, q_up_at, q_up_ne, w32_of, w64_of, q_le_T, q_le_F, q_lt_T, q_lt_F, q_eq_T, q_eq_F, true_or, or_true, or_false, false_or, false_and, and_false]
        have e : zUp (zUp (q_fi (q_fi μ1 6 (fun _ => 0) j) 7 (fun _ => 0) j) 6 j 0) 7 j 0 = q_fi (q_fi μ1 6 (fun _ => 0) (j + 1)) 7 (fun _ => 0) (j + 1) := by
          have e1 := q_fi_succ (q_fi μ1 6 (fun _ => 0) (j + 1)) 7 (fun _ => 0) j
          have e2 := q_fi_succ μ1 6 (fun _ => 0) j
          rw [← e1, ← e2]
          funext c i
          unfold zUp q_fi
          by_cases c7 : c = 7
          · subst c7
            simp
          · simp [c7]
        rw [e]
        rfl
    have h := key 1206 zN 0 (by omega) (zN_gt (by omega))
    have e : q_fi (q_fi μ1 6 (fun _ => 0) ((0 : Nat) : Int)) 7 (fun _ => 0) ((0 : Nat) : Int) = μ1 := (q_fi_zero (q_fi μ1 6 (fun _ => 0) 0) 7 (fun _ => 0)).trans (q_fi_zero μ1 6 (fun _ => 0))
    rw [e] at h
    exact h
  generalize hμ2 : q_fi (q_fi (q_fi μ 5 (fun _ => 0) (92 : Nat)) 6 (fun _ => 0) (1206 : Nat)) 7 (fun _ => 0) (1206 : Nat) = μ2
  have f2 : ∀ c, c ≠ 5 → c ≠ 6 → c ≠ 7 → μ2 c = μ c := fun c c5 c6 c7 => by rw [← hμ2, q_fi_ne c7, q_fi_ne c6, q_fi_ne c5]
  have g5 : μ2 5 = fun _ => 0 := by
    rw [← hμ2, q_fi_ne (by decide), q_fi_ne (by decide)]
    funext k
    by_cases hk : 0 ≤ k ∧ k < 92
    · exact q_fi_in hk.1 hk.2
    · rw [q_fi_out (by omega)]
      exact h5 k (by omega)
  have g6 : μ2 6 = fun _ => 0 := by
    rw [← hμ2, q_fi_ne (by decide)]
    funext k
    by_cases hk : 0 ≤ k ∧ k < 1206
    · exact q_fi_in hk.1 hk.2
    · rw [q_fi_out (by omega), q_fi_ne (by decide)]
      exact hz6 k (by omega)
  have g7 : μ2 7 = fun _ => 0 := by
    rw [← hμ2]
    funext k
    by_cases hk : 0 ≤ k ∧ k < 1206
    · exact q_fi_in hk.1 hk.2
    · rw [q_fi_out (by omega), q_fi_ne (by decide), q_fi_ne (by decide)]
      exact hz7 k (by omega)
  unfold F_Model_anew
  rw [s1, s2, hμ2]
  obtain ⟨⟨v, ν⟩, e, j, rfl, hj, hf, h5'⟩ := q_loop (L := fun n (a : Int × ZMem) => L_Model_anew_52 (fun μ17 => some (.inr none, μ17)) n a.1 a.2) (P := fun k a => ∃ j : Nat, a.1 = j ∧ j + k = m ∧ (∀ c, c ≠ 5 → a.2 c = μ2 c) ∧ a.2 5 = q_s00 j (μ 3)) (fun n k a h => by
      obtain ⟨v, ν⟩ := a
      obtain ⟨j, rfl, hj, hf, h5'⟩ := h
      simp only [] at hf h5' ⊢
      have e05 : ν 0 5 = m := by rw [hf 0 (by decide), f2 0 (by decide) (by decide) (by decide)]; exact hm
      have e3 : ν 3 = μ 3 := by rw [hf 3 (by decide), f2 3 (by decide) (by decide) (by decide)]
      have hb := hp j (by omega)
      refine ⟨(j + 1, zUp (zUp ν 5 (5 * j) (μ 3 j)) 5 (5 * j + 1) (μ 3 j)), ?_, j + 1, rfl, by omega, fun c hc => by simp only []; rw [zUp_ne hc, zUp_ne hc, hf c hc], ?_⟩
      · simp (disch := omega) only [L_Model_anew_52, Int.add_zero, Int.mul_zero, Int.reduceMul, Int.reduceAdd, Int.mul_one, Int.tdiv_eq_ediv_of_nonneg, Int.tmod_eq_emod_of_nonneg, ↓reduceIte, ↓zLet_eq, ↓zRd_ok, ↓zWr_ok, ↓zC_V, ↓zC_I, ↓zC_J, zUp_at, zUp_ne, q_up_at, q_up_ne, w32_of, w64_of, q_le_T, q_le_F, q_lt_T, q_lt_F, q_eq_T, q_eq_F, true_or, or_true, or_false, false_or, false_and, and_false, m_placeOf, e3]
      · simp only [zUp_at]
        rw [h5']
        funext k
        unfold q_up
        by_cases k1 : k = 5 * j + 1
        · subst k1
          rw [if_pos rfl]
          unfold q_s00
          rw [if_pos (by omega), show (5 * (j : Int) + 1) / 5 = j by omega]
        · rw [if_neg k1]
          by_cases k2 : k = 5 * j
          · subst k2
            rw [if_pos rfl]
            unfold q_s00
            rw [if_pos (by omega), show (5 * (j : Int)) / 5 = j by omega]
          · rw [if_neg k2]
            unfold q_s00
            by_cases h3 : 0 ≤ k ∧ k < 5 * (j : Int) ∧ (k % 5 = 0 ∨ k % 5 = 1)
            · rw [if_pos h3, if_pos (by omega)]
            · rw [if_neg h3, if_neg (by omega)]) m zN (0, μ2) ⟨0, rfl, by omega, fun _ _ => rfl, by simp only []; rw [g5]; funext k; exact (if_neg (by omega)).symm⟩ (Nat.le_of_lt (zN_gt (by omega)))
  obtain rfl : j = m := by omega
  simp only [] at e hf h5'
  have e05 : ν 0 5 = j := by rw [hf 0 (by decide), f2 0 (by decide) (by decide) (by decide)]; exact hm
  refine ⟨ν, ?_, fun c c5 c6 c7 => by rw [hf c c5, f2 c c5 c6 c7], h5', by rw [hf 6 (by decide), g6], by rw [hf 7 (by decide), g7]⟩
  rw [e]
  obtain ⟨n, hn⟩ : ∃ n, zN - j = n + 1 := ⟨zN - j - 1, by have := zN_gt (m := j) (by omega); omega⟩
  rw [hn]
  simp (disch := omega) only [L_Model_anew_52, Int.add_zero, Int.mul_zero, Int.reduceMul, Int.reduceAdd, Int.mul_one, Int.tdiv_eq_ediv_of_nonneg, Int.tmod_eq_emod_of_nonneg, ↓reduceIte, ↓zLet_eq, ↓zRd_ok, ↓zWr_ok, ↓zC_V, ↓zC_I, ↓zC_J, zUp_at, zUp_ne, q_up_at, q_up_ne, w32_of, w64_of, q_le_T, q_le_F, q_lt_T, q_lt_F, q_eq_T, q_eq_F, true_or, or_true, or_false, false_or, false_and, and_false]
