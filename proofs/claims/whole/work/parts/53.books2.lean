/-! ===== the class's books: the other methods ===== -/
theorem b_isDealwise {dl : Nat} {tm s : Int → Int} {ν : ZMem} (h : b_bk dl tm s ν) (ht : q_tm tm) : F_Books_isDealwise ν = some (.inr (some (zI (if tm 3 = 1 then 1 else 0))), ν) := by
  obtain ⟨t0, t1, t2, t3, t4, t5, t6⟩ := h.tt
  have hd := ht.2.2.2.1
  unfold F_Books_isDealwise
  by_cases h3 : tm 3 = 1
  · simp (disch := omega) only [Int.add_zero, Int.mul_zero, Int.reduceMul, Int.reduceAdd, Int.mul_one, Int.tdiv_eq_ediv_of_nonneg, Int.tmod_eq_emod_of_nonneg, ↓reduceIte, ↓zLet_eq, ↓zRd_ok, ↓zWr_ok, ↓zC_V, ↓zC_I, ↓zC_J, zUp_at, zUp_ne, q_up_at, q_up_ne, w32_of, w64_of, q_le_T, q_le_F, q_lt_T, q_lt_F, q_eq_T, q_eq_F, true_or, or_true, or_false, false_or, false_and, and_false]
  · simp (disch := omega) only [Int.add_zero, Int.mul_zero, Int.reduceMul, Int.reduceAdd, Int.mul_one, Int.tdiv_eq_ediv_of_nonneg, Int.tmod_eq_emod_of_nonneg, ↓reduceIte, ↓zLet_eq, ↓zRd_ok, ↓zWr_ok, ↓zC_V, ↓zC_I, ↓zC_J, zUp_at, zUp_ne, q_up_at, q_up_ne, w32_of, w64_of, q_le_T, q_le_F, q_lt_T, q_lt_F, q_eq_T, q_eq_F, true_or, or_true, or_false, false_or, false_and, and_false]
theorem b_isOpen {dl : Nat} {tm s : Int → Int} {ν : ZMem} {d : Int} (h : b_bk dl tm s ν) (d0 : 0 ≤ d) (d1 : d < 6) (hc0 : 0 ≤ s (30 + 4 * d + 3)) (hc1 : s (30 + 4 * d + 3) ≤ 1) : F_Books_isOpen d ν = some (.inr (some (zI (if s (30 + 4 * d + 3) = 0 then 1 else 0))), ν) := by
  have e := h.de (w := 3) d0 d1 (by decide) (by decide)
  unfold F_Books_isOpen
  by_cases h3 : s (30 + 4 * d + 3) = 0
  · simp (disch := omega) only [Int.add_zero, Int.mul_zero, Int.reduceMul, Int.reduceAdd, Int.mul_one, Int.tdiv_eq_ediv_of_nonneg, Int.tmod_eq_emod_of_nonneg, ↓reduceIte, ↓zLet_eq, ↓zRd_ok, ↓zWr_ok, ↓zC_V, ↓zC_I, ↓zC_J, zUp_at, zUp_ne, q_up_at, q_up_ne, w32_of, w64_of, q_le_T, q_le_F, q_lt_T, q_lt_F, q_eq_T, q_eq_F, true_or, or_true, or_false, false_or, false_and, and_false]
  · simp (disch := omega) only [Int.add_zero, Int.mul_zero, Int.reduceMul, Int.reduceAdd, Int.mul_one, Int.tdiv_eq_ediv_of_nonneg, Int.tmod_eq_emod_of_nonneg, ↓reduceIte, ↓zLet_eq, ↓zRd_ok, ↓zWr_ok, ↓zC_V, ↓zC_I, ↓zC_J, zUp_at, zUp_ne, q_up_at, q_up_ne, w32_of, w64_of, q_le_T, q_le_F, q_lt_T, q_lt_F, q_eq_T, q_eq_F, true_or, or_true, or_false, false_or, false_and, and_false]
/-- the books' parts of a row alone count -/
theorem b_bk.congr {dl : Nat} {tm s s' : Int → Int} {ν : ZMem} (h : b_bk dl tm s ν) (e : ∀ k, 30 ≤ k → k < 92 → s' k = s k) : b_bk dl tm s' ν := by
  refine ⟨h.1, fun k k0 k1 => ?_, fun k k0 k1 => ?_, fun k k0 k1 => ?_, fun k k0 k1 => ?_, h.2.2.2.2.2.1, ?_, ?_⟩
  · rw [e _ (by omega) (by omega)]; exact h.2.1 k k0 k1
  · rw [e _ (by omega) (by omega)]; exact h.2.2.1 k k0 k1
  · rw [e _ (by omega) (by omega)]; exact h.2.2.2.1 k k0 k1
  · rw [e _ (by omega) (by omega)]; exact h.2.2.2.2.1 k k0 k1
  · rw [e _ (by omega) (by omega)]; exact h.2.2.2.2.2.2.1
  · rw [e _ (by omega) (by omega)]; exact h.2.2.2.2.2.2.2
/-- one number of a deal -/
theorem b_bk.setD {dl : Nat} {tm s : Int → Int} {ν : ZMem} {d w v : Int} (h : b_bk dl tm s ν) (d0 : 0 ≤ d) (d1 : d < 6) (h0 : 0 ≤ w) (h1 : w < 4) : b_bk dl tm (q_up s (30 + 4 * d + w) v) (zUp ν 3 (d * 4 + w) v) := by
  refine ⟨fun k k0 k1 => ?_, fun k k0 k1 => ?_, fun k k0 k1 => ?_, fun k k0 k1 => ?_, fun k k0 k1 => ?_, ?_, ?_, ?_⟩
  · rw [zUp_ne (by decide)]; exact h.1 k k0 k1
  · rw [zUp_ne (by decide), q_up_ne (by omega)]; exact h.2.1 k k0 k1
  · rw [zUp_ne (by decide), q_up_ne (by omega)]; exact h.2.2.1 k k0 k1
  · rw [zUp_at]
    unfold q_up
    by_cases e : k = d * 4 + w
    · rw [if_pos e, if_pos (by omega)]
    · rw [if_neg e, if_neg (by omega)]; exact h.2.2.2.1 k k0 k1
  · rw [zUp_ne (by decide), q_up_ne (by omega)]; exact h.2.2.2.2.1 k k0 k1
  · rw [zUp_ne (by decide)]; exact h.2.2.2.2.2.1
  · rw [zUp_ne (by decide), q_up_ne (by omega)]; exact h.2.2.2.2.2.2.1
  · rw [zUp_ne (by decide), q_up_ne (by omega)]; exact h.2.2.2.2.2.2.2
/-- one number of a ladder -/
theorem b_bk.setL {dl : Nat} {tm s : Int → Int} {ν : ZMem} {k j v : Int} (h : b_bk dl tm s ν) (hk : (0 ≤ k ∧ k < 24 ∧ j = 62 + k) ∨ (24 ≤ k ∧ k < 32 ∧ j = 30 + k)) : b_bk dl tm (q_up s j v) (zUp ν 2 k v) := by
  refine ⟨fun i k0 k1 => ?_, fun i k0 k1 => ?_, fun i k0 k1 => ?_, fun i k0 k1 => ?_, fun i k0 k1 => ?_, ?_, ?_, ?_⟩
  · rw [zUp_ne (by decide)]; exact h.1 i k0 k1
  · rw [zUp_at]
    unfold q_up
    by_cases e : i = k
    · rw [if_pos e, if_pos (by omega)]
    · rw [if_neg e, if_neg (by omega)]; exact h.2.1 i k0 k1
  · rw [zUp_at]
    unfold q_up
    by_cases e : i = k
    · rw [if_pos e, if_pos (by omega)]
    · rw [if_neg e, if_neg (by omega)]; exact h.2.2.1 i k0 k1
  · rw [zUp_ne (by decide), q_up_ne (by omega)]; exact h.2.2.2.1 i k0 k1
  · rw [zUp_ne (by decide), q_up_ne (by omega)]; exact h.2.2.2.2.1 i k0 k1
  · rw [zUp_ne (by decide)]; exact h.2.2.2.2.2.1
  · rw [zUp_ne (by decide), q_up_ne (by omega)]; exact h.2.2.2.2.2.2.1
  · rw [zUp_ne (by decide), q_up_ne (by omega)]; exact h.2.2.2.2.2.2.2
/-- one number of the manager's -/
theorem b_bk.setP {dl : Nat} {tm s : Int → Int} {ν : ZMem} {k v : Int} (h : b_bk dl tm s ν) (h0 : 0 ≤ k) (h1 : k < 4) : b_bk dl tm (q_up s (86 + k) v) (zUp ν 4 k v) := by
  refine ⟨fun i k0 k1 => ?_, fun i k0 k1 => ?_, fun i k0 k1 => ?_, fun i k0 k1 => ?_, fun i k0 k1 => ?_, ?_, ?_, ?_⟩
  · rw [zUp_ne (by decide)]; exact h.1 i k0 k1
  · rw [zUp_ne (by decide), q_up_ne (by omega)]; exact h.2.1 i k0 k1
  · rw [zUp_ne (by decide), q_up_ne (by omega)]; exact h.2.2.1 i k0 k1
  · rw [zUp_ne (by decide), q_up_ne (by omega)]; exact h.2.2.2.1 i k0 k1
  · rw [zUp_at]
    unfold q_up
    by_cases e : i = k
    · rw [if_pos e, if_pos (by omega)]
    · rw [if_neg e, if_neg (by omega)]; exact h.2.2.2.2.1 i k0 k1
  · rw [zUp_ne (by decide)]; exact h.2.2.2.2.2.1
  · rw [zUp_ne (by decide), q_up_ne (by omega)]; exact h.2.2.2.2.2.2.1
  · rw [zUp_ne (by decide), q_up_ne (by omega)]; exact h.2.2.2.2.2.2.2
theorem b_bk.setQ {dl : Nat} {tm s : Int → Int} {ν : ZMem} {v : Int} (h : b_bk dl tm s ν) : b_bk dl tm (q_up s 90 v) (zUp ν 0 6 v) := by
  refine ⟨fun i k0 k1 => ?_, fun i k0 k1 => ?_, fun i k0 k1 => ?_, fun i k0 k1 => ?_, fun i k0 k1 => ?_, ?_, ?_, ?_⟩
  · rw [zUp_ne (by decide)]; exact h.1 i k0 k1
  · rw [zUp_ne (by decide), q_up_ne (by omega)]; exact h.2.1 i k0 k1
  · rw [zUp_ne (by decide), q_up_ne (by omega)]; exact h.2.2.1 i k0 k1
  · rw [zUp_ne (by decide), q_up_ne (by omega)]; exact h.2.2.2.1 i k0 k1
  · rw [zUp_ne (by decide), q_up_ne (by omega)]; exact h.2.2.2.2.1 i k0 k1
  · rw [zUp_at, q_up_ne (by decide)]; exact h.2.2.2.2.2.1
  · rw [zUp_at, q_up_at, q_up_at]
  · rw [zUp_at, q_up_ne (by decide), q_up_ne (by decide)]; exact h.2.2.2.2.2.2.2
theorem b_bk.setE {dl : Nat} {tm s : Int → Int} {ν : ZMem} {v : Int} (h : b_bk dl tm s ν) : b_bk dl tm (q_up s 91 v) (zUp ν 0 7 v) := by
  refine ⟨fun i k0 k1 => ?_, fun i k0 k1 => ?_, fun i k0 k1 => ?_, fun i k0 k1 => ?_, fun i k0 k1 => ?_, ?_, ?_, ?_⟩
  · rw [zUp_ne (by decide)]; exact h.1 i k0 k1
  · rw [zUp_ne (by decide), q_up_ne (by omega)]; exact h.2.1 i k0 k1
  · rw [zUp_ne (by decide), q_up_ne (by omega)]; exact h.2.2.1 i k0 k1
  · rw [zUp_ne (by decide), q_up_ne (by omega)]; exact h.2.2.2.1 i k0 k1
  · rw [zUp_ne (by decide), q_up_ne (by omega)]; exact h.2.2.2.2.1 i k0 k1
  · rw [zUp_at, q_up_ne (by decide)]; exact h.2.2.2.2.2.1
  · rw [zUp_at, q_up_ne (by decide), q_up_ne (by decide)]; exact h.2.2.2.2.2.2.1
  · rw [zUp_at, q_up_at, q_up_at]
theorem b_bk.cells {dl : Nat} {tm s : Int → Int} {ν ν' : ZMem} (h : b_bk dl tm s ν) (e : ∀ c, c ≠ 5 → ν' c = ν c) : b_bk dl tm s ν' := by
  unfold b_bk
  rw [e 0 (by decide), e 1 (by decide), e 2 (by decide), e 3 (by decide), e 4 (by decide)]
  exact h
theorem b_raise {dl : Nat} {tm s : Int → Int} {ν : ZMem} {d sum : Int} (h : b_bk dl tm s ν) (ht : q_tm tm) (d0 : 0 ≤ d) (d1 : d < 6) (hs0 : 0 ≤ sum) (hs1 : sum ≤ 9999) : ∃ ν', F_Books_raise d sum ν = some (.inr none, ν') ∧ ν' 5 = ν 5 ∧ b_bk dl tm (q_rs tm d sum s) ν' := by
  have r0 := h.de0 d0 d1
  obtain ⟨b24, b27, b28, b29⟩ := h.bu
  unfold F_Books_raise
  simp (disch := omega) only [Int.add_zero, Int.mul_zero, Int.reduceMul, Int.reduceAdd, Int.mul_one, Int.tdiv_eq_ediv_of_nonneg, Int.tmod_eq_emod_of_nonneg, ↓reduceIte, ↓zLet_eq, ↓zRd_ok, ↓zWr_ok, ↓zC_V, ↓zC_I, ↓zC_J, zUp_at, zUp_ne, q_up_at, q_up_ne, w32_of, w64_of, q_le_T, q_le_F, q_lt_T, q_lt_F, q_eq_T, q_eq_F, true_or, or_true, or_false, false_or, false_and, and_false, r0, b24]
  have h1 := h.setD (w := 0) (v := s (30 + 4 * d) + sum) d0 d1 (by decide) (by decide)
  rw [Int.add_zero, Int.add_zero] at h1
  have h2 := h1.setL (k := 24) (j := 54) (v := s 54 + sum) (Or.inr ⟨by decide, by decide, by decide⟩)
  rw [b_isDealwise h2 ht]
  by_cases h3 : tm 3 = 1
  · rw [if_pos h3]
    have r1 := h2.ru0 (a := d) (l := 2 + d) (Or.inr ⟨d0, d1, rfl⟩)
    rw [q_up_ne (by omega), q_up_ne (by omega)] at r1
    simp (disch := omega) only [↓zC_I, w32_of, q_eq_F, ↓reduceIte, ↓zRd_ok, ↓zWr_ok, Int.add_zero, r1]
    have h4 := h2.setL (k := d * 4) (j := 54 + 4 * (2 + d)) (v := s (54 + 4 * (2 + d)) + sum) (Or.inl ⟨by omega, by omega, by omega⟩)
    refine ⟨_, rfl, by simp (disch := omega) only [zUp_ne], h4.congr (fun k _ _ => ?_)⟩
    unfold q_rs
    by_cases k1 : k = 30 + 4 * d
    · subst k1; simp (disch := omega) only [Int.add_zero, Int.mul_zero, Int.reduceMul, Int.reduceAdd, Int.mul_one, Int.tdiv_eq_ediv_of_nonneg, Int.tmod_eq_emod_of_nonneg, ↓reduceIte, ↓zLet_eq, ↓zRd_ok, ↓zWr_ok, ↓zC_V, ↓zC_I, ↓zC_J, zUp_at, zUp_ne, q_up_at, q_up_ne, w32_of, w64_of, q_le_T, q_le_F, q_lt_T, q_lt_F, q_eq_T, q_eq_F, true_or, or_true, or_false, false_or, false_and, and_false]
    · by_cases k2 : k = 54
      · subst k2; simp (disch := omega) only [Int.add_zero, Int.mul_zero, Int.reduceMul, Int.reduceAdd, Int.mul_one, Int.tdiv_eq_ediv_of_nonneg, Int.tmod_eq_emod_of_nonneg, ↓reduceIte, ↓zLet_eq, ↓zRd_ok, ↓zWr_ok, ↓zC_V, ↓zC_I, ↓zC_J, zUp_at, zUp_ne, q_up_at, q_up_ne, w32_of, w64_of, q_le_T, q_le_F, q_lt_T, q_lt_F, q_eq_T, q_eq_F, true_or, or_true, or_false, false_or, false_and, and_false]
      · by_cases k3 : k = 54 + 4 * (2 + d)
        · subst k3; simp (disch := omega) only [Int.add_zero, Int.mul_zero, Int.reduceMul, Int.reduceAdd, Int.mul_one, Int.tdiv_eq_ediv_of_nonneg, Int.tmod_eq_emod_of_nonneg, ↓reduceIte, ↓zLet_eq, ↓zRd_ok, ↓zWr_ok, ↓zC_V, ↓zC_I, ↓zC_J, zUp_at, zUp_ne, q_up_at, q_up_ne, w32_of, w64_of, q_le_T, q_le_F, q_lt_T, q_lt_F, q_eq_T, q_eq_F, true_or, or_true, or_false, false_or, false_and, and_false, and_self]
        · simp (disch := omega) only [Int.add_zero, Int.mul_zero, Int.reduceMul, Int.reduceAdd, Int.mul_one, Int.tdiv_eq_ediv_of_nonneg, Int.tmod_eq_emod_of_nonneg, ↓reduceIte, ↓zLet_eq, ↓zRd_ok, ↓zWr_ok, ↓zC_V, ↓zC_I, ↓zC_J, zUp_at, zUp_ne, q_up_at, q_up_ne, w32_of, w64_of, q_le_T, q_le_F, q_lt_T, q_lt_F, q_eq_T, q_eq_F, true_or, or_true, or_false, false_or, false_and, and_false]
  · rw [if_neg h3]
    simp (disch := omega) only [Int.add_zero, Int.mul_zero, Int.reduceMul, Int.reduceAdd, Int.mul_one, Int.tdiv_eq_ediv_of_nonneg, Int.tmod_eq_emod_of_nonneg, ↓reduceIte, ↓zLet_eq, ↓zRd_ok, ↓zWr_ok, ↓zC_V, ↓zC_I, ↓zC_J, zUp_at, zUp_ne, q_up_at, q_up_ne, w32_of, w64_of, q_le_T, q_le_F, q_lt_T, q_lt_F, q_eq_T, q_eq_F, true_or, or_true, or_false, false_or, false_and, and_false]
    refine ⟨_, rfl, by simp (disch := omega) only [zUp_ne], h2.congr (fun k _ _ => ?_)⟩
    unfold q_rs
    rw [if_neg (show ¬ (k = 54 + 4 * (2 + d) ∧ tm 3 = 1) from fun hh => h3 hh.2)]
    by_cases k1 : k = 30 + 4 * d
    · subst k1; simp (disch := omega) only [Int.add_zero, Int.mul_zero, Int.reduceMul, Int.reduceAdd, Int.mul_one, Int.tdiv_eq_ediv_of_nonneg, Int.tmod_eq_emod_of_nonneg, ↓reduceIte, ↓zLet_eq, ↓zRd_ok, ↓zWr_ok, ↓zC_V, ↓zC_I, ↓zC_J, zUp_at, zUp_ne, q_up_at, q_up_ne, w32_of, w64_of, q_le_T, q_le_F, q_lt_T, q_lt_F, q_eq_T, q_eq_F, true_or, or_true, or_false, false_or, false_and, and_false]
    · by_cases k2 : k = 54
      · subst k2; simp (disch := omega) only [Int.add_zero, Int.mul_zero, Int.reduceMul, Int.reduceAdd, Int.mul_one, Int.tdiv_eq_ediv_of_nonneg, Int.tmod_eq_emod_of_nonneg, ↓reduceIte, ↓zLet_eq, ↓zRd_ok, ↓zWr_ok, ↓zC_V, ↓zC_I, ↓zC_J, zUp_at, zUp_ne, q_up_at, q_up_ne, w32_of, w64_of, q_le_T, q_le_F, q_lt_T, q_lt_F, q_eq_T, q_eq_F, true_or, or_true, or_false, false_or, false_and, and_false]
      · simp (disch := omega) only [Int.add_zero, Int.mul_zero, Int.reduceMul, Int.reduceAdd, Int.mul_one, Int.tdiv_eq_ediv_of_nonneg, Int.tmod_eq_emod_of_nonneg, ↓reduceIte, ↓zLet_eq, ↓zRd_ok, ↓zWr_ok, ↓zC_V, ↓zC_I, ↓zC_J, zUp_at, zUp_ne, q_up_at, q_up_ne, w32_of, w64_of, q_le_T, q_le_F, q_lt_T, q_lt_F, q_eq_T, q_eq_F, true_or, or_true, or_false, false_or, false_and, and_false]
theorem b_remark {dl : Nat} {tm s : Int → Int} {ν : ZMem} {d sum : Int} (h : b_bk dl tm s ν) (d0 : 0 ≤ d) (d1 : d < 6) : ∃ ν', F_Books_remark d sum ν = some (.inr (some (zI (s (30 + 4 * d + 2)))), ν') ∧ b_bk dl tm (q_up s (30 + 4 * d + 2) sum) ν' := by
  have r0 := h.de (w := 2) d0 d1 (by decide) (by decide)
  unfold F_Books_remark
  simp (disch := omega) only [Int.add_zero, Int.mul_zero, Int.reduceMul, Int.reduceAdd, Int.mul_one, Int.tdiv_eq_ediv_of_nonneg, Int.tmod_eq_emod_of_nonneg, ↓reduceIte, ↓zLet_eq, ↓zRd_ok, ↓zWr_ok, ↓zC_V, ↓zC_I, ↓zC_J, zUp_at, zUp_ne, q_up_at, q_up_ne, w32_of, w64_of, q_le_T, q_le_F, q_lt_T, q_lt_F, q_eq_T, q_eq_F, true_or, or_true, or_false, false_or, false_and, and_false, r0]
  exact ⟨_, rfl, h.setD d0 d1 (by decide) (by decide)⟩
